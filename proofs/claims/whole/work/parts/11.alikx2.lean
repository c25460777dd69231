/-! alike: the component, its loops -/
section
abbrev gx_J : Type := Int32 → Int32 → Int32 → Int32 → Int32 → (Nat → Int32) → (Nat → Int32) → (Nat → Int32) → (Nat → Int32) → (Nat → Int32) → (Nat → Int32) → (Nat → Int32) → (Nat → Int64) → (Nat → Int32) → (Nat → Int32) → (Nat → Int32) → (Nat → Int32) → (Nat → Int32) → (Nat → Int32) → (Nat → Int32) → (Nat → Int32) → (Nat → Int32) → (Nat → Int32) → Prop
variable {D V K B : Nat → Int32} {P L C S T : Nat → Option Nat} {F : Nat → Int64} {cu : Option Nat}
theorem gx_AI_n {p q t r i : Nat} {M0 M : Nat → Bool} {l0 r0 xrd xll xlr : Nat → Int32} {xlc : Int32} (h : gx_AI P K C T F p q t r M0 l0 r0 i M xlc xrd xll xlr) (hn : ¬ gw_it P K t r i) : gx_AI P K C T F p q t r M0 l0 r0 (i + 1) M xlc xrd xll xlr := by
  obtain ⟨a, b, c, d, e⟩ := h
  refine ⟨a, b, c, d, fun j hj hi => ?_⟩
  by_cases ej : j = i
  · rw [ej] at hi; exact absurd hi hn
  · exact e j (by omega) hi
theorem gx_AI_m {p q t r i k : Nat} {M0 M : Nat → Bool} {l0 r0 xrd xll xlr : Nat → Int32} {xlc : Int32} (h : gx_AI P K C T F p q t r M0 l0 r0 i M xlc xrd xll xlr) (hn : ∀ j, i ≤ j → j < k → ¬ gw_it P K t r j) : gx_AI P K C T F p q t r M0 l0 r0 k M xlc xrd xll xlr := by
  obtain ⟨a, b, c, d, e⟩ := h
  refine ⟨a, b, c, d, fun j hj hi => ?_⟩
  by_cases ej : j < i
  · exact e j ej hi
  · exact absurd hi (hn j (by omega) hj)
theorem gw_nlk {p q t r i : Nat} (cp : C p = some t) (cq : C q = some r) (hi : i < 30) (hit : gw_it P K t r i) (h : ¬ gw_gd P K T F t r p q (i % 10)) : ¬ gw_lk P K C T F p q := fun ⟨t', r', h1, h2, _, h4⟩ => by
  rw [cp] at h1
  rw [cq] at h2
  cases h1
  cases h2
  exact h (h4 i hi hit)
section
variable {xcu xar xrc xlc : Int32} {xde xpt xve xok xlt xty xpi : Nat → Int32} {xnu : Nat → Int64} {xtg xse xso xnf xrn xre xrl xrd xll xlr : Nat → Int32}
theorem gx_ag70 (hC : gw_C D xok P L) (hO : gw_O D P xok C S T F) (hf : gx_f F xnu) (hg : gx_g T xtg) {post : Int32 → SX → Prop} {J : gx_J} {p q t r k e f : Nat} {M0 : Nat → Bool} {l0 r0 : Nat → Int32} (hp : p < 32) (hq : q < 32) (cp : C p = some t) (cq : C q = some r) (hk : k < 3) (he : gw_an P k (some t) = some e) (hfe : f = 6 * (r / 6) + e % 6) (hin : gw_in P r f) (h0 : ¬ gw_lk P xok C T F p q → ∀ xlc xrd xll xlr, post 0 (xcu, xar, xrc, xlc, xde, xpt, xve, xok, xlt, xty, xpi, xnu, xtg, xse, xso, xnf, xrn, xre, xrl, xrd, xll, xlr)) (hJ : ∀ M xlc xrd xll xlr, gx_AI P xok C T F p q t r M0 l0 r0 (10 * (k + 1)) M xlc xrd xll xlr → J (nI (k + 1)) xcu xar xrc xlc xde xpt xve xok xlt xty xpi xnu xtg xse xso xnf xrn xre xrl xrd xll xlr) : ∀ d j M xlc xrd xll xlr, j + d = 10 → gx_AI P xok C T F p q t r M0 l0 r0 (10 * k + j) M xlc xrd xll xlr → wX_agree_70 post J (nI (gw_d p)) (nI (gw_d q)) (nI k) (nI e) (nI f) (d + 1) (nI j) xcu xar xrc xlc xde xpt xve xok xlt xty xpi xnu xtg xse xso xnf xrn xre xrl xrd xll xlr := by
  have hvt := hO.1 p hp
  rw [cp] at hvt
  have hvr := hO.1 q hq
  rw [cq] at hvr
  obtain ⟨e1, e2, e3⟩ := gw_v_in hC hvt ⟨k, hk, he⟩ e rfl
  obtain ⟨f1, f2, f3⟩ := gw_v_in hC hvr hin f rfl
  have dp := gw_dlt hp
  have dq := gw_dlt hq
  have tv := hvt t rfl
  have rv := hvr r rfl
  intro d
  induction d with
  | zero =>
    intro j M xlc xrd xll xlr hj hA
    have : j = 10 := by omega
    subst this
    exact br_t (nI_le (a := 10) (by omega) (by omega)) (nm_r (nI_1 k) (hJ M _ _ _ _ (by rw [show 10 * (k + 1) = 10 * k + 10 by omega]; exact hA)))
  | succ d ih =>
    intro j M xlc xrd xll xlr hj hA
    have b1 := gw_e3 e j
    have b2 := gw_e3 f j
    have i1 : (10 * k + j) / 10 = k := by omega
    have i2 : (10 * k + j) % 10 = j := by omega
    have hit : gw_it P xok t r (10 * k + j) ↔ ¬ xok (10 * e + j) = -1 ∧ ¬ xok (10 * f + j) = -1 := by
      unfold gw_it
      rw [i1, i2, he]
      constructor
      · intro ⟨e', h1, h2, h3, h4⟩
        cases h1
        rw [← hfe] at h4
        exact ⟨h3, h4⟩
      · intro ⟨h3, h4⟩
        refine ⟨e, rfl, ?_, h3, ?_⟩
        · rw [← hfe]; exact hin
        · rw [← hfe]; exact h4
    refine br_f (nI_ge (b := 10) (by omega) (by omega)) (br_f (gw_nm (by omega)) ⟨by rw [b1]; exact vp_in_nI (by omega) (by omega), nm_r (e' := xok (10 * e + j)) (by rw [b1, nI_clamp (by omega)]) ⟨by rw [b2]; exact vp_in_nI (by omega) (by omega), nm_r (e' := xok (10 * f + j)) (by rw [b2, nI_clamp (by omega)]) ?_⟩⟩)
    refine br_c (fun h7 => nm_r (nI_1 j) (ih (j + 1) M _ _ _ _ (by omega) (gx_AI_n hA (fun z => (hit.mp z).1 h7)))) (fun h7 => br_c (fun h8 => nm_r (nI_1 j) (ih (j + 1) M _ _ _ _ (by omega) (gx_AI_n hA (fun z => (hit.mp z).2 h8)))) (fun h8 => ?_))
    have hi := hit.mpr ⟨h7, h8⟩
    have k1 := hC.2.2.2.1 t tv.1 tv.2.2 e j ⟨k, hk, he⟩ (by omega) h7
    have k2 := hC.2.2.2.1 r rv.1 rv.2.2 f j hin (by omega) h8
    have va : (gw_kd P xok t j = 4 ↔ gw_kd P xok r j = 4) → wpX_valuesAgree (fun r_70 u => match u with | (xcu1, xar1, xrc1, xlc1, xde1, xpt1, xve1, xok1, xlt1, xty1, xpi1, xnu1, xtg1, xse1, xso1, xnf1, xrn1, xre1, xrl1, xrd1, xll1, xlr1) => (((r_70 = 0 → (post 0 (xcu1, xar1, xrc1, xlc1, xde1, xpt1, xve1, xok1, xlt1, xty1, xpi1, xnu1, xtg1, xse1, xso1, xnf1, xrn1, xre1, xrl1, xrd1, xll1, xlr1))) ∧ (¬ r_70 = 0 → (∀ x6_94 : Int32, x6_94 = nI j + 1 → (wX_agree_70 post J (nI (gw_d p)) (nI (gw_d q)) (nI k) (nI e) (nI f) (d + 1) x6_94 xcu1 xar1 xrc1 xlc1 xde1 xpt1 xve1 xok1 xlt1 xty1 xpi1 xnu1 xtg1 xse1 xso1 xnf1 xrn1 xre1 xrl1 xrd1 xll1 xlr1)))))) (xcu, xar, xrc, xlc, xde, xpt, xve, xok, xlt, xty, xpi, xnu, xtg, xse, xso, xnf, xrn, xre, xrl, xrd, xll, xlr) ((nI (gw_d p) * 10) + nI j) ((nI (gw_d q) * 10) + nI j) := fun hkk => by
      rw [gw_e3, gw_e3]
      have := gx_va (xcu := xcu) (xar := xar) (xrc := xrc) (xde := xde) (xpt := xpt) (xve := xve) (xok := xok) (xlt := xlt) (xty := xty) (xpi := xpi) (xse := xse) (xso := xso) (xnf := xnf) (xrn := xrn) (xre := xre) (xrl := xrl) (post := fun r_70 u => match u with | (xcu1, xar1, xrc1, xlc1, xde1, xpt1, xve1, xok1, xlt1, xty1, xpi1, xnu1, xtg1, xse1, xso1, xnf1, xrn1, xre1, xrl1, xrd1, xll1, xlr1) => (((r_70 = 0 → (post 0 (xcu1, xar1, xrc1, xlc1, xde1, xpt1, xve1, xok1, xlt1, xty1, xpi1, xnu1, xtg1, xse1, xso1, xnf1, xrn1, xre1, xrl1, xrd1, xll1, xlr1))) ∧ (¬ r_70 = 0 → (∀ x6_94 : Int32, x6_94 = nI j + 1 → (wX_agree_70 post J (nI (gw_d p)) (nI (gw_d q)) (nI k) (nI e) (nI f) (d + 1) x6_94 xcu1 xar1 xrc1 xlc1 xde1 xpt1 xve1 xok1 xlt1 xty1 xpi1 xnu1 xtg1 xse1 xso1 xnf1 xrn1 xre1 xrl1 xrd1 xll1 xlr1)))))) hO hf hg hp hq cp cq (i := 10 * k + j) (by omega) hi (by rw [i2]; exact hkk) hA (fun hn lc rd ll lr => br_t rfl (h0 (gw_nlk cp cq (by omega) hi hn) _ _ _ _)) (fun M' lc rd ll lr hA' => br_f (by decide) (nm_r (nI_1 j) (ih (j + 1) M' _ _ _ _ (by omega) hA')))
      rw [i2] at this
      exact this
    have ng : ¬ (gw_kd P xok t j = 4 ↔ gw_kd P xok r j = 4) → post 0 (xcu, xar, xrc, xlc, xde, xpt, xve, xok, xlt, xty, xpi, xnu, xtg, xse, xso, xnf, xrn, xre, xrl, xrd, xll, xlr) := fun hn => h0 (gw_nlk cp cq (by omega) hi (fun z => hn (by have := z.1; rw [i2] at this; exact this))) _ _ _ _
    refine br_c (fun h74 => ?_) (fun h74 => ?_)
    · refine br_c (fun h84 => br_t rfl (va ?_)) (fun h84 => br_f (by decide) (ng ?_))
      · rw [k1, k2]; exact ⟨fun _ => h84, fun _ => h74⟩
      · rw [k1, k2]; exact fun z => h84 (z.mp h74)
    · refine br_c (fun h84 => br_f (by decide) (ng ?_)) (fun h84 => br_t rfl (va ?_))
      · rw [k1, k2]; exact fun z => h74 (z.mpr h84)
      · rw [k1, k2]; exact ⟨fun z => absurd z h74, fun z => absurd z h84⟩
theorem gx_ag25 (hC : gw_C D xok P L) (hx : gx_C D P L xpt xlt) (hO : gw_O D P xok C S T F) (ht : gx_t C xty) (hf : gx_f F xnu) (hg : gx_g T xtg) {post : Int32 → SX → Prop} {p q t r : Nat} {M0 : Nat → Bool} {l0 r0 : Nat → Int32} (hp : p < 32) (hq : q < 32) (cp : C p = some t) (cq : C q = some r) (h0 : ¬ gw_lk P xok C T F p q → ∀ xlc xrd xll xlr, post 0 (xcu, xar, xrc, xlc, xde, xpt, xve, xok, xlt, xty, xpi, xnu, xtg, xse, xso, xnf, xrn, xre, xrl, xrd, xll, xlr)) (h1 : ∀ M xlc xrd xll xlr, gx_AI P xok C T F p q t r M0 l0 r0 30 M xlc xrd xll xlr → post 1 (xcu, xar, xrc, xlc, xde, xpt, xve, xok, xlt, xty, xpi, xnu, xtg, xse, xso, xnf, xrn, xre, xrl, xrd, xll, xlr)) : ∀ d k M xlc xrd xll xlr, k + d = 3 → gx_AI P xok C T F p q t r M0 l0 r0 (10 * k) M xlc xrd xll xlr → wX_agree_25 post (nI (gw_d p)) (nI (gw_d q)) (d + 1) (nI k) xcu xar xrc xlc xde xpt xve xok xlt xty xpi xnu xtg xse xso xnf xrn xre xrl xrd xll xlr := by
  have hvt := hO.1 p hp
  rw [cp] at hvt
  have hvr := hO.1 q hq
  rw [cq] at hvr
  have dp := gw_dlt hp
  have dq := gw_dlt hq
  have rv := hvr r rfl
  intro d
  induction d with
  | zero =>
    intro k M xlc xrd xll xlr hk hA
    have : k = 3 := by omega
    subst this
    exact br_t (nI_le (a := 3) (by omega) (by omega)) (h1 M _ _ _ _ hA)
  | succ d ih =>
    intro k M xlc xrd xll xlr hk hA
    refine br_f (nI_ge (b := 3) (by omega) (by omega)) ⟨vp_in_nI dp (by omega), ?_⟩
    rw [nI_clamp (by omega), nI_clamp (by omega), ht.1 p hp, ht.1 q hq, cp, cq]
    -- no shared field at this level
    have none70 : ∀ x4, (∀ j, 10 * k ≤ j → j < 10 * (k + 1) → ¬ gw_it P xok t r j) → wX_agree_70 post (wX_agree_25 post (nI (gw_d p)) (nI (gw_d q)) (d + 1)) (nI (gw_d p)) (nI (gw_d q)) (nI k) x4 (-1) 1 0 xcu xar xrc xlc xde xpt xve xok xlt xty xpi xnu xtg xse xso xnf xrn xre xrl xrd xll xlr := fun x4 hn =>
      br_f (by decide) (br_t rfl (nm_r (nI_1 k) (ih (k + 1) M _ _ _ _ (by omega) (gx_AI_m hA hn))))
    refine gx_ancestor hC hx (by omega) hvt ?_
    cases he : gw_an P k (some t) with
    | none =>
      refine br_t rfl ⟨1, none70 _ (fun j j1 j2 hi => ?_)⟩
      obtain ⟨e, h2, _⟩ := hi
      rw [show j / 10 = k by omega, he] at h2
      exact absurd h2 (by simp)
    | some e =>
      have hve := gw_v_an hC k _ hvt
      rw [he] at hve
      have ev := hve e rfl
      refine br_f (gw_nm (by omega)) ⟨vp_in_nI dq (by omega), gx_namesake hC hx (s := q / 16) (by omega) rfl hvr (fun hin => ⟨11, ?_⟩) (fun hin => ⟨1, none70 _ (fun j j1 j2 hi => ?_)⟩)⟩
      · have hfr : 6 * (q / 16) + e % 6 = 6 * (r / 6) + e % 6 := by omega
        exact gx_ag70 hC hO hf hg hp hq cp cq (by omega) he hfr hin h0 (fun M' lc rd ll lr hA' => ih (k + 1) M' _ _ _ _ (by omega) hA') 10 0 M _ _ _ _ (by omega) hA
      · obtain ⟨e', h2, h3, _⟩ := hi
        rw [show j / 10 = k by omega, he] at h2
        cases h2
        rw [show 6 * (r / 6) + e % 6 = 6 * (q / 16) + e % 6 by omega] at h3
        exact hin h3
theorem gx_agree (hC : gw_C D xok P L) (hx : gx_C D P L xpt xlt) (hO : gw_O D P xok C S T F) (ht : gx_t C xty) (hf : gx_f F xnu) (hg : gx_g T xtg) {post : Int32 → SX → Prop} {p q : Nat} {M0 : Nat → Bool} (hp : p < 32) (hq : q < 32) (cp : C p ≠ none) (cq : C q ≠ none) (hR : gx_R2 (p / 16) (q / 16) M0 xlc xrd xll xlr) (h0 : ¬ gw_lk P xok C T F p q → ∀ xlc xrd xll xlr, post 0 (xcu, xar, xrc, xlc, xde, xpt, xve, xok, xlt, xty, xpi, xnu, xtg, xse, xso, xnf, xrn, xre, xrl, xrd, xll, xlr)) (h1 : gw_lk P xok C T F p q → ∀ M xlc' xrd' xll' xlr', gx_R2 (p / 16) (q / 16) M xlc' xrd' xll' xlr' → (∀ n, n < 256 → M0 n = true → M n = true) → (∀ a, a < gw_cn M0 256 → xll' a = xll a ∧ xlr' a = xlr a) → (∀ n, n < 256 → M n = true → M0 n = true ∨ gw_ed P xok C T p q (16 * (p / 16) + n / 16) (16 * (q / 16) + n % 16)) → (∀ z w, gw_ed P xok C T p q z w → M (16 * (z % 16) + w % 16) = true) → post 1 (xcu, xar, xrc, xlc', xde, xpt, xve, xok, xlt, xty, xpi, xnu, xtg, xse, xso, xnf, xrn, xre, xrl, xrd', xll', xlr')) : wpX_agree post (xcu, xar, xrc, xlc, xde, xpt, xve, xok, xlt, xty, xpi, xnu, xtg, xse, xso, xnf, xrn, xre, xrl, xrd, xll, xlr) (nI (gw_d p)) (nI (gw_d q)) := by
  have dp := gw_dlt hp
  have dq := gw_dlt hq
  cases cp' : C p with
  | none => exact absurd cp' cp
  | some t =>
    cases cq' : C q with
    | none => exact absurd cq' cq
    | some r =>
      have hvt := hO.1 p hp t cp'
      have hvr := hO.1 q hq r cq'
      refine ⟨vp_in_nI dp (by omega), gw_6, vp_in_nI dq (by omega), gw_6, ?_⟩
      rw [nI_clamp (by omega), nI_clamp (by omega), ht.1 p hp, ht.1 q hq, cp', cq']
      have q1 : (gw_o (some t) - gw_o (some t) / 6 * 6 = gw_o (some r) - gw_o (some r) / 6 * 6) ↔ t % 6 = r % 6 := by
        show (nI t - nI t / 6 * 6 = nI r - nI r / 6 * 6) ↔ _
        rw [gw_m6 (by omega), gw_m6 (by omega), nI_eq (by omega) (by omega)]
      refine ek_if q1 (fun hm => ⟨4, gx_ag25 hC hx hO ht hf hg hp hq cp' cq' (M0 := M0) (l0 := xll) (r0 := xlr) h0 (fun M lc rd ll lr hA => ?_) 3 0 M0 _ _ _ _ (by omega) ⟨hR, fun _ _ h => h, fun _ _ => ⟨rfl, rfl⟩, fun _ _ h => Or.inl h, fun j hj => by omega⟩⟩) (fun hm => h0 (fun ⟨t', r', a, b, c, _⟩ => ?_) _ _ _ _)
      · obtain ⟨a1, a2, a3, a4, a5⟩ := hA
        refine h1 ⟨t, r, cp', cq', hm, fun i hi hit => (a5 i hi hit).1⟩ M _ _ _ _ a1 a2 a3 a4 (fun z w ⟨t', r', i, b1, b2, b3, b4, b5, b6⟩ => ?_)
        rw [cp'] at b1
        rw [cq'] at b2
        cases b1
        cases b2
        exact (a5 i b3 b4).2 z w b5 b6
      · rw [cp'] at a
        rw [cq'] at b
        cases a
        cases b
        exact hm c
theorem gx_al53 (hC : gw_C D xok P L) (hx : gx_C D P L xpt xlt) (hO : gw_O D P xok C S T F) (ht : gx_t C xty) (hf : gx_f F xnu) (hg : gx_g T xtg) {post : Int32 → SX → Prop} {p q : Nat} (hp : p < 32) (hq : q < 32) (cp : C p ≠ none) (cq : C q ≠ none) (h0 : ¬ gw_Al P xok C T F p q → ∀ xlc xrd xll xlr, post 0 (xcu, xar, xrc, xlc, xde, xpt, xve, xok, xlt, xty, xpi, xnu, xtg, xse, xso, xnf, xrn, xre, xrl, xrd, xll, xlr)) (h1 : gw_Al P xok C T F p q → ∀ xlc xrd xll xlr, post 1 (xcu, xar, xrc, xlc, xde, xpt, xve, xok, xlt, xty, xpi, xnu, xtg, xse, xso, xnf, xrn, xre, xrl, xrd, xll, xlr)) : ∀ d i M xlc xrd xll xlr, i + d = 256 → gx_R2 (p / 16) (q / 16) M xlc xrd xll xlr → M (16 * (p % 16) + q % 16) = true → (∀ n, n < 256 → M n = true → gw_RP P xok C T p q (16 * (p / 16) + n / 16) (16 * (q / 16) + n % 16)) → (∀ a n, a < i → a < gw_cn M 256 → n < 256 → xll a = nI (32 * (p / 16) + n / 16) → xlr a = nI (32 * (q / 16) + n % 16) → gw_lk P xok C T F (16 * (p / 16) + n / 16) (16 * (q / 16) + n % 16) ∧ ∀ z w, gw_ed P xok C T (16 * (p / 16) + n / 16) (16 * (q / 16) + n % 16) z w → M (16 * (z % 16) + w % 16) = true) → wX_alike_53 post (d + 1) (nI i) xcu xar xrc xlc xde xpt xve xok xlt xty xpi xnu xtg xse xso xnf xrn xre xrl xrd xll xlr := by
  -- the end
  have fin : ∀ i M xlc xrd xll xlr, gx_R2 (p / 16) (q / 16) M xlc xrd xll xlr → gw_cn M 256 ≤ i → M (16 * (p % 16) + q % 16) = true → (∀ a n, a < i → a < gw_cn M 256 → n < 256 → xll a = nI (32 * (p / 16) + n / 16) → xlr a = nI (32 * (q / 16) + n % 16) → gw_lk P xok C T F (16 * (p / 16) + n / 16) (16 * (q / 16) + n % 16) ∧ ∀ z w, gw_ed P xok C T (16 * (p / 16) + n / 16) (16 * (q / 16) + n % 16) z w → M (16 * (z % 16) + w % 16) = true) → post 1 (xcu, xar, xrc, xlc, xde, xpt, xve, xok, xlt, xty, xpi, xnu, xtg, xse, xso, xnf, xrn, xre, xrl, xrd, xll, xlr) := fun i M lc rd ll lr hR hc hm ha => by
    refine h1 (fun a b hab => ?_) _ _ _ _
    have key := hab (fun a b => gw_RP P xok C T p q a b ∧ a / 16 = p / 16 ∧ b / 16 = q / 16 ∧ M (16 * (a % 16) + b % 16) = true ) ⟨gw_RP_0, rfl, rfl, hm⟩ (fun a b z w hQ he => ?_)
    · obtain ⟨kr, k1, k2, k3⟩ := key
      obtain ⟨j, j1, j2, j3⟩ := hR.2.2.2 _ (by omega) k3
      have := (ha j _ (by omega) j1 (by omega) j2 j3).1
      rw [show 16 * (p / 16) + (16 * (a % 16) + b % 16) / 16 = a by omega, show 16 * (q / 16) + (16 * (a % 16) + b % 16) % 16 = b by omega] at this
      exact this
    · obtain ⟨kr, k1, k2, k3⟩ := hQ
      obtain ⟨l1, l2, l3, l4, l5, l6⟩ := gw_RP_l hO hp hq cp cq kr
      obtain ⟨m1, m2, m3, m4, m5, m6⟩ := gw_ed_l hO l1 l4 he
      obtain ⟨j, j1, j2, j3⟩ := hR.2.2.2 _ (by omega) k3
      have := (ha j _ (by omega) j1 (by omega) j2 j3).2 z w
      rw [show 16 * (p / 16) + (16 * (a % 16) + b % 16) / 16 = a by omega, show 16 * (q / 16) + (16 * (a % 16) + b % 16) % 16 = b by omega] at this
      exact ⟨gw_RP_s kr he, by omega, by omega, this he⟩
  intro d
  induction d with
  | zero =>
    intro i M xlc xrd xll xlr hi hR hm hrp ha
    have hle := gw_cn_le (p := M) 256
    exact br_t (nI_le (a := 256) (by omega) (by omega)) (fin i M _ _ _ _ hR (by omega) hm ha)
  | succ d ih =>
    intro i M xlc xrd xll xlr hi hR hm hrp ha
    have hle := gw_cn_le (p := M) 256
    refine br_f (nI_ge (b := 256) (by omega) (by omega)) (pk_le (gw_cn M 256) i (fun h => fin i M _ _ _ _ hR h hm ha) (fun h => ⟨vp_in_nI (by omega) (by omega), vp_in_nI (by omega) (by omega), ?_⟩) (hx := hR.1))
    obtain ⟨n, n1, n2, n3, n4⟩ := hR.2.2.1 i h
    have hr := hrp n n1 n2
    obtain ⟨l1, l2, l3, l4, l5, l6⟩ := gw_RP_l hO hp hq cp cq hr
    rw [nI_clamp (by omega), n3, n4, ← gw_d1 (s := p / 16) (n := n / 16) (by omega), ← gw_d1 (s := q / 16) (n := n % 16) (by omega)]
    refine gx_agree hC hx hO ht hf hg l1 l4 l3 l6 (M0 := M) (by rw [l2, l5]; exact hR) (fun hn lc rd ll lr => br_t rfl (h0 (fun z => hn (z _ _ hr)) _ _ _ _)) (fun hl M' lc rd ll lr g1 g2 g3 g4 g5 => br_f (by decide) (nm_r (nI_1 i) (ih (i + 1) M' _ _ _ _ (by omega) (by rw [l2, l5] at g1; exact g1) (g2 _ (by omega) hm) ?_ ?_)))
    · intro m m1 m2
      rcases g4 m m1 m2 with x | x
      · exact hrp m m1 x
      · rw [l2, l5] at x; exact gw_RP_s hr x
    · intro a m a1 a2 m1 x y
      by_cases ea : a = i
      · subst ea
        obtain ⟨y1, y2⟩ := g3 a h
        rw [y1, n3, nI_eq (by omega) (by omega)] at x
        rw [y2, n4, nI_eq (by omega) (by omega)] at y
        have : m = n := by omega
        subst this
        exact ⟨hl, g5⟩
      · obtain ⟨y1, y2⟩ := g3 a (by omega)
        rw [y1] at x
        rw [y2] at y
        obtain ⟨b1, b2⟩ := ha a m (by omega) (by omega) m1 x y
        exact ⟨b1, fun z w he => g2 _ (by omega) (b2 z w he)⟩
theorem gx_al20 {post : Int32 → SX → Prop} {x1 x2 : Int32} : ∀ d j xrd, j + d = 256 → wpX_relate (fun u => match u with | (xcu51, xar51, xrc51, xlc51, xde51, xpt51, xve51, xok51, xlt51, xty51, xpi51, xnu51, xtg51, xse51, xso51, xnf51, xrn51, xre51, xrl51, xrd51, xll51, xlr51) => (∃ n53 : Nat, wX_alike_53 post n53 0 xcu51 xar51 xrc51 xlc51 xde51 xpt51 xve51 xok51 xlt51 xty51 xpi51 xnu51 xtg51 xse51 xso51 xnf51 xrn51 xre51 xrl51 xrd51 xll51 xlr51)) (xcu, xar, xrc, 0, xde, xpt, xve, xok, xlt, xty, xpi, xnu, xtg, xse, xso, xnf, xrn, xre, xrl, gw_fi xrd j 256 0, xll, xlr) x1 x2 → wX_alike_20 post x1 x2 xcu xar xrc xlc (d + 1) (nI j) xde xpt xve xok xlt xty xpi xnu xtg xse xso xnf xrn xre xrl xrd xll xlr := by
  intro d
  induction d with
  | zero =>
    intro j xrd h1 hp
    rw [gw_fi_e (by omega)] at hp
    exact br_t (nI_le (a := 256) (by omega) (by omega)) hp
  | succ d ih =>
    intro j xrd h1 hp
    refine br_f (nI_ge (b := 256) (by omega) (by omega)) ⟨vp_in_nI (by omega) (by omega), nm_r (by rw [nI_clamp (by omega), gw_n0]) (nm_r (nI_1 j) (ih (j + 1) _ (by omega) ?_))⟩
    rw [gw_fi_s (by omega)]
    exact hp
theorem gx_alike (hC : gw_C D xok P L) (hx : gx_C D P L xpt xlt) (hO : gw_O D P xok C S T F) (ht : gx_t C xty) (hf : gx_f F xnu) (hg : gx_g T xtg) {post : Int32 → SX → Prop} {p q : Nat} (hp : p < 32) (hq : q < 32) (cp : C p ≠ none) (cq : C q ≠ none) (h0 : ¬ gw_Al P xok C T F p q → ∀ xlc xrd xll xlr, post 0 (xcu, xar, xrc, xlc, xde, xpt, xve, xok, xlt, xty, xpi, xnu, xtg, xse, xso, xnf, xrn, xre, xrl, xrd, xll, xlr)) (h1 : gw_Al P xok C T F p q → ∀ xlc xrd xll xlr, post 1 (xcu, xar, xrc, xlc, xde, xpt, xve, xok, xlt, xty, xpi, xnu, xtg, xse, xso, xnf, xrn, xre, xrl, xrd, xll, xlr)) : ∃ n20, wX_alike_20 post (nI (gw_d p)) (nI (gw_d q)) xcu xar xrc xlc n20 0 xde xpt xve xok xlt xty xpi xnu xtg xse xso xnf xrn xre xrl xrd xll xlr := by
  refine ⟨257, gx_al20 256 0 xrd (by omega) ?_⟩
  have ep : gw_d p = 32 * (p / 16) + p % 16 := by unfold gw_d; omega
  have eq : gw_d q = 32 * (q / 16) + q % 16 := by unfold gw_d; omega
  rw [ep, eq]
  refine gx_relate (M := fun _ => false) (by omega) (by omega) (by omega) (by omega) ⟨by rw [gw_cn_f]; rfl, fun n hn => gw_fi_i (by omega), fun i hi => by rw [gw_cn_f] at hi; omega, fun n _ h => absurd h Bool.false_ne_true⟩ (fun lc rd ll lr hR _ => ⟨257, gx_al53 hC hx hO ht hf hg hp hq cp cq h0 h1 256 0 _ _ _ _ _ (by omega) hR gw_us (fun n hn hm => ?_) (fun a n ha => by omega)⟩)
  by_cases e : n = 16 * (p % 16) + q % 16
  · rw [show 16 * (p / 16) + n / 16 = p by omega, show 16 * (q / 16) + n % 16 = q by omega]
    exact gw_RP_0
  · rw [gw_un e] at hm; exact absurd hm Bool.false_ne_true
end
end
