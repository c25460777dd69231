/-! collect: the reference -/
section
variable {D V K B : Nat → Int32} {P L C S T : Nat → Option Nat} {F : Nat → Int64} {cu : Option Nat}
theorem gw_toI {z : Nat} (hz : z < 100) : (gw_o (some z)).toInt64.toInt32 = nI z := by
  show (nI z).toInt64.toInt32 = _
  rw [nI_l (by omega), lN_i]
theorem gw_tln {z : Nat} (hz : z < 100) : ¬ (gw_o (some z)).toInt64 < 0 := by
  show ¬ (nI z).toInt64 < 0
  rw [nI_l (by omega)]
  have h : ¬ lN z < lN 0 := by rw [lN_lt (by omega) (by omega)]; omega
  exact h
theorem gw_tl0 : (gw_o none).toInt64 < 0 := by decide
section
variable {ycu ydp ylm : Int32} {yde yve ypa yow yla ycl ypr ypi yar : Nat → Int32} {yva : Nat → Int64} {yfr yma ydo yro : Nat → Int32}
theorem gy_rt22 (hO : gw_O D P K C S T F) (ht : gy_t C ycl) (hS : gy_s S ypr) {post : Int32 → Prop} {o : Nat} (ho : o < 32) (h1 : (∃ q, q < 32 ∧ S q = some o) → post 1) (h0 : (¬ ∃ q, q < 32 ∧ S q = some o) → post 0) : ∀ d q, q + d = 32 → (∀ i, i < q → S i ≠ some o) → wY_root_22 post (nI o) ycu ydp ylm yde yve ypa yow yla ycl ypr ypi yar yva yfr yma ydo yro (d + 1) (nI q) := by
  intro d
  induction d with
  | zero =>
    intro q hq hb
    exact br_t (nI_le (a := 32) (by omega) (by omega)) (h0 (fun ⟨i, a, b⟩ => hb i (by omega) b))
  | succ d ih =>
    intro q hq hb
    have hi : vp_in (nI q) 32 := vp_in_nI (by omega) (by omega)
    have nx : S q ≠ some o → ∀ i, i < q + 1 → S i ≠ some o := fun h i hi => by
      by_cases e : i = q
      · rw [e]; exact h
      · exact hb i (by omega)
    refine br_f (nI_ge (b := 32) (by omega) (by omega)) ⟨hi, ?_⟩
    rw [nI_clamp (by omega), ht q (by omega), hS q (by omega)]
    cases hc : C q with
    | none => exact br_t (by decide) (nm_r (nI_1 q) (ih (q + 1) (by omega) (nx (fun z => (hO.2.1 q o (by omega) z).2.2.1 hc))))
    | some t =>
      refine br_f (gw_p0 (by omega)) ⟨hi, ?_⟩
      have q1 : (gw_o (S q) = nI o) ↔ S q = some o := by
        cases hs : S q with
        | none => exact ⟨fun z => absurd z.symm (gw_nm (by omega)), fun z => absurd z (by simp)⟩
        | some z =>
          have := (hO.2.1 q z (by omega) hs).1
          show nI z = nI o ↔ _
          rw [nI_eq (by omega) (by omega), Option.some.injEq]
      exact ek_if q1 (fun h => h1 ⟨q, by omega, h⟩) (fun h => nm_r (nI_1 q) (ih (q + 1) (by omega) (nx h)))
theorem gy_root (hO : gw_O D P K C S T F) (ht : gy_t C ycl) (hb : gy_b B ypi) (hS : gy_s S ypr) {post : Int32 → Prop} {s n : Nat} (hs : s < 2) (hn : n < 16) (hc : C (16 * s + n) ≠ none) (h1 : gw_rt C S B s n → post 1) (h0 : ¬ gw_rt C S B s n → post 0) : wpY_root post (ycu, ydp, ylm, yde, yve, ypa, yow, yla, ycl, ypr, ypi, yar, yva, yfr, yma, ydo, yro) (nI (16 * s + n)) := by
  have hi : vp_in (nI (16 * s + n)) 32 := vp_in_nI (by omega) (by omega)
  refine ⟨hi, ?_⟩
  rw [nI_clamp (by omega), hb _ (by omega), hS _ (by omega)]
  refine br_c (fun hb0 => ⟨hi, ?_⟩) (fun hb0 => h1 ⟨hc, Or.inl hb0⟩)
  cases hq : S (16 * s + n) with
  | none =>
    refine br_t (by decide) ⟨33, gy_rt22 hO ht hS (by omega) (fun h => h1 ⟨hc, Or.inr (Or.inr h)⟩) (fun h => h0 (fun z => ?_)) 32 0 (by omega) (fun i hi => by omega)⟩
    rcases z.2 with z | z | z
    · exact z hb0
    · exact z hq
    · exact h z
  | some z =>
    have := (hO.2.1 _ z (by omega) hq).1
    exact br_f (gw_p0 (by omega)) (h1 ⟨hc, Or.inr (Or.inl (by rw [hq]; simp))⟩)
theorem gy_tgs (hC : gw_C D yow P L) (hy : gy_C D P L ypa yla) (hO : gw_O D P yow C S T F) (ht : gy_t C ycl) (hv : gy_v P yow C T F yva) {post : Int32 → Prop} {o t : Nat} (ho : o < 32) (hc : C o = some t) (hp : ∀ x, (∀ i, i < 32 → (bt x i = true ↔ ∃ a, a < 10 ∧ T (10 * o + a) = some i)) → post x) : ∀ d j x, j + d = 10 → (∀ i, i < 32 → (bt x i = true ↔ ∃ a, a < j ∧ T (10 * o + a) = some i)) → wY_targets_4 post (nI o) ycu ydp ylm yde yve ypa yow yla ycl ypr ypi yar yva yfr yma ydo yro (d + 1) x (nI j) := by
  have hvt := hO.1 o ho
  rw [hc] at hvt
  intro d
  induction d with
  | zero =>
    intro j x hj hb
    have : j = 10 := by omega
    subst this
    exact br_t (nI_le (a := 10) (by omega) (by omega)) (hp x hb)
  | succ d ih =>
    intro j x hj hb
    have e := gw_e7 o j
    have hi : vp_in (10 * nI o + nI j) 320 := by rw [e]; exact vp_in_nI (by omega) (by omega)
    have same : T (10 * o + j) = none → ∀ i, i < 32 → (bt x i = true ↔ ∃ a, a < j + 1 ∧ T (10 * o + a) = some i) := fun hn i hi => by
      rw [hb i hi]
      refine ⟨fun ⟨a, a1, a2⟩ => ⟨a, by omega, a2⟩, fun ⟨a, a1, a2⟩ => ?_⟩
      by_cases ea : a = j
      · rw [ea, hn] at a2; exact absurd a2 (by simp)
      · exact ⟨a, by omega, a2⟩
    refine br_f (nI_ge (b := 10) (by omega) (by omega)) (gy_kindOf hC hy ht ho hc hvt (by omega) (br_c (fun h4 => ⟨hi, ?_⟩) (fun h4 => nm_r (nI_1 j) (ih (j + 1) x (by omega) (same ((hO.2.2.1 o j t ho (by omega) hc).1 h4))))))
    rw [e, nI_clamp (by omega), hv o j t ho (by omega) hc, if_pos h4]
    cases hT : T (10 * o + j) with
    | none => exact br_t gw_tl0 (nm_r (nI_1 j) (ih (j + 1) x (by omega) (same hT)))
    | some z =>
      have hz := (hO.2.2.2 o j z ho (by omega) (by rw [hc]; simp) hT).1
      refine br_f (gw_tln (by omega)) ⟨by rw [← e]; exact hi, nm_e (nm_r (nI_1 j) (ih (j + 1) _ (by omega) (fun i hi => ?_)))⟩
      rw [gw_toI (by omega), gw_bor hz hi, hb i hi]
      constructor
      · intro h
        rcases h with ⟨a, a1, a2⟩ | h
        · exact ⟨a, by omega, a2⟩
        · exact ⟨j, by omega, by rw [hT, h]⟩
      · intro ⟨a, a1, a2⟩
        by_cases ea : a = j
        · rw [ea, hT] at a2
          injection a2 with a2
          exact Or.inr a2.symm
        · exact Or.inl ⟨a, by omega, a2⟩
theorem gy_c71 (hC : gw_C D yow P L) (hy : gy_C D P L ypa yla) (hO : gw_O D P yow C S T F) (ht : gy_t C ycl) (hv : gy_v P yow C T F yva) {post : Int32 → SY → Prop} {J : Int32 → Int32 → Prop} {s r : Nat} (hs : s < 2) : ∀ d j x, j + d = 16 → (∀ n, n < 16 → bt x (16 * s + n) = true → C (16 * s + n) ≠ none) → (∀ x', (∀ n, n < 16 → bt x (16 * s + n) = true → bt x' (16 * s + n) = true) → (∀ n m, j ≤ n → n < 16 → m < 16 → bt x (16 * s + n) = true → gw_eg T s n m → bt x' (16 * s + m) = true) → (∀ Q : Nat → Prop, (∀ n, n < 16 → bt x (16 * s + n) = true → Q n) → (∀ a b, a < 16 → b < 16 → Q a → gw_eg T s a b → Q b) → ∀ n, n < 16 → bt x' (16 * s + n) = true → Q n) → J x' (nI (r + 1))) → wY_collect_71 post J (nI s) (nI r) ycu ydp ylm yde yve ypa yow yla ycl ypr ypi yar yva yfr yma ydo yro (d + 1) x (nI (16 * s + j)) := by
  have e16 := gw_e6b s
  intro d
  induction d with
  | zero =>
    intro j x hj hl hp
    refine br_t (by rw [e16]; exact nI_le (by omega) (by omega)) (nm_r (nI_1 r) (hp x (fun _ _ h => h) (fun n m h1 h2 => by omega) (fun Q h _ n hn hx => h n hn hx)))
  | succ d ih =>
    intro j x hj hl hp
    refine br_f (by rw [e16]; exact nI_ge (by omega) (by omega)) (ek_if (gw_bit1 (by omega)) (fun hb => ?_) (fun hb => nm_r (nI_1 _) (ih (j + 1) x (by omega) hl (fun x' h1 h2 h3 => hp x' h1 (fun n m a b c g f => ?_) h3))))
    · have hcl := hl j (by omega) hb
      cases hc : C (16 * s + j) with
      | none => exact absurd hc hcl
      | some t =>
        refine ⟨11, gy_tgs hC hy hO ht hv (by omega) hc (fun y hb2 => nm_e (nm_r (nI_1 _) (ih (j + 1) _ (by omega) ?_ (fun x' h1 h2 h3 => hp x' ?_ ?_ ?_)))) 10 0 0 (by omega) (fun i _ => ⟨fun z => by rw [b_0] at z; exact absurd z (by decide), fun ⟨a, a1, _⟩ => by omega⟩)⟩
        · intro n hn hx
          rw [b_or, Bool.or_eq_true] at hx
          rcases hx with hx | hx
          · exact hl n hn hx
          · obtain ⟨a, a1, a2⟩ := (hb2 _ (by omega)).mp hx
            exact (hO.2.2.2 _ a _ (by omega) a1 hcl a2).2.2
        · intro n hn hx
          exact h1 n hn (by rw [b_or, hx]; rfl)
        · intro n m hn1 hn hm hx he
          by_cases en : n = j
          · subst en
            refine h1 m hm ?_
            obtain ⟨a, a1, a2⟩ := he
            rw [b_or, (hb2 _ (by omega)).mpr ⟨a, a1, a2⟩, Bool.or_true]
          · exact h2 n m (by omega) hn hm (by rw [b_or, hx]; rfl) he
        · intro Q hq hcl2 n hn hx
          refine h3 Q (fun a ha hxa => ?_) hcl2 n hn hx
          rw [b_or, Bool.or_eq_true] at hxa
          rcases hxa with hxa | hxa
          · exact hq a ha hxa
          · obtain ⟨c, c1, c2⟩ := (hb2 _ (by omega)).mp hxa
            exact hcl2 j a (by omega) ha (hq j (by omega) hb) ⟨c, c1, c2⟩
    · by_cases en : n = j
      · rw [en] at g; exact absurd g hb
      · exact h2 n m (by omega) b c g f
theorem gy_dru {post : Int32 → SY → Prop} {s : Nat} {Z : Nat → Bool} {x : Int32} (hs : s < 2) (hZ : ∀ n, n < 16 → (bt x (16 * s + n) = true ↔ Z n = true)) (hp : ∀ ycl, gy_t (gw_dr C Z s 16) ycl → post (nI (gw_dc C Z s 16)) (ycu, ydp, ylm, yde, yve, ypa, yow, yla, ycl, ypr, ypi, yar, yva, yfr, yma, ydo, yro)) : ∀ d j ycl, j + d = 16 → gy_t (gw_dr C Z s j) ycl → wY_collect_122 post (nI s) x ycu ydp ylm (d + 1) (nI (gw_dc C Z s j)) (nI (16 * s + j)) yde yve ypa yow yla ycl ypr ypi yar yva yfr yma ydo yro := by
  have e16 := gw_e6b s
  intro d
  induction d with
  | zero =>
    intro j ycl hj ht
    have : j = 16 := by omega
    subst this
    exact br_t (by rw [e16]; exact nI_le (by omega) (by omega)) (hp _ ht)
  | succ d ih =>
    intro j ycl hj ht
    have hi : vp_in (nI (16 * s + j)) 32 := vp_in_nI (by omega) (by omega)
    have e1 : (nI (16 * s + j)).toNatClampNeg = 16 * s + j := nI_clamp (by omega)
    have et := ht (16 * s + j) (by omega)
    rw [gw_dr_n (by omega)] at et
    have hc : gw_dc C Z s (j + 1) = gw_dc C Z s j + (if C (16 * s + j) ≠ none ∧ Z j = false then 1 else 0) := rfl
    refine br_f (by rw [e16]; exact nI_ge (by omega) (by omega)) ⟨hi, ?_⟩
    rw [e1, et]
    cases hC : C (16 * s + j) with
    | none =>
      rw [if_neg (fun z => z.1 hC)] at hc
      have := ih (j + 1) ycl (by omega) (by rw [gw_dr_s (Or.inl hC) (by omega)]; exact ht)
      rw [hc] at this
      exact br_t (by decide) (nm_r (nI_1 _) this)
    | some t =>
      refine br_f (gw_p0 (by omega)) ?_
      by_cases hz : Z j = true
      · rw [if_neg (fun z => by rw [hz] at z; exact absurd z.2 (by decide))] at hc
        have := ih (j + 1) ycl (by omega) (by rw [gw_dr_s (Or.inr hz) (by omega)]; exact ht)
        rw [hc] at this
        exact br_f (fun z => (gw_bit0 (by omega)).mp z ((hZ j (by omega)).mpr hz)) (nm_r (nI_1 _) this)
      · have hz' : Z j = false := by cases h : Z j; rfl; exact absurd h hz
        rw [if_pos ⟨by rw [hC]; simp, hz'⟩] at hc
        have := ih (j + 1) (upd ycl (16 * s + j) (-1)) (by omega) (by rw [gw_dr_u hz' (by omega)]; exact gy_t_u ht none)
        rw [hc] at this
        exact br_t ((gw_bit0 (by omega)).mpr (fun z => hz ((hZ j (by omega)).mp z))) ⟨hi, nm_e (nm_r (nI_1 _) (nm_r (nI_1 _) this))⟩
theorem gy_c59 (hC : gw_C D yow P L) (hy : gy_C D P L ypa yla) (hO : gw_O D P yow C S T F) (ht : gy_t C ycl) (hv : gy_v P yow C T F yva) {post : Int32 → SY → Prop} {s : Nat} {Z : Nat → Bool} (hs : s < 2) (hZ : ∀ n, n < 16 → (Z n = true ↔ gw_R C S T B s n)) (hp : ∀ ycl, gy_t (gw_dr C Z s 16) ycl → post (nI (gw_dc C Z s 16)) (ycu, ydp, ylm, yde, yve, ypa, yow, yla, ycl, ypr, ypi, yar, yva, yfr, yma, ydo, yro)) : ∀ d r x, r + d = 16 → (∀ n, n < 16 → bt x (16 * s + n) = true → gw_R C S T B s n) → (∀ n, n < 16 → gw_rt C S B s n → bt x (16 * s + n) = true) → ((∀ n m, n < 16 → m < 16 → bt x (16 * s + n) = true → gw_eg T s n m → bt x (16 * s + m) = true) ∨ r ≤ gw_cn (fun n => bt x (16 * s + n)) 16) → wY_collect_59 post (nI s) ycu ydp ylm yde yve ypa yow yla ycl ypr ypi yar yva yfr yma ydo yro (d + 1) x (nI r) := by
  intro d
  induction d with
  | zero =>
    intro r x hr h1 h2 h3
    have hcl : ∀ n m, n < 16 → m < 16 → bt x (16 * s + n) = true → gw_eg T s n m → bt x (16 * s + m) = true := by
      rcases h3 with h3 | h3
      · exact h3
      · intro n m hn hm _ _
        apply Classical.byContradiction
        intro hno
        have := gw_cn_lt (p := fun n => bt x (16 * s + n)) (n := m) hno 16 hm
        omega
    refine br_t (nI_le (a := 16) (by omega) (by omega)) (nm_r (gw_e6 s) ⟨17, gy_dru (C := C) (Z := Z) hs (fun n hn => ?_) hp 16 0 ycl (by omega) (by rw [gw_dr_0]; exact ht)⟩)
    constructor
    · intro hb; exact (hZ n hn).mpr (h1 n hn hb)
    · intro hz
      have h4 := ((hZ n hn).mp hz) (fun a => a < 16 ∧ bt x (16 * s + a) = true) (fun a ha x => ⟨ha, h2 a ha x⟩) (fun a b ha hb x y => ⟨hb, hcl a b ha hb x.2 y⟩)
      exact h4.2
  | succ d ih =>
    intro r x hr h1 h2 h3
    refine br_f (nI_ge (b := 16) (by omega) (by omega)) (nm_r (gw_e6 s) ⟨17, gy_c71 hC hy hO ht hv hs 16 0 x (by omega) (fun n hn hb => (gw_R_l hO hs (h1 n hn hb)).2) (fun x' g1 g2 g3 => ih (r + 1) x' (by omega) ?_ (fun n hn hr => g1 n hn (h2 n hn hr)) ?_)⟩)
    · exact g3 _ h1 (fun a b ha hb hq he => gw_R_e ha hb hq he)
    · by_cases hcl : ∀ n m, n < 16 → m < 16 → bt x (16 * s + n) = true → gw_eg T s n m → bt x (16 * s + m) = true
      · left
        have hsub : ∀ n, n < 16 → bt x' (16 * s + n) = true → bt x (16 * s + n) = true := fun n hn hx => by
          have := g3 (fun a => a < 16 ∧ bt x (16 * s + a) = true) (fun a ha h => ⟨ha, h⟩) (fun a b ha hb x y => ⟨hb, hcl a b ha hb x.2 y⟩) n hn hx
          exact this.2
        intro n m hn hm hx he
        exact g2 n m (by omega) hn hm (hsub n hn hx) he
      · right
        have h4 : r ≤ gw_cn (fun n => bt x (16 * s + n)) 16 := h3.resolve_left hcl
        have : ∃ m, m < 16 ∧ bt x' (16 * s + m) = true ∧ ¬ bt x (16 * s + m) = true := by
          apply Classical.byContradiction
          intro hno
          apply hcl
          intro n m hn hm hx he
          apply Classical.byContradiction
          intro hb
          exact hno ⟨m, hm, g2 n m (by omega) hn hm hx he, hb⟩
        obtain ⟨m, m1, m2, m3⟩ := this
        have := gw_cn_s (p := fun n => bt x (16 * s + n)) (q := fun n => bt x' (16 * s + n)) (m := m) m3 m2 16 m1 g1
        omega
theorem gy_c17 (hC : gw_C D yow P L) (hy : gy_C D P L ypa yla) (hO : gw_O D P yow C S T F) (ht : gy_t C ycl) (hv : gy_v P yow C T F yva) (hb : gy_b B ypi) (hS : gy_s S ypr) {post : Int32 → SY → Prop} {s : Nat} {Z : Nat → Bool} (hs : s < 2) (hZ : ∀ n, n < 16 → (Z n = true ↔ gw_R C S T B s n)) (hp : ∀ ycl, gy_t (gw_dr C Z s 16) ycl → post (nI (gw_dc C Z s 16)) (ycu, ydp, ylm, yde, yve, ypa, yow, yla, ycl, ypr, ypi, yar, yva, yfr, yma, ydo, yro)) : ∀ d j x, j + d = 16 → (∀ n, n < 16 → bt x (16 * s + n) = true → gw_R C S T B s n) → (∀ n, n < j → gw_rt C S B s n → bt x (16 * s + n) = true) → wY_collect_17 post (nI s) ycu ydp ylm yde yve ypa yow yla ycl ypr ypi yar yva yfr yma ydo yro (d + 1) x (nI (16 * s + j)) := by
  have e16 := gw_e6b s
  intro d
  induction d with
  | zero =>
    intro j x hj h1 h2
    exact br_t (by rw [e16]; exact nI_le (by omega) (by omega)) ⟨17, gy_c59 hC hy hO ht hv hs hZ hp 16 0 x (by omega) h1 (fun n hn => h2 n (by omega)) (Or.inr (by omega))⟩
  | succ d ih =>
    intro j x hj h1 h2
    refine br_f (by rw [e16]; exact nI_ge (by omega) (by omega)) ⟨vp_in_nI (by omega) (by omega), ?_⟩
    rw [nI_clamp (by omega), ht _ (by omega)]
    have nx : ¬ gw_rt C S B s j → ∀ n, n < j + 1 → gw_rt C S B s n → bt x (16 * s + n) = true := fun h n hn hr => by
      by_cases e : n = j
      · rw [e] at hr; exact absurd hr h
      · exact h2 n (by omega) hr
    cases hc : C (16 * s + j) with
    | none => exact br_t (by decide) (nm_r (nI_1 _) (ih (j + 1) x (by omega) h1 (nx (fun z => z.1 hc))))
    | some t =>
      refine br_f (gw_p0 (by omega)) (gy_root hO ht hb hS hs (by omega) (by rw [hc]; simp) (fun hr => br_f (by decide) (nm_e (nm_r (nI_1 _) (ih (j + 1) _ (by omega) (fun n hn hx => ?_) (fun n hn hrn => ?_))))) (fun hr => br_t rfl (nm_r (nI_1 _) (ih (j + 1) x (by omega) h1 (nx hr)))))
      · rw [gw_bor (by omega) (by omega)] at hx
        rcases hx with hx | hx
        · exact h1 n hn hx
        · have : n = j := by omega
          rw [this]; exact gw_R_r (by omega) hr
      · rw [gw_bor (by omega) (by omega)]
        by_cases e : n = j
        · right; rw [e]
        · left; exact h2 n (by omega) hrn
end
theorem gw_O_dr (hO : gw_O D P K C S T F) {s : Nat} {Z : Nat → Bool} (hs : s < 2) (hZ : ∀ n, n < 16 → (Z n = true ↔ gw_R C S T B s n)) : gw_O D P K (gw_dr C Z s 16) S T F := by
  have le : ∀ o t, gw_dr C Z s 16 o = some t → C o = some t := fun o t h => by
    unfold gw_dr at h
    by_cases c : o / 16 = s ∧ o % 16 < 16 ∧ Z (o % 16) = false
    · rw [if_pos c] at h; exact absurd h (by simp)
    · rw [if_neg c] at h; exact h
  have lv : ∀ o, gw_dr C Z s 16 o ≠ none → C o ≠ none ∧ (o / 16 = s → Z (o % 16) = true) := fun o h => by
    unfold gw_dr at h
    by_cases c : o / 16 = s ∧ o % 16 < 16 ∧ Z (o % 16) = false
    · rw [if_pos c] at h; exact absurd rfl h
    · rw [if_neg c] at h
      refine ⟨h, fun e => ?_⟩
      cases hz : Z (o % 16)
      · exact absurd ⟨e, by omega, hz⟩ c
      · rfl
  have kp : ∀ o, o < 32 → C o ≠ none → (o / 16 = s → gw_R C S T B s (o % 16)) → gw_dr C Z s 16 o ≠ none := fun o ho h hr => by
    unfold gw_dr
    by_cases c : o / 16 = s ∧ o % 16 < 16 ∧ Z (o % 16) = false
    · have := (hZ (o % 16) (by omega)).mpr (hr c.1)
      rw [c.2.2] at this
      exact absurd this (by decide)
    · rw [if_neg c]; exact h
  refine ⟨fun o ho t h => hO.1 o ho t (le o t h), fun o q ho hq => ?_, fun o n t ho hn h => hO.2.2.1 o n t ho hn (le o t h), fun o n z ho hn hc hz => ?_⟩
  · obtain ⟨a, b, c, d⟩ := hO.2.1 o q ho hq
    refine ⟨a, b, kp o ho c (fun e => gw_R_r (by omega) ?_), kp q a d (fun e => gw_R_r (by omega) ?_)⟩
    · rw [show o = 16 * s + o % 16 by omega] at c hq
      exact ⟨c, Or.inr (Or.inl (by rw [hq]; simp))⟩
    · rw [show q = 16 * s + q % 16 by omega] at d hq
      exact ⟨d, Or.inr (Or.inr ⟨o, ho, hq⟩)⟩
  · obtain ⟨a, b⟩ := lv o hc
    obtain ⟨z1, z2, z3⟩ := hO.2.2.2 o n z ho hn a hz
    refine ⟨z1, z2, kp z z1 z3 (fun e => ?_)⟩
    have eo : o / 16 = s := by omega
    have hr := (hZ (o % 16) (by omega)).mp (b eo)
    refine gw_R_e (by omega) (by omega) hr ⟨n, hn, ?_⟩
    rw [show 16 * s + o % 16 = o by omega, show 16 * s + z % 16 = z by omega]
    exact hz
theorem gy_v_dr {a : Nat → Int64} (h : gy_v P K C T F a) {s : Nat} {Z : Nat → Bool} : gy_v P K (gw_dr C Z s 16) T F a := fun o n t ho hn hc => by
  refine h o n t ho hn ?_
  unfold gw_dr at hc
  by_cases c : o / 16 = s ∧ o % 16 < 16 ∧ Z (o % 16) = false
  · rw [if_pos c] at hc; exact absurd hc (by simp)
  · rw [if_neg c] at hc; exact hc
theorem i_vc_collect {k : Nat} {u : SX} {v : SY} (I : i_Rel k u v) (hk : k + 5 ≤ 2560) (v1 : Int32) : wpX_collect (fun r u' => wpY_collect (fun r' v' => r' = r ∧ i_Rel (k + 5) u' v') v v1) u v1 := by
  have I' := I
  obtain ⟨xcu, xar, xrc, xlc, xde, xpt, xve, xok, xlt, xty, xpi, xnu, xtg, xse, xso, xnf, xrn, xre, xrl, xrd, xll, xlr⟩ := u
  obtain ⟨ycu, ydp, ylm, yde, yve, ypa, yow, yla, ycl, ypr, ypi, yar, yva, yfr, yma, ydo, yro⟩ := v
  obtain ⟨D, V, K, P, L, C, S, T, B, F, cu, hC, hO, hX, hY⟩ := I
  obtain ⟨rfl, rfl, rfl, hxc, hxt, hxb, hxf, hxg, hxs, hxu⟩ := hX
  obtain ⟨rfl, rfl, rfl, hyc, hyt, hyb, hyv, hys, hyu⟩ := hY
  unfold wpX_collect wpY_collect; dsimp only
  rcases gw_sid v1 with ⟨s, hs, rfl⟩ | hno
  · obtain ⟨Z, hZ'⟩ : ∃ Z : Nat → Bool, ∀ n, Z n = true ↔ gw_R C S T B s n := ⟨fun n => @decide _ (Classical.propDecidable (gw_R C S T B s n)), fun n => by simp⟩
    have hZ : ∀ n, n < 16 → (Z n = true ↔ gw_R C S T B s n) := fun n _ => hZ' n
    have cn0 : gw_cn (fun _ => false) 16 = 0 := by decide
    refine gx_isSide1 hs (br_f (by decide) ⟨49, gx_rr7 48 0 xre (by omega) ⟨17, gx_rr (B := B) hO hxt hxb hxs hs (fun M rc re rl hR hM hr => ?_) 16 0 (fun _ => false) _ _ _ (by omega) ⟨by rw [cn0]; rfl, fun n hn => ?_, fun i hi => by rw [cn0] at hi; omega, fun n _ h => absurd h Bool.false_ne_true⟩ (fun n _ h => absurd h Bool.false_ne_true) (fun n hn => by omega) (fun n m hn => by omega)⟩⟩)
    · refine ⟨17, gx_c17 (B := B) hO hxt hxg hs hZ (fun rc2 re2 rl2 xty2 hx2 => ?_) 16 0 M _ _ _ (by omega) hR hM hr (fun a n m ha => by omega)⟩
      refine gy_side1 hs (br_f (by decide) (nm_r (gw_e6 s) ⟨17, gy_c17 hC hyc hO hyt hyv hyb hys hs hZ (fun ycl2 hy2 => ⟨rfl, ?_⟩) 16 0 0 (by omega) (fun n hn h => by rw [b_0] at h; exact absurd h (by decide)) (fun n hn => by omega)⟩))
      exact ⟨yde, yve, yow, P, L, gw_dr C Z s 16, S, T, B, F, cu, hC, gw_O_dr hO hs hZ, ⟨rfl, rfl, rfl, hxc, hx2, hxb, hxf, hxg, hxs, hxu⟩, ⟨rfl, rfl, rfl, hyc, hy2, hyb, gy_v_dr hyv, hys, hyu⟩⟩
    · exact gw_fi_i (by omega)
  · exact gx_isSide0 hno (br_t rfl (gy_side0 hno (br_t rfl ⟨rfl, I'⟩)))
end
