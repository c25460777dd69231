/-! classes: chains, kinds; each side's walks over them -/
section
def gw_an (P : Nat → Option Nat) : Nat → Option Nat → Option Nat
  | 0, o => o
  | k + 1, o => (gw_an P k o).bind P
def gw_in (P : Nat → Option Nat) (t e : Nat) : Prop := ∃ k, k < 3 ∧ gw_an P k (some t) = some e
def gw_kf (P : Nat → Option Nat) (K : Nat → Int32) (n : Nat) : Nat → Option Nat → Int32
  | 0, _ => -1
  | _ + 1, none => -1
  | k + 1, some t => if K (10 * t + n) = -1 then gw_kf P K n k (P t) else K (10 * t + n)
def gw_kd (P : Nat → Option Nat) (K : Nat → Int32) (t n : Nat) : Int32 := gw_kf P K n 3 (some t)
theorem gw_an_n {P : Nat → Option Nat} : ∀ k, gw_an P k none = none := by
  intro k
  induction k with
  | zero => rfl
  | succ k ih => show (gw_an P k none).bind P = none; rw [ih]; rfl
theorem gw_an_s {P : Nat → Option Nat} {t : Nat} : ∀ k, gw_an P (k + 1) (some t) = gw_an P k (P t) := by
  intro k
  induction k with
  | zero => rfl
  | succ k ih => show (gw_an P (k + 1) (some t)).bind P = _; rw [ih]; rfl
theorem gw_an_b {P : Nat → Option Nat} {t a k : Nat} (h : gw_an P k (some t) = some a) : gw_an P (k + 1) (some t) = P a := by
  show (gw_an P k (some t)).bind P = _; rw [h]; rfl
theorem gw_an_bn {P : Nat → Option Nat} {t k : Nat} (h : gw_an P k (some t) = none) : gw_an P (k + 1) (some t) = none := by
  show (gw_an P k (some t)).bind P = _; rw [h]; rfl
/-- how many fields of their own -/
def gw_ct (K : Nat → Int32) (t : Nat) : Nat → Nat
  | 0 => 0
  | m + 1 => gw_ct K t m + (if K (10 * t + m) = -1 then 0 else 1)
/-- what always holds of the classes -/
def gw_C (D K : Nat → Int32) (P L : Nat → Option Nat) : Prop :=
  (∀ t, t < 12 → D t ≠ 0 → ∀ p, P t = some p → p < 12 ∧ p / 6 = t / 6 ∧ D p ≠ 0 ∧ L (t / 6) ≠ some p) ∧
  (∀ i, i < 120 → ¬ K i = -1 → ∃ n, n ≤ 4 ∧ K i = nI n) ∧
  (∀ t, t < 12 → D t = 0 → ∀ n, n < 10 → K (10 * t + n) = -1) ∧
  (∀ t, t < 12 → D t ≠ 0 → ∀ e n, gw_in P t e → n < 10 → ¬ K (10 * e + n) = -1 → gw_kd P K t n = K (10 * e + n)) ∧
  (∀ s t, s < 2 → L s = some t → t < 12 ∧ t / 6 = s ∧ D t ≠ 0) ∧
  (∀ t, t < 12 → gw_ct K t 10 ≤ 4)
/-- a type of side s -/
def gw_v (D : Nat → Int32) (s : Nat) (o : Option Nat) : Prop := ∀ t, o = some t → t < 12 ∧ t / 6 = s ∧ D t ≠ 0
variable {D K : Nat → Int32} {P L : Nat → Option Nat}
theorem gw_v_P (hC : gw_C D K P L) {s t : Nat} (h : gw_v D s (some t)) : gw_v D s (P t) := fun p hp => by
  obtain ⟨h1, h2, h3⟩ := h t rfl
  obtain ⟨a, b, c, _⟩ := hC.1 t h1 h3 p hp
  exact ⟨a, by omega, c⟩
theorem gw_v_an (hC : gw_C D K P L) {s : Nat} : ∀ k o, gw_v D s o → gw_v D s (gw_an P k o) := by
  intro k
  induction k with
  | zero => intro o h; exact h
  | succ k ih =>
    intro o h
    have := ih o h
    show gw_v D s ((gw_an P k o).bind P)
    cases e : gw_an P k o with
    | none => intro t ht; exact absurd ht (by simp)
    | some a => rw [e] at this; exact gw_v_P hC this
theorem gw_v_in (hC : gw_C D K P L) {s t e : Nat} (h : gw_v D s (some t)) (hi : gw_in P t e) : gw_v D s (some e) := by
  obtain ⟨k, _, hk⟩ := hi
  rw [← hk]
  exact gw_v_an hC k _ h
theorem gw_v_mk {s t : Nat} (h1 : t < 12) (h2 : t / 6 = s) (h3 : D t ≠ 0) : gw_v D s (some t) := fun a ha => by
  cases ha
  exact ⟨h1, h2, h3⟩
theorem gw_kf_n {n : Nat} : ∀ k, gw_kf P K n k none = -1
  | 0 => rfl
  | _ + 1 => rfl
theorem gw_kf_r (hC : gw_C D K P L) {s n : Nat} (hn : n < 10) : ∀ k o, gw_v D s o → ¬ gw_kf P K n k o = -1 → ∃ m, m ≤ 4 ∧ gw_kf P K n k o = nI m := by
  intro k
  induction k with
  | zero => intro o _ h; exact absurd rfl h
  | succ k ih =>
    intro o ho h
    cases o with
    | none => exact absurd rfl h
    | some t =>
      have e : gw_kf P K n (k + 1) (some t) = if K (10 * t + n) = -1 then gw_kf P K n k (P t) else K (10 * t + n) := rfl
      rw [e] at h ⊢
      by_cases hk : K (10 * t + n) = -1
      · rw [if_pos hk] at h ⊢
        exact ih _ (gw_v_P hC ho) h
      · rw [if_neg hk]
        obtain ⟨h1, _, _⟩ := ho t rfl
        exact hC.2.1 _ (by omega) hk
theorem gw_kd_r (hC : gw_C D K P L) {s t n : Nat} (h : gw_v D s (some t)) (hn : n < 10) : gw_kd P K t n = -1 ∨ ∃ m, m ≤ 4 ∧ gw_kd P K t n = nI m := by
  by_cases hk : gw_kd P K t n = -1
  · exact Or.inl hk
  · exact Or.inr (gw_kf_r hC hn 3 _ h hk)
/-! the component -/
def gx_C (D : Nat → Int32) (P L : Nat → Option Nat) (xpt xlt : Nat → Int32) : Prop :=
  (∀ t, t < 12 → D t ≠ 0 → xpt t = gw_o (P t)) ∧ (∀ s, s < 2 → xlt s = gw_o (L s))
def gy_C (D : Nat → Int32) (P L : Nat → Option Nat) (ypa yla : Nat → Int32) : Prop :=
  (∀ t, t < 12 → D t ≠ 0 → ypa t = gw_c (P t)) ∧ (∀ s, s < 2 → yla s = gw_c (L s))
section
variable {xcu xar xrc xlc : Int32} {xde xpt xve xok xlt xty xpi : Nat → Int32} {xnu : Nat → Int64} {xtg xse xso xnf xrn xre xrl xrd xll xlr : Nat → Int32}
theorem gx_anc (hC : gw_C D K P L) (hx : gx_C D P L xpt xlt) {post : Int32 → Prop} {s : Nat} : ∀ d i g o, i + d = g → g < 100 → gw_v D s o → post (gw_o (gw_an P d o)) → wX_ancestor_5 post (nI g) xcu xar xrc xlc xde xpt xve xok xlt xty xpi xnu xtg xse xso xnf xrn xre xrl xrd xll xlr (d + 1) (gw_o o) (nI i) := by
  intro d
  induction d with
  | zero => intro i g o h1 h2 _ hp; exact br_t (nI_le (by omega) (by omega)) hp
  | succ d ih =>
    intro i g o h1 h2 hv hp
    refine br_f (nI_ge (by omega) (by omega)) ?_
    cases o with
    | none => exact br_t rfl (by rw [gw_an_n] at hp; exact hp)
    | some t =>
      obtain ⟨a, _, c⟩ := hv t rfl
      refine br_f (gw_nm (by omega)) ⟨vp_in_nI a (by omega), nm_r (e' := gw_o (P t)) (by rw [show gw_o (some t) = nI t from rfl, nI_clamp (by omega)]; exact hx.1 t a c) (nm_r (nI_1 i) (ih (i + 1) g (P t) (by omega) h2 (gw_v_P hC hv) (by rw [← gw_an_s]; exact hp)))⟩
theorem gx_ancestor (hC : gw_C D K P L) (hx : gx_C D P L xpt xlt) {post : Int32 → Prop} {s t k : Nat} (hk : k < 100) (hv : gw_v D s (some t)) (hp : post (gw_o (gw_an P k (some t)))) : wpX_ancestor post (xcu, xar, xrc, xlc, xde, xpt, xve, xok, xlt, xty, xpi, xnu, xtg, xse, xso, xnf, xrn, xre, xrl, xrd, xll, xlr) (nI t) (nI k) :=
  ⟨k + 1, gx_anc hC hx k 0 k (some t) (by omega) hk hv hp⟩
theorem gx_kin (hC : gw_C D xok P L) (hx : gx_C D P L xpt xlt) {post : Int32 → Prop} {s n : Nat} (hn : n < 10) : ∀ d i o, i + d = 3 → gw_v D s o → post (gw_kf P xok n d o) → wX_kindInChain_5 post (nI n) xcu xar xrc xlc xde xpt xve xok xlt xty xpi xnu xtg xse xso xnf xrn xre xrl xrd xll xlr (d + 1) (gw_o o) (nI i) := by
  intro d
  induction d with
  | zero => intro i o h1 _ hp; exact br_t (nI_le (a := 3) (by omega) (by omega)) hp
  | succ d ih =>
    intro i o h1 hv hp
    refine br_f (nI_ge (b := 3) (by omega) (by omega)) ?_
    cases o with
    | none => exact br_t rfl hp
    | some t =>
      obtain ⟨a, _, c⟩ := hv t rfl
      have e : gw_o (some t) * 10 + nI n = nI (10 * t + n) := gw_e3 t n
      have hp' : post (if xok (10 * t + n) = -1 then gw_kf P xok n d (P t) else xok (10 * t + n)) := hp
      refine br_f (gw_nm (by omega)) ⟨by rw [e]; exact vp_in_nI (by omega) (by omega), nm_r (e' := xok (10 * t + n)) (by rw [e, nI_clamp (by omega)]) ?_⟩
      by_cases hk : xok (10 * t + n) = -1
      · rw [if_pos hk] at hp'
        exact br_t hk ⟨vp_in_nI a (by omega), nm_r (e' := gw_o (P t)) (by rw [show gw_o (some t) = nI t from rfl, nI_clamp (by omega)]; exact hx.1 t a c) (nm_r (nI_1 i) (ih (i + 1) (P t) (by omega) (gw_v_P hC hv) hp'))⟩
      · rw [if_neg hk] at hp'
        exact br_f hk hp'
theorem gx_kind (hC : gw_C D xok P L) (hx : gx_C D P L xpt xlt) {post : Int32 → Prop} {s t n : Nat} (hn : n < 10) (hv : gw_v D s (some t)) (hp : post (gw_kd P xok t n)) : wpX_kindInChain post (xcu, xar, xrc, xlc, xde, xpt, xve, xok, xlt, xty, xpi, xnu, xtg, xse, xso, xnf, xrn, xre, xrl, xrd, xll, xlr) (nI t) (nI n) :=
  ⟨4, gx_kin hC hx hn 3 0 (some t) (by omega) hv hp⟩
theorem gx_nam (hC : gw_C D K P L) (hx : gx_C D P L xpt xlt) {post : Int32 → Prop} {s e f : Nat} (he : e < 100) (hf : f = 6 * s + e % 6) : ∀ d i o, i + d = 3 → gw_v D s o → ((∃ k, k < d ∧ gw_an P k o = some f) → post (nI f)) → ((¬ ∃ k, k < d ∧ gw_an P k o = some f) → post (-1)) → wX_namesake_5 post (nI e) xcu xar xrc xlc xde xpt xve xok xlt xty xpi xnu xtg xse xso xnf xrn xre xrl xrd xll xlr (d + 1) (gw_o o) (nI i) := by
  intro d
  induction d with
  | zero => intro i o h1 _ _ hp; exact br_t (nI_le (a := 3) (by omega) (by omega)) (hp (fun ⟨k, hk, _⟩ => by omega))
  | succ d ih =>
    intro i o h1 hv hp hq
    refine br_f (nI_ge (b := 3) (by omega) (by omega)) ?_
    cases o with
    | none => exact br_t rfl (hq (fun ⟨k, _, hk⟩ => by rw [gw_an_n] at hk; exact absurd hk (by simp)))
    | some t =>
      obtain ⟨a, b, c⟩ := hv t rfl
      have e1 : gw_o (some t) - gw_o (some t) / 6 * 6 = nI (t % 6) := gw_m6 (by omega)
      have e2 : nI e - nI e / 6 * 6 = nI (e % 6) := gw_m6 (by omega)
      refine br_f (gw_nm (by omega)) ⟨gw_6, gw_6, ek_if (d := t % 6 = e % 6) (by rw [e1, e2, nI_eq (by omega) (by omega)]) (fun h => ?_) (fun h => ?_)⟩
      · have hf' : t = f := by omega
        rw [← hf'] at hp
        exact hp ⟨0, by omega, rfl⟩
      · refine ⟨vp_in_nI a (by omega), nm_r (e' := gw_o (P t)) (by rw [show gw_o (some t) = nI t from rfl, nI_clamp (by omega)]; exact hx.1 t a c) (nm_r (nI_1 i) (ih (i + 1) (P t) (by omega) (gw_v_P hC hv) (fun ⟨k, h1, h2⟩ => hp ⟨k + 1, by omega, by rw [gw_an_s]; exact h2⟩) (fun hn => hq (fun ⟨k, h1, h2⟩ => ?_))))⟩
        cases k with
        | zero =>
          have h3 : some t = some f := h2
          injection h3 with h3
          omega
        | succ k => rw [gw_an_s] at h2; exact hn ⟨k, by omega, h2⟩
theorem gx_namesake (hC : gw_C D K P L) (hx : gx_C D P L xpt xlt) {post : Int32 → Prop} {s t e f : Nat} (he : e < 100) (hf : f = 6 * s + e % 6) (hv : gw_v D s (some t)) (h1 : gw_in P t f → post (nI f)) (h2 : ¬ gw_in P t f → post (-1)) : wpX_namesake post (xcu, xar, xrc, xlc, xde, xpt, xve, xok, xlt, xty, xpi, xnu, xtg, xse, xso, xnf, xrn, xre, xrl, xrd, xll, xlr) (nI t) (nI e) :=
  ⟨4, gx_nam hC hx he hf 3 0 (some t) (by omega) hv h1 h2⟩
end
/-! the reference -/
section
variable {ycu ydp ylm : Int32} {yde yve ypa yow yla ycl ypr ypi yar : Nat → Int32} {yva : Nat → Int64} {yfr yma ydo yro : Nat → Int32}
theorem gy_cha (hC : gw_C D K P L) (hy : gy_C D P L ypa yla) {post : Int32 → Prop} {s : Nat} : ∀ d i g o, i + d = g → g < 100 → gw_v D s o → post (gw_c (gw_an P d o)) → wY_chain_6 post (nI s) (nI g) ycu ydp ylm yde yve ypa yow yla ycl ypr ypi yar yva yfr yma ydo yro (d + 1) (gw_c o) (nI i) := by
  intro d
  induction d with
  | zero => intro i g o h1 h2 _ hp; exact br_t (nI_le (by omega) (by omega)) hp
  | succ d ih =>
    intro i g o h1 h2 hv hp
    refine br_f (nI_ge (by omega) (by omega)) ?_
    cases o with
    | none => exact br_t (by decide) (by rw [gw_an_n] at hp; exact hp)
    | some t =>
      obtain ⟨a, b, c⟩ := hv t rfl
      have e : 6 * nI s + gw_c (some t) = nI t := by rw [show gw_c (some t) = nI (t % 6) from rfl, gw_e2]; exact congrArg nI (by omega)
      refine br_f (gw_p0 (by omega)) ⟨by rw [e]; exact vp_in_nI a (by omega), nm_r (e' := gw_c (P t)) (by rw [e, nI_clamp (by omega)]; exact hy.1 t a c) (nm_r (nI_1 i) (ih (i + 1) g (P t) (by omega) h2 (gw_v_P hC hv) (by rw [← gw_an_s]; exact hp)))⟩
theorem gy_chain (hC : gw_C D K P L) (hy : gy_C D P L ypa yla) {post : Int32 → Prop} {s c k : Nat} (hk : k < 100) (hc : c < 6) (hv : gw_v D s (some (6 * s + c))) (hp : post (gw_c (gw_an P k (some (6 * s + c))))) : wpY_chain post (ycu, ydp, ylm, yde, yve, ypa, yow, yla, ycl, ypr, ypi, yar, yva, yfr, yma, ydo, yro) (nI s) (nI c) (nI k) :=
  ⟨k + 1, by
    have := gy_cha (post := post) (ycu := ycu) (ydp := ydp) (ylm := ylm) (yde := yde) (yve := yve) (yow := yow) (ycl := ycl) (ypr := ypr) (ypi := ypi) (yar := yar) (yva := yva) (yfr := yfr) (yma := yma) (ydo := ydo) (yro := yro) hC hy k 0 k (some (6 * s + c)) (by omega) hk hv hp
    rw [show gw_c (some (6 * s + c)) = nI c from congrArg nI (by omega)] at this
    exact this⟩
theorem gy_own {post : Int32 → Prop} {s c n : Nat} (hs : s < 2) (hc : c < 6) (hn : n < 10) (hp : post (yow (10 * (6 * s + c) + n))) : wpY_ownKind post (ycu, ydp, ylm, yde, yve, ypa, yow, yla, ycl, ypr, ypi, yar, yva, yfr, yma, ydo, yro) (nI s) (nI c) (nI n) := by
  have e := gw_e4 s c n
  refine ⟨by rw [e]; exact vp_in_nI (by omega) (by omega), ?_⟩
  rw [e, nI_clamp (by omega)]
  exact hp
theorem gy_inC (hC : gw_C D K P L) (hy : gy_C D P L ypa yla) {post : Int32 → Prop} {s c e f : Nat} (hs : s < 2) (hc : c < 6) (he : e < 100) (hf : f = 6 * s + e % 6) (hv : gw_v D s (some (6 * s + c))) : ∀ d i, i + d = 3 → ((∃ k, i ≤ k ∧ k < 3 ∧ gw_an P k (some (6 * s + c)) = some f) → post 1) → ((¬ ∃ k, i ≤ k ∧ k < 3 ∧ gw_an P k (some (6 * s + c)) = some f) → post 0) → wY_inChain_3 post (nI s) (nI c) (nI (e % 6)) ycu ydp ylm yde yve ypa yow yla ycl ypr ypi yar yva yfr yma ydo yro (d + 1) (nI i) := by
  intro d
  induction d with
  | zero => intro i h1 _ hq; exact br_t (nI_le (a := 3) (by omega) (by omega)) (hq (fun ⟨k, a, b, _⟩ => by omega))
  | succ d ih =>
    intro i h1 hp hq
    refine br_f (nI_ge (b := 3) (by omega) (by omega)) (br_f (gw_p0 (by omega)) (gy_chain hC hy (k := i) (by omega) hc hv ?_))
    have hva := gw_v_an hC i _ hv
    refine ek_if (d := gw_an P i (some (6 * s + c)) = some f) ?_ (fun h => hp ⟨i, by omega, by omega, h⟩) (fun h => nm_r (nI_1 i) (ih (i + 1) (by omega) (fun ⟨k, a, b, g⟩ => hp ⟨k, by omega, b, g⟩) (fun hn => hq (fun ⟨k, a, b, g⟩ => ?_))))
    · cases hk : gw_an P i (some (6 * s + c)) with
      | none => exact ⟨fun z => absurd z.symm (gw_nm (by omega)), fun z => absurd z (by simp)⟩
      | some a =>
        obtain ⟨h2, h3, _⟩ := hva a hk
        show nI (a % 6) = nI (e % 6) ↔ _
        rw [nI_eq (by omega) (by omega), Option.some.injEq]
        omega
    · rcases Nat.eq_or_lt_of_le a with h3 | h3
      · rw [← h3] at g; exact h g
      · exact hn ⟨k, h3, b, g⟩
theorem gy_inN {post : Int32 → Prop} {x1 x2 : Int32} (hq : post 0) : ∀ d i, i + d = 3 → wY_inChain_3 post x1 x2 (-1) ycu ydp ylm yde yve ypa yow yla ycl ypr ypi yar yva yfr yma ydo yro (d + 1) (nI i) := by
  intro d
  induction d with
  | zero => intro i h1; exact br_t (nI_le (a := 3) (by omega) (by omega)) hq
  | succ d ih =>
    intro i h1
    exact br_f (nI_ge (b := 3) (by omega) (by omega)) (br_t (by decide) (nm_r (nI_1 i) (ih (i + 1) (by omega))))
theorem gy_inChain (hC : gw_C D K P L) (hy : gy_C D P L ypa yla) {post : Int32 → Prop} {s c e f : Nat} (hs : s < 2) (hc : c < 6) (he : e < 100) (hf : f = 6 * s + e % 6) (hv : gw_v D s (some (6 * s + c))) (h1 : gw_in P (6 * s + c) f → post 1) (h2 : ¬ gw_in P (6 * s + c) f → post 0) : wpY_inChain post (ycu, ydp, ylm, yde, yve, ypa, yow, yla, ycl, ypr, ypi, yar, yva, yfr, yma, ydo, yro) (nI s) (nI c) (nI (e % 6)) :=
  ⟨4, gy_inC hC hy hs hc he hf hv 3 0 (by omega) (fun ⟨k, _, a, b⟩ => h1 ⟨k, a, b⟩) (fun h => h2 (fun ⟨k, a, b⟩ => h ⟨k, by omega, a, b⟩))⟩
theorem gy_inNone {post : Int32 → Prop} {x1 x2 : Int32} (h2 : post 0) : wpY_inChain post (ycu, ydp, ylm, yde, yve, ypa, yow, yla, ycl, ypr, ypi, yar, yva, yfr, yma, ydo, yro) x1 x2 (-1) := ⟨4, gy_inN h2 3 0 (by omega)⟩
theorem gy_kin (hC : gw_C D yow P L) (hy : gy_C D P L ypa yla) {post : Int32 → Prop} {s c n : Nat} (hs : s < 2) (hc : c < 6) (hn : n < 10) (hv : gw_v D s (some (6 * s + c))) : ∀ d i, i + d = 3 → post (gw_kf P yow n d (gw_an P i (some (6 * s + c)))) → wY_kind_15 post (nI s) (nI c) (nI n) ycu ydp ylm yde yve ypa yow yla ycl ypr ypi yar yva yfr yma ydo yro (d + 1) (nI i) := by
  intro d
  induction d with
  | zero => intro i h1 hp; exact br_t (nI_le (a := 3) (by omega) (by omega)) hp
  | succ d ih =>
    intro i h1 hp
    refine br_f (nI_ge (b := 3) (by omega) (by omega)) (gy_chain hC hy (k := i) (by omega) hc hv ?_)
    have hva := gw_v_an hC i _ hv
    cases hk : gw_an P i (some (6 * s + c)) with
    | none =>
      rw [hk] at hp
      exact br_t (by decide) (nm_r (nI_1 i) (ih (i + 1) (by omega) (by rw [gw_an_bn hk, gw_kf_n]; exact hp)))
    | some a =>
      rw [hk] at hp hva
      obtain ⟨h2, h3, h4⟩ := hva a rfl
      have ea : 6 * s + a % 6 = a := by omega
      have hp' : post (if yow (10 * a + n) = -1 then gw_kf P yow n d (P a) else yow (10 * a + n)) := hp
      refine br_f (gw_p0 (by omega)) (gy_own hs (by omega) hn ?_)
      rw [ea]
      by_cases h5 : yow (10 * a + n) = -1
      · rw [if_pos h5] at hp'
        exact br_t (by rw [h5]; decide) (nm_r (nI_1 i) (ih (i + 1) (by omega) (by rw [gw_an_b hk]; exact hp')))
      · rw [if_neg h5] at hp'
        obtain ⟨m, hm, em⟩ := hC.2.1 _ (by omega) h5
        exact br_f (by rw [em]; exact gw_p0 (by omega)) (gy_own hs (by omega) hn (by rw [ea]; exact hp'))
theorem gy_kind (hC : gw_C D yow P L) (hy : gy_C D P L ypa yla) {post : Int32 → Prop} {s c n : Nat} (hs : s < 2) (hc : c < 6) (hn : n < 10) (hv : gw_v D s (some (6 * s + c))) (hp : post (gw_kd P yow (6 * s + c) n)) : wpY_kind post (ycu, ydp, ylm, yde, yve, ypa, yow, yla, ycl, ypr, ypi, yar, yva, yfr, yma, ydo, yro) (nI s) (nI c) (nI n) :=
  br_f (gw_p0 (by omega)) (br_t (nI_le (b := 9) (by omega) (by omega)) ⟨4, gy_kin hC hy hs hc hn hv 3 0 (by omega) hp⟩)
theorem gy_kindN {post : Int32 → Prop} {x1 x2 p : Int32} (h : p < 0 ∨ nI 10 ≤ p) (hp : post (-1)) : wpY_kind post (ycu, ydp, ylm, yde, yve, ypa, yow, yla, ycl, ypr, ypi, yar, yva, yfr, yma, ydo, yro) x1 x2 p := by
  by_cases h0 : p < 0
  · exact br_t h0 hp
  · refine br_f h0 (br_f (fun h9 => ?_) hp)
    obtain ⟨j, hj, rfl⟩ := nI_of h0
    have h9' : nI j ≤ nI 9 := h9
    rw [nI_leI hj (by omega)] at h9'
    rcases h with h | h
    · exact h0 h
    · rw [nI_leI (by omega) hj] at h; omega
end
end
