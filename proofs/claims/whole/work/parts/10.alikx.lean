/-! alike: pairs; the component -/
section
/-- a field that both chains have, at place i = 10 * level + name of the first's chain -/
def gw_it (P : Nat → Option Nat) (K : Nat → Int32) (t r i : Nat) : Prop := ∃ e, gw_an P (i / 10) (some t) = some e ∧ gw_in P r (6 * (r / 6) + e % 6) ∧ ¬ K (10 * e + i % 10) = -1 ∧ ¬ K (10 * (6 * (r / 6) + e % 6) + i % 10) = -1
/-- the two fields of that name agree in themselves -/
def gw_gd (P : Nat → Option Nat) (K : Nat → Int32) (T : Nat → Option Nat) (F : Nat → Int64) (t r p q n : Nat) : Prop := (gw_kd P K t n = 4 ↔ gw_kd P K r n = 4) ∧ F (10 * p + n) = F (10 * q + n) ∧ (T (10 * p + n) = none ↔ T (10 * q + n) = none)
def gw_lk (P : Nat → Option Nat) (K : Nat → Int32) (C T : Nat → Option Nat) (F : Nat → Int64) (p q : Nat) : Prop := ∃ t r, C p = some t ∧ C q = some r ∧ t % 6 = r % 6 ∧ ∀ i, i < 30 → gw_it P K t r i → gw_gd P K T F t r p q (i % 10)
def gw_ed (P : Nat → Option Nat) (K : Nat → Int32) (C T : Nat → Option Nat) (p q z w : Nat) : Prop := ∃ t r i, C p = some t ∧ C q = some r ∧ i < 30 ∧ gw_it P K t r i ∧ T (10 * p + i % 10) = some z ∧ T (10 * q + i % 10) = some w
def gw_RP (P : Nat → Option Nat) (K : Nat → Int32) (C T : Nat → Option Nat) (p0 q0 p q : Nat) : Prop := ∀ Q : Nat → Nat → Prop, Q p0 q0 → (∀ p q z w, Q p q → gw_ed P K C T p q z w → Q z w) → Q p q
def gw_Al (P : Nat → Option Nat) (K : Nat → Int32) (C T : Nat → Option Nat) (F : Nat → Int64) (p0 q0 : Nat) : Prop := ∀ p q, gw_RP P K C T p0 q0 p q → gw_lk P K C T F p q
variable {D V K B : Nat → Int32} {P L C S T : Nat → Option Nat} {F : Nat → Int64} {cu : Option Nat}
theorem gw_cn_f : ∀ k, gw_cn (fun _ => false) k = 0 := by
  intro k
  induction k with
  | zero => rfl
  | succ k ih => show gw_cn _ k + _ = 0; rw [ih]; rfl
theorem gw_RP_0 {p q : Nat} : gw_RP P K C T p q p q := fun _ h _ => h
theorem gw_RP_s {p0 q0 p q z w : Nat} (h : gw_RP P K C T p0 q0 p q) (he : gw_ed P K C T p q z w) : gw_RP P K C T p0 q0 z w := fun Q a b => b p q z w (h Q a b) he
theorem gw_ed_l (hO : gw_O D P K C S T F) {p q z w : Nat} (hp : p < 32) (hq : q < 32) (he : gw_ed P K C T p q z w) : z < 32 ∧ z / 16 = p / 16 ∧ C z ≠ none ∧ w < 32 ∧ w / 16 = q / 16 ∧ C w ≠ none := by
  obtain ⟨t, r, i, h1, h2, _, _, h3, h4⟩ := he
  obtain ⟨a1, a2, a3⟩ := hO.2.2.2 p _ z hp (by omega) (by rw [h1]; simp) h3
  obtain ⟨b1, b2, b3⟩ := hO.2.2.2 q _ w hq (by omega) (by rw [h2]; simp) h4
  exact ⟨a1, a2, a3, b1, b2, b3⟩
theorem gw_RP_l (hO : gw_O D P K C S T F) {p0 q0 p q : Nat} (hp : p0 < 32) (hq : q0 < 32) (cp : C p0 ≠ none) (cq : C q0 ≠ none) (h : gw_RP P K C T p0 q0 p q) : p < 32 ∧ p / 16 = p0 / 16 ∧ C p ≠ none ∧ q < 32 ∧ q / 16 = q0 / 16 ∧ C q ≠ none := by
  refine h (fun p q => p < 32 ∧ p / 16 = p0 / 16 ∧ C p ≠ none ∧ q < 32 ∧ q / 16 = q0 / 16 ∧ C q ≠ none) ⟨hp, rfl, cp, hq, rfl, cq⟩ (fun p q z w hh he => ?_)
  obtain ⟨h1, h2, h3, h4, h5, h6⟩ := hh
  obtain ⟨a1, a2, a3, b1, b2, b3⟩ := gw_ed_l hO h1 h4 he
  exact ⟨a1, by omega, a3, b1, by omega, b3⟩
/-- the marks of pairs, and the list of the marked -/
def gx_R2 (s1 s2 : Nat) (M : Nat → Bool) (xlc : Int32) (xrd xll xlr : Nat → Int32) : Prop :=
  xlc = nI (gw_cn M 256) ∧ (∀ n, n < 256 → xrd n = if M n = true then 1 else 0) ∧
  (∀ i, i < gw_cn M 256 → ∃ n, n < 256 ∧ M n = true ∧ xll i = nI (32 * s1 + n / 16) ∧ xlr i = nI (32 * s2 + n % 16)) ∧
  (∀ n, n < 256 → M n = true → ∃ i, i < gw_cn M 256 ∧ xll i = nI (32 * s1 + n / 16) ∧ xlr i = nI (32 * s2 + n % 16))
/-- within agree (p, q), at place i -/
def gx_AI (P : Nat → Option Nat) (K : Nat → Int32) (C T : Nat → Option Nat) (F : Nat → Int64) (p q t r : Nat) (M0 : Nat → Bool) (l0 r0 : Nat → Int32) (i : Nat) (M : Nat → Bool) (xlc : Int32) (xrd xll xlr : Nat → Int32) : Prop :=
  gx_R2 (p / 16) (q / 16) M xlc xrd xll xlr ∧ (∀ n, n < 256 → M0 n = true → M n = true) ∧
  (∀ a, a < gw_cn M0 256 → xll a = l0 a ∧ xlr a = r0 a) ∧
  (∀ n, n < 256 → M n = true → M0 n = true ∨ gw_ed P K C T p q (16 * (p / 16) + n / 16) (16 * (q / 16) + n % 16)) ∧
  (∀ j, j < i → gw_it P K t r j → gw_gd P K T F t r p q (j % 10) ∧ ∀ z w, T (10 * p + j % 10) = some z → T (10 * q + j % 10) = some w → M (16 * (z % 16) + w % 16) = true)
section
variable {xcu xar xrc xlc : Int32} {xde xpt xve xok xlt xty xpi : Nat → Int32} {xnu : Nat → Int64} {xtg xse xso xnf xrn xre xrl xrd xll xlr : Nat → Int32}
theorem gx_relate {post : SX → Prop} {s1 s2 a b : Nat} {M : Nat → Bool} (h1 : s1 < 2) (h2 : s2 < 2) (ha : a < 16) (hb : b < 16) (hR : gx_R2 s1 s2 M xlc xrd xll xlr) (hp : ∀ xlc' xrd' xll' xlr', gx_R2 s1 s2 (gw_u M (16 * a + b) true) xlc' xrd' xll' xlr' → (∀ i, i < gw_cn M 256 → xll' i = xll i ∧ xlr' i = xlr i) → post (xcu, xar, xrc, xlc', xde, xpt, xve, xok, xlt, xty, xpi, xnu, xtg, xse, xso, xnf, xrn, xre, xrl, xrd', xll', xlr')) : wpX_relate post (xcu, xar, xrc, xlc, xde, xpt, xve, xok, xlt, xty, xpi, xnu, xtg, xse, xso, xnf, xrn, xre, xrl, xrd, xll, xlr) (nI (32 * s1 + a)) (nI (32 * s2 + b)) := by
  obtain ⟨r1, r2, r3, r4⟩ := hR
  have e : (nI (32 * s1 + a) - nI (32 * s1 + a) / 32 * 32) * 16 + (nI (32 * s2 + b) - nI (32 * s2 + b) / 32 * 32) = nI (16 * a + b) := by
    rw [gw_m32 (by omega), gw_m32 (by omega), show (32 * s1 + a) % 32 = a by omega, show (32 * s2 + b) % 32 = b by omega]
    have h : nI a * nI 16 + nI b = nI (16 * a + b) := by rw [pk_mul, nI_add]; exact congrArg nI (by omega)
    exact h
  have hi : vp_in (nI (16 * a + b)) 256 := vp_in_nI (by omega) (by omega)
  have e1 : (nI (16 * a + b)).toNatClampNeg = 16 * a + b := nI_clamp (by omega)
  have hle := gw_cn_le (p := M) 256
  have hn : 16 * a + b < 256 := by omega
  have d1 : (16 * a + b) / 16 = a := by omega
  have d2 : (16 * a + b) % 16 = b := by omega
  refine ⟨gw_32, gw_32, nm_r e ⟨hi, ?_⟩⟩
  rw [e1]
  by_cases hm : M (16 * a + b) = true
  · refine br_f (by rw [r2 _ hn, if_pos hm]; decide) (hp _ _ _ _ ?_ (fun i _ => ⟨rfl, rfl⟩))
    have : gw_u M (16 * a + b) true = M := funext fun j => by
      by_cases h : j = 16 * a + b
      · rw [h, gw_us, hm]
      · rw [gw_un h]
    rw [this]
    exact ⟨r1, r2, r3, r4⟩
  · have hlt := gw_cn_lt hm 256 hn
    have hc := gw_cn_u hm 256
    rw [if_pos hn] at hc
    subst r1
    have hi2 : vp_in (nI (gw_cn M 256)) 256 := vp_in_nI hlt (by omega)
    have e2 : (nI (gw_cn M 256)).toNatClampNeg = gw_cn M 256 := nI_clamp (by omega)
    refine br_t (by rw [r2 _ hn, if_neg hm]) ⟨hi, nm_r (by rw [gw_n1]) ⟨hi2, nm_r (by rw [e2]) ⟨hi2, nm_r (by rw [e2]) (nm_e (hp _ _ _ _ ⟨?_, ?_, ?_, ?_⟩ ?_))⟩⟩⟩
    · rw [nI_1, hc]
    · intro j hj
      by_cases h : j = 16 * a + b
      · rw [h, pk_us, gw_us, if_pos rfl]
      · rw [pk_un h, gw_un h]; exact r2 j hj
    · intro i hi1
      by_cases h : i = gw_cn M 256
      · exact ⟨16 * a + b, hn, gw_us, by rw [h, pk_us, d1], by rw [h, pk_us, d2]⟩
      · obtain ⟨j, j1, j2, j3, j4⟩ := r3 i (by omega)
        refine ⟨j, j1, ?_, by rw [pk_un h]; exact j3, by rw [pk_un h]; exact j4⟩
        by_cases h2 : j = 16 * a + b
        · rw [h2, gw_us]
        · rw [gw_un h2]; exact j2
    · intro j hj hj2
      by_cases h : j = 16 * a + b
      · exact ⟨gw_cn M 256, by omega, by rw [pk_us, h, d1], by rw [pk_us, h, d2]⟩
      · rw [gw_un h] at hj2
        obtain ⟨i, i1, i2, i3⟩ := r4 j hj hj2
        exact ⟨i, by omega, by rw [pk_un (by omega)]; exact i2, by rw [pk_un (by omega)]; exact i3⟩
    · intro i hi1
      exact ⟨pk_un (by omega), pk_un (by omega)⟩
/-- one shared field: its values -/
theorem gx_va (hO : gw_O D P K C S T F) (hf : gx_f F xnu) (hg : gx_g T xtg) {post : Int32 → SX → Prop} {p q t r i : Nat} {M0 M : Nat → Bool} {l0 r0 : Nat → Int32} (hp : p < 32) (hq : q < 32) (cp : C p = some t) (cq : C q = some r) (hi : i < 30) (hit : gw_it P K t r i) (hk : gw_kd P K t (i % 10) = 4 ↔ gw_kd P K r (i % 10) = 4) (hA : gx_AI P K C T F p q t r M0 l0 r0 i M xlc xrd xll xlr) (h0 : ¬ gw_gd P K T F t r p q (i % 10) → ∀ xlc xrd xll xlr, post 0 (xcu, xar, xrc, xlc, xde, xpt, xve, xok, xlt, xty, xpi, xnu, xtg, xse, xso, xnf, xrn, xre, xrl, xrd, xll, xlr)) (h1 : ∀ M' xlc' xrd' xll' xlr', gx_AI P K C T F p q t r M0 l0 r0 (i + 1) M' xlc' xrd' xll' xlr' → post 1 (xcu, xar, xrc, xlc', xde, xpt, xve, xok, xlt, xty, xpi, xnu, xtg, xse, xso, xnf, xrn, xre, xrl, xrd', xll', xlr')) : wpX_valuesAgree post (xcu, xar, xrc, xlc, xde, xpt, xve, xok, xlt, xty, xpi, xnu, xtg, xse, xso, xnf, xrn, xre, xrl, xrd, xll, xlr) (nI (10 * gw_d p + i % 10)) (nI (10 * gw_d q + i % 10)) := by
  have dp := gw_dlt hp
  have dq := gw_dlt hq
  have ip : vp_in (nI (10 * gw_d p + i % 10)) 480 := vp_in_nI (by omega) (by omega)
  have iq : vp_in (nI (10 * gw_d q + i % 10)) 480 := vp_in_nI (by omega) (by omega)
  have ep : (nI (10 * gw_d p + i % 10)).toNatClampNeg = 10 * gw_d p + i % 10 := nI_clamp (by omega)
  have eq : (nI (10 * gw_d q + i % 10)).toNatClampNeg = 10 * gw_d q + i % 10 := nI_clamp (by omega)
  have nn : i % 10 < 10 := by omega
  refine ⟨ip, nm_r (e' := gw_g (T (10 * p + i % 10))) (by rw [ep]; exact hg p _ hp nn) ⟨iq, nm_r (e' := gw_g (T (10 * q + i % 10))) (by rw [eq]; exact hg q _ hq nn) ⟨ip, iq, ?_⟩⟩⟩
  rw [ep, eq, hf p _ hp nn, hf q _ hq nn]
  obtain ⟨aR, aM, aP, aE, aI⟩ := hA
  refine br_c (fun hF => ?_) (fun hF => h0 (fun z => hF z.2.1) _ _ _ _)
  -- the places before
  have keep : ∀ M' : Nat → Bool, (∀ n, n < 256 → M n = true → M' n = true) → gw_gd P K T F t r p q (i % 10) → (∀ z w, T (10 * p + i % 10) = some z → T (10 * q + i % 10) = some w → M' (16 * (z % 16) + w % 16) = true) → ∀ j, j < i + 1 → gw_it P K t r j → gw_gd P K T F t r p q (j % 10) ∧ ∀ z w, T (10 * p + j % 10) = some z → T (10 * q + j % 10) = some w → M' (16 * (z % 16) + w % 16) = true := fun M' hM hg hz j hj hij => by
    by_cases e : j = i
    · rw [e]; exact ⟨hg, hz⟩
    · obtain ⟨a, b⟩ := aI j (by omega) hij
      exact ⟨a, fun z w x y => hM _ (by omega) (b z w x y)⟩
  cases hTp : T (10 * p + i % 10) with
  | none =>
    cases hTq : T (10 * q + i % 10) with
    | none =>
      refine br_t rfl (br_t rfl (br_t rfl (br_t rfl (h1 M _ _ _ _ ⟨aR, aM, aP, aE, keep M (fun _ _ h => h) ⟨hk, hF, by rw [hTp, hTq]⟩ (fun z w x => by rw [hTp] at x; exact absurd x (by simp))⟩))))
    | some w =>
      have hw := (hO.2.2.2 q _ w hq nn (by rw [cq]; simp) hTq).1
      have dw := gw_dlt hw
      refine br_t rfl (br_f (gw_nm (by omega)) (br_f (by decide) (h0 (fun z => ?_) _ _ _ _)))
      have := z.2.2.mp hTp
      rw [hTq] at this
      exact absurd this (by simp)
  | some z =>
    obtain ⟨z1, z2, z3⟩ := hO.2.2.2 p _ z hp nn (by rw [cp]; simp) hTp
    have dz := gw_dlt z1
    cases hTq : T (10 * q + i % 10) with
    | none =>
      refine br_f (gw_nm (by omega)) (br_t rfl (br_f (by decide) (h0 (fun x => ?_) _ _ _ _)))
      have := x.2.2.mpr hTq
      rw [hTp] at this
      exact absurd this (by simp)
    | some w =>
      obtain ⟨w1, w2, w3⟩ := hO.2.2.2 q _ w hq nn (by rw [cq]; simp) hTq
      have dw := gw_dlt w1
      have ez : gw_g (some z) = nI (32 * (p / 16) + z % 16) := congrArg nI (by unfold gw_d; omega)
      have ew : gw_g (some w) = nI (32 * (q / 16) + w % 16) := congrArg nI (by unfold gw_d; omega)
      refine br_f (gw_nm (by omega)) (br_f (gw_nm (by omega)) (br_t rfl (br_f (gw_nm (by omega)) ?_)))
      rw [ez, ew]
      refine gx_relate (by omega) (by omega) (by omega) (by omega) aR (fun lc rd ll lr hR hpre => h1 _ _ _ _ _ ⟨hR, ?_, ?_, ?_, ?_⟩)
      · intro n hn hm
        by_cases e : n = 16 * (z % 16) + w % 16
        · rw [e, gw_us]
        · rw [gw_un e]; exact aM n hn hm
      · intro a ha
        have hle : gw_cn M0 256 ≤ gw_cn M 256 := gw_cn_m 256 aM
        obtain ⟨x1, x2⟩ := hpre a (by omega)
        obtain ⟨y1, y2⟩ := aP a ha
        exact ⟨x1.trans y1, x2.trans y2⟩
      · intro n hn hm
        by_cases e : n = 16 * (z % 16) + w % 16
        · right
          rw [show 16 * (p / 16) + n / 16 = z by omega, show 16 * (q / 16) + n % 16 = w by omega]
          exact ⟨t, r, i, cp, cq, hi, hit, hTp, hTq⟩
        · rw [gw_un e] at hm; exact aE n hn hm
      · refine keep _ (fun n _ hm => ?_) ⟨hk, hF, ⟨fun x => by rw [hTp] at x; exact absurd x (by simp), fun x => by rw [hTq] at x; exact absurd x (by simp)⟩⟩ (fun z' w' x y => ?_)
        · by_cases e : n = 16 * (z % 16) + w % 16
          · rw [e, gw_us]
          · rw [gw_un e]; exact hm
        · rw [hTp] at x; rw [hTq] at y
          injection x with x
          injection y with y
          rw [← x, ← y, gw_us]
end
end
