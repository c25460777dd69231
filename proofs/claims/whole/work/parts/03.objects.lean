/-! objects: what both states hold of them; lookups -/
section
def gw_O (D : Nat → Int32) (P : Nat → Option Nat) (K : Nat → Int32) (C S T : Nat → Option Nat) (F : Nat → Int64) : Prop :=
  (∀ o, o < 32 → gw_v D (o / 16) (C o)) ∧
  (∀ o q, o < 32 → S o = some q → q < 32 ∧ q / 16 ≠ o / 16 ∧ C o ≠ none ∧ C q ≠ none) ∧
  (∀ o n t, o < 32 → n < 10 → C o = some t → (gw_kd P K t n ≠ 4 → T (10 * o + n) = none) ∧ (gw_kd P K t n = 4 → F (10 * o + n) = 0)) ∧
  (∀ o n z, o < 32 → n < 10 → C o ≠ none → T (10 * o + n) = some z → z < 32 ∧ z / 16 = o / 16 ∧ C z ≠ none)
def gx_t (C : Nat → Option Nat) (a : Nat → Int32) : Prop := (∀ o, o < 32 → a (gw_d o) = gw_o (C o)) ∧ ∀ i, 16 ≤ i → i < 32 → a i = -1
def gx_b (B : Nat → Int32) (a : Nat → Int32) : Prop := ∀ o, o < 32 → a (gw_d o) = B o
def gx_s (S : Nat → Option Nat) (a : Nat → Int32) : Prop := ∀ o, o < 32 → a (gw_d o) = gw_g (S o)
def gx_f (F : Nat → Int64) (a : Nat → Int64) : Prop := ∀ o n, o < 32 → n < 10 → a (10 * gw_d o + n) = F (10 * o + n)
def gx_g (T : Nat → Option Nat) (a : Nat → Int32) : Prop := ∀ o n, o < 32 → n < 10 → a (10 * gw_d o + n) = gw_g (T (10 * o + n))
def gy_t (C : Nat → Option Nat) (a : Nat → Int32) : Prop := ∀ o, o < 32 → a o = gw_c (C o)
def gy_s (S : Nat → Option Nat) (a : Nat → Int32) : Prop := ∀ o, o < 32 → a o = gw_o (S o)
def gy_b (B : Nat → Int32) (a : Nat → Int32) : Prop := ∀ o, o < 32 → a o = B o
def gy_v (P : Nat → Option Nat) (K : Nat → Int32) (C T : Nat → Option Nat) (F : Nat → Int64) (a : Nat → Int64) : Prop :=
  ∀ o n t, o < 32 → n < 10 → C o = some t → a (10 * o + n) = if gw_kd P K t n = 4 then (gw_o (T (10 * o + n))).toInt64 else F (10 * o + n)
def gx_R (D V K : Nat → Int32) (P L C S T : Nat → Option Nat) (B : Nat → Int32) (F : Nat → Int64) (cu : Option Nat) (u : SX) : Prop := match u with
  | (xcu, xar, xrc, xlc, xde, xpt, xve, xok, xlt, xty, xpi, xnu, xtg, xse, xso, xnf, xrn, xre, xrl, xrd, xll, xlr) => xde = D ∧ xve = V ∧ xok = K ∧ gx_C D P L xpt xlt ∧ gx_t C xty ∧ gx_b B xpi ∧ gx_f F xnu ∧ gx_g T xtg ∧ gx_s S xse ∧ xcu = gw_g cu
def gy_R (D V K : Nat → Int32) (P L C S T : Nat → Option Nat) (B : Nat → Int32) (F : Nat → Int64) (cu : Option Nat) (v : SY) : Prop := match v with
  | (ycu, ydp, ylm, yde, yve, ypa, yow, yla, ycl, ypr, ypi, yar, yva, yfr, yma, ydo, yro) => yde = D ∧ yve = V ∧ yow = K ∧ gy_C D P L ypa yla ∧ gy_t C ycl ∧ gy_b B ypi ∧ gy_v P K C T F yva ∧ gy_s S ypr ∧ ycu = gw_g cu
/-- the two states are pictures of one and the same classes and objects -/
def i_Rel (_ : Nat) (u : SX) (v : SY) : Prop :=
  ∃ D V K P L C S T B F cu, gw_C D K P L ∧ gw_O D P K C S T F ∧ gx_R D V K P L C S T B F cu u ∧ gy_R D V K P L C S T B F cu v
theorem i_up {k : Nat} {u : SX} {v : SY} (h : i_Rel k u v) : i_Rel (k + 5) u v := h
def gw_fg {α : Type} (a : Nat → α) (lo hi : Nat) (v : α) : Nat → α := fun i => if lo ≤ i ∧ i < hi then v else a i
theorem gw_fg_i {α : Type} {a : Nat → α} {lo hi i : Nat} {v : α} (h : lo ≤ i ∧ i < hi) : gw_fg a lo hi v i = v := if_pos h
theorem gw_fg_o {α : Type} {a : Nat → α} {lo hi i : Nat} {v : α} (h : ¬ (lo ≤ i ∧ i < hi)) : gw_fg a lo hi v i = a i := if_neg h
variable {D V K B : Nat → Int32} {P L C S T : Nat → Option Nat} {F : Nat → Int64} {cu : Option Nat}
/-! stores -/
theorem gx_t_u {a : Nat → Int32} (h : gx_t C a) {o : Nat} (ho : o < 32) (x : Option Nat) : gx_t (gw_u C o x) (upd a (gw_d o) (gw_o x)) := by
  refine ⟨fun p hp => ?_, fun i h1 h2 => ?_⟩
  · by_cases e : p = o
    · subst e; rw [pk_us, gw_us]
    · rw [pk_un (fun z => e (gw_dinj z)), gw_un e]; exact h.1 p hp
  · rw [pk_un (by unfold gw_d; omega)]; exact h.2 i h1 h2
theorem gx_b_u {a : Nat → Int32} (h : gx_b B a) {o : Nat} (x : Int32) : gx_b (gw_u B o x) (upd a (gw_d o) x) := fun p hp => by
  by_cases e : p = o
  · subst e; rw [pk_us, gw_us]
  · rw [pk_un (fun z => e (gw_dinj z)), gw_un e]; exact h p hp
theorem gx_s_u {a : Nat → Int32} (h : gx_s S a) {o : Nat} (x : Option Nat) : gx_s (gw_u S o x) (upd a (gw_d o) (gw_g x)) := fun p hp => by
  by_cases e : p = o
  · subst e; rw [pk_us, gw_us]
  · rw [pk_un (fun z => e (gw_dinj z)), gw_un e]; exact h p hp
theorem gx_f_u {a : Nat → Int64} (h : gx_f F a) {o n : Nat} (hn : n < 10) (x : Int64) : gx_f (gw_u F (10 * o + n) x) (vp_updL a (10 * gw_d o + n) x) := fun p m hp hm => by
  by_cases e : 10 * p + m = 10 * o + n
  · rw [e, gw_us, show 10 * gw_d p + m = 10 * gw_d o + n by unfold gw_d; omega, pk_uLs]
  · rw [gw_un e, pk_uLn (by unfold gw_d; omega)]; exact h p m hp hm
theorem gx_g_u {a : Nat → Int32} (h : gx_g T a) {o n : Nat} (hn : n < 10) (x : Option Nat) : gx_g (gw_u T (10 * o + n) x) (upd a (10 * gw_d o + n) (gw_g x)) := fun p m hp hm => by
  by_cases e : 10 * p + m = 10 * o + n
  · rw [e, gw_us, show 10 * gw_d p + m = 10 * gw_d o + n by unfold gw_d; omega, pk_us]
  · rw [gw_un e, pk_un (by unfold gw_d; omega)]; exact h p m hp hm
theorem gx_f_z {a : Nat → Int64} (h : gx_f F a) {o : Nat} (x : Int64) : gx_f (gw_fg F (10 * o) (10 * o + 10) x) (gw_fL a (10 * gw_d o) (10 * gw_d o + 10) x) := fun p m hp hm => by
  by_cases e : p = o
  · rw [gw_fg_i (by omega), gw_fL_i (by rw [e]; omega)]
  · rw [gw_fg_o (by omega), gw_fL_o (by unfold gw_d; omega)]; exact h p m hp hm
theorem gx_g_z {a : Nat → Int32} (h : gx_g T a) {o : Nat} (x : Option Nat) : gx_g (gw_fg T (10 * o) (10 * o + 10) x) (gw_fi a (10 * gw_d o) (10 * gw_d o + 10) (gw_g x)) := fun p m hp hm => by
  by_cases e : p = o
  · rw [gw_fg_i (by omega), gw_fi_i (by rw [e]; omega)]
  · rw [gw_fg_o (by omega), gw_fi_o (by unfold gw_d; omega)]; exact h p m hp hm
theorem gy_t_u {a : Nat → Int32} (h : gy_t C a) {o : Nat} (x : Option Nat) : gy_t (gw_u C o x) (upd a o (gw_c x)) := fun p hp => by
  by_cases e : p = o
  · subst e; rw [pk_us, gw_us]
  · rw [pk_un e, gw_un e]; exact h p hp
theorem gy_s_u {a : Nat → Int32} (h : gy_s S a) {o : Nat} (x : Option Nat) : gy_s (gw_u S o x) (upd a o (gw_o x)) := fun p hp => by
  by_cases e : p = o
  · subst e; rw [pk_us, gw_us]
  · rw [pk_un e, gw_un e]; exact h p hp
theorem gy_b_u {a : Nat → Int32} (h : gy_b B a) {o : Nat} (x : Int32) : gy_b (gw_u B o x) (upd a o x) := fun p hp => by
  by_cases e : p = o
  · subst e; rw [pk_us, gw_us]
  · rw [pk_un e, gw_un e]; exact h p hp
/-- a number or a target stored -/
theorem gy_v_f {a : Nat → Int64} (h : gy_v P K C T F a) {o n t : Nat} (hn : n < 10) (hC : C o = some t) (hk : gw_kd P K t n ≠ 4) (x : Int64) : gy_v P K C T (gw_u F (10 * o + n) x) (vp_updL a (10 * o + n) x) := fun p m r hp hm hr => by
  by_cases e : 10 * p + m = 10 * o + n
  · have e1 : p = o := by omega
    have e2 : m = n := by omega
    subst e1 e2
    rw [hC] at hr
    cases hr
    rw [gw_us, pk_uLs, if_neg hk]
  · rw [gw_un e, pk_uLn e]; exact h p m r hp hm hr
theorem gy_v_g {a : Nat → Int64} (h : gy_v P K C T F a) {o n t : Nat} (hn : n < 10) (hC : C o = some t) (hk : gw_kd P K t n = 4) (x : Option Nat) : gy_v P K C (gw_u T (10 * o + n) x) F (vp_updL a (10 * o + n) (gw_o x).toInt64) := fun p m r hp hm hr => by
  by_cases e : 10 * p + m = 10 * o + n
  · have e1 : p = o := by omega
    have e2 : m = n := by omega
    subst e1 e2
    rw [hC] at hr
    cases hr
    rw [gw_us, pk_uLs, if_pos hk]
  · rw [gw_un e, pk_uLn e]; exact h p m r hp hm hr
/-! objects by their ID -/
theorem gw_obj (C : Nat → Option Nat) (x : Int32) : (∃ o t, o < 32 ∧ C o = some t ∧ x = nI (gw_d o)) ∨ (∀ o t, o < 32 → C o = some t → x ≠ nI (gw_d o)) := by
  by_cases h : ∃ o t, o < 32 ∧ C o = some t ∧ x = nI (gw_d o)
  · exact Or.inl h
  · exact Or.inr (fun o t a b c => h ⟨o, t, a, b, c⟩)
theorem gw_nam (x : Int32) : (∃ n, n < 10 ∧ x = nI n) ∨ (x < 0 ∨ nI 10 ≤ x) := by
  rcases pk_ix x (n := 10) (by omega) with h | h | h
  · exact Or.inr (Or.inl h)
  · exact Or.inr (Or.inr h)
  · exact Or.inl h
theorem gw_sid (x : Int32) : (∃ s, s < 2 ∧ x = nI s) ∨ (x < 0 ∨ nI 2 ≤ x) := by
  rcases pk_ix x (n := 2) (by omega) with h | h | h
  · exact Or.inr (Or.inl h)
  · exact Or.inr (Or.inr h)
  · exact Or.inl h
theorem gw_cls (x : Int32) : (∃ s, s < 6 ∧ x = nI s) ∨ (x < 0 ∨ nI 6 ≤ x) := by
  rcases pk_ix x (n := 6) (by omega) with h | h | h
  · exact Or.inr (Or.inl h)
  · exact Or.inr (Or.inr h)
  · exact Or.inl h
/-- which object is to be made next -/
def gw_ff (C : Nat → Option Nat) : Nat → Nat → Option Nat
  | 0, _ => none
  | d + 1, o => match C o with
    | none => some o
    | some _ => gw_ff C d (o + 1)
def gw_fr (C : Nat → Option Nat) (s : Nat) : Option Nat := gw_ff C 16 (16 * s)
theorem gw_ff_p : ∀ d o q, gw_ff C d o = some q → o ≤ q ∧ q < o + d ∧ C q = none := by
  intro d
  induction d with
  | zero => intro o q h; exact absurd h (by simp [gw_ff])
  | succ d ih =>
    intro o q h
    unfold gw_ff at h
    cases hc : C o with
    | none => rw [hc] at h; injection h with h; subst h; exact ⟨by omega, by omega, hc⟩
    | some t => rw [hc] at h; obtain ⟨a, b, c⟩ := ih (o + 1) q h; exact ⟨by omega, by omega, c⟩
theorem gw_fr_p {s q : Nat} (h : gw_fr C s = some q) : 16 * s ≤ q ∧ q < 16 * s + 16 ∧ C q = none := gw_ff_p 16 _ q h
/-! the component's lookups -/
section
variable {xcu xar xrc xlc : Int32} {xde xpt xve xok xlt xty xpi : Nat → Int32} {xnu : Nat → Int64} {xtg xse xso xnf xrn xre xrl xrd xll xlr : Nat → Int32}
theorem gx_isSide1 {post : Int32 → Prop} {u : SX} {s : Nat} (hs : s < 2) (hp : post 1) : wpX_isSide post u (nI s) := by
  obtain ⟨xcu, xar, xrc, xlc, xde, xpt, xve, xok, xlt, xty, xpi, xnu, xtg, xse, xso, xnf, xrn, xre, xrl, xrd, xll, xlr⟩ := u
  exact br_f (gw_p0 (by omega)) (br_f (nI_ge (b := 2) hs (by omega)) hp)
theorem gx_isSide0 {post : Int32 → Prop} {u : SX} {p : Int32} (h : p < 0 ∨ nI 2 ≤ p) (hp : post 0) : wpX_isSide post u p := by
  obtain ⟨xcu, xar, xrc, xlc, xde, xpt, xve, xok, xlt, xty, xpi, xnu, xtg, xse, xso, xnf, xrn, xre, xrl, xrd, xll, xlr⟩ := u
  exact br_c (fun _ => hp) (fun h0 => br_c (fun _ => hp) (fun h2 => (h.elim h0 h2).elim))
theorem gx_name1 {post : Int32 → Prop} {u : SX} {s : Nat} (hs : s < 10) (hp : post 1) : wpX_isFieldName post u (nI s) := by
  obtain ⟨xcu, xar, xrc, xlc, xde, xpt, xve, xok, xlt, xty, xpi, xnu, xtg, xse, xso, xnf, xrn, xre, xrl, xrd, xll, xlr⟩ := u
  exact br_f (gw_p0 (by omega)) (br_f (nI_ge (b := 10) hs (by omega)) hp)
theorem gx_name0 {post : Int32 → Prop} {u : SX} {p : Int32} (h : p < 0 ∨ nI 10 ≤ p) (hp : post 0) : wpX_isFieldName post u p := by
  obtain ⟨xcu, xar, xrc, xlc, xde, xpt, xve, xok, xlt, xty, xpi, xnu, xtg, xse, xso, xnf, xrn, xre, xrl, xrd, xll, xlr⟩ := u
  exact br_c (fun _ => hp) (fun h0 => br_c (fun _ => hp) (fun h2 => (h.elim h0 h2).elim))
theorem gx_class {post : Int32 → Prop} {s c : Nat} (hs : s < 2) (hc : c < 6) (h0 : xde (6 * s + c) = 0 → post 0) (h1 : ¬ xde (6 * s + c) = 0 → post 1) : wpX_isClass post (xcu, xar, xrc, xlc, xde, xpt, xve, xok, xlt, xty, xpi, xnu, xtg, xse, xso, xnf, xrn, xre, xrl, xrd, xll, xlr) (nI s) (nI c) := by
  have e := gw_e1 s c
  refine br_f (gw_p0 (by omega)) (br_f (nI_ge (b := 6) hc (by omega)) ⟨by rw [e]; exact vp_in_nI (by omega) (by omega), ?_⟩)
  rw [e, nI_clamp (by omega)]
  exact ⟨h0, h1⟩
theorem gx_class0 {post : Int32 → Prop} {u : SX} {q p : Int32} (h : p < 0 ∨ nI 6 ≤ p) (hp : post 0) : wpX_isClass post u q p := by
  obtain ⟨xcu, xar, xrc, xlc, xde, xpt, xve, xok, xlt, xty, xpi, xnu, xtg, xse, xso, xnf, xrn, xre, xrl, xrd, xll, xlr⟩ := u
  exact br_c (fun _ => hp) (fun h0 => br_c (fun _ => hp) (fun h2 => (h.elim h0 h2).elim))
theorem gx_obj1 (ht : gx_t C xty) {post : Int32 → Prop} {o t : Nat} (ho : o < 32) (hC : C o = some t) (h12 : t < 12) (hp : post 1) : wpX_isObject post (xcu, xar, xrc, xlc, xde, xpt, xve, xok, xlt, xty, xpi, xnu, xtg, xse, xso, xnf, xrn, xre, xrl, xrd, xll, xlr) (nI (gw_d o)) := by
  have hd := gw_dlt ho
  refine br_f (gw_p0 (by omega)) (br_f (nI_ge (b := 48) hd (by omega)) ⟨vp_in_nI hd (by omega), br_f ?_ hp⟩)
  rw [nI_clamp (by omega), ht.1 o ho, hC]
  exact gw_nm (by omega)
theorem gx_obj0 (ht : gx_t C xty) {post : Int32 → Prop} {p : Int32} (h : ∀ o t, o < 32 → C o = some t → p ≠ nI (gw_d o)) (hp : post 0) : wpX_isObject post (xcu, xar, xrc, xlc, xde, xpt, xve, xok, xlt, xty, xpi, xnu, xtg, xse, xso, xnf, xrn, xre, xrl, xrd, xll, xlr) p := by
  refine br_c (fun _ => hp) (fun h0 => br_c (fun _ => hp) (fun h1 => ?_))
  obtain ⟨j, hj, rfl⟩ := nI_of h0
  have h48 : j < 48 := by
    rcases Nat.lt_or_ge j 48 with z | z
    · exact z
    · exact absurd (nI_le (a := 48) z hj) h1
  refine ⟨vp_in_nI h48 (by omega), br_t ?_ hp⟩
  rw [nI_clamp hj]
  by_cases hm : 16 ≤ j ∧ j < 32
  · exact ht.2 j hm.1 hm.2
  · have ed : gw_d (j - j / 32 * 16) = j := by unfold gw_d; omega
    have := ht.1 (j - j / 32 * 16) (by omega)
    rw [ed] at this
    rw [this]
    cases hc : C (j - j / 32 * 16) with
    | none => rfl
    | some t => exact absurd (congrArg nI ed.symm) (h _ t (by omega) hc)
theorem gx_hasNum (hC : gw_C D xok P L) (hx : gx_C D P L xpt xlt) (ht : gx_t C xty) {post : Int32 → Prop} {o t n : Nat} (ho : o < 32) (hCo : C o = some t) (hv : gw_v D (o / 16) (some t)) (hn : n < 10) (h0 : gw_kd P xok t n = -1 ∨ gw_kd P xok t n = 4 → post 0) (h1 : gw_kd P xok t n ≠ -1 → gw_kd P xok t n ≠ 4 → post 1) : wpX_hasNumber post (xcu, xar, xrc, xlc, xde, xpt, xve, xok, xlt, xty, xpi, xnu, xtg, xse, xso, xnf, xrn, xre, xrl, xrd, xll, xlr) (nI (gw_d o)) (nI n) := by
  have h12 := (hv t rfl).1
  have hd := gw_dlt ho
  unfold wpX_hasNumber; dsimp only
  refine gx_obj1 ht ho hCo h12 (br_f (by decide) (gx_name1 hn (br_f (by decide) ⟨vp_in_nI hd (by omega), ?_⟩)))
  rw [nI_clamp (by omega), ht.1 o ho, hCo]
  exact gx_kind hC hx hn hv (br_c (fun h => h0 (Or.inl h)) (fun h => br_c (fun g => h0 (Or.inr g)) (fun g => h1 h g)))
theorem gx_hasNum0 (ht : gx_t C xty) {post : Int32 → Prop} {p q : Int32} (h : ∀ o t, o < 32 → C o = some t → p ≠ nI (gw_d o)) (hp : post 0) : wpX_hasNumber post (xcu, xar, xrc, xlc, xde, xpt, xve, xok, xlt, xty, xpi, xnu, xtg, xse, xso, xnf, xrn, xre, xrl, xrd, xll, xlr) p q := by
  unfold wpX_hasNumber; dsimp only
  exact gx_obj0 ht h (br_t rfl hp)
theorem gx_hasNumN (ht : gx_t C xty) {post : Int32 → Prop} {o t : Nat} {q : Int32} (ho : o < 32) (hC : C o = some t) (h12 : t < 12) (h : q < 0 ∨ nI 10 ≤ q) (hp : post 0) : wpX_hasNumber post (xcu, xar, xrc, xlc, xde, xpt, xve, xok, xlt, xty, xpi, xnu, xtg, xse, xso, xnf, xrn, xre, xrl, xrd, xll, xlr) (nI (gw_d o)) q := by
  unfold wpX_hasNumber; dsimp only
  exact gx_obj1 ht ho hC h12 (br_f (by decide) (gx_name0 h (br_t rfl hp)))
theorem gx_hasRef (hC : gw_C D xok P L) (hx : gx_C D P L xpt xlt) (ht : gx_t C xty) {post : Int32 → Prop} {o t n : Nat} (ho : o < 32) (hCo : C o = some t) (hv : gw_v D (o / 16) (some t)) (hn : n < 10) (h0 : gw_kd P xok t n ≠ 4 → post 0) (h1 : gw_kd P xok t n = 4 → post 1) : wpX_hasReference post (xcu, xar, xrc, xlc, xde, xpt, xve, xok, xlt, xty, xpi, xnu, xtg, xse, xso, xnf, xrn, xre, xrl, xrd, xll, xlr) (nI (gw_d o)) (nI n) := by
  have h12 := (hv t rfl).1
  have hd := gw_dlt ho
  unfold wpX_hasReference; dsimp only
  refine gx_obj1 ht ho hCo h12 (br_f (by decide) (gx_name1 hn (br_f (by decide) ⟨vp_in_nI hd (by omega), ?_⟩)))
  rw [nI_clamp (by omega), ht.1 o ho, hCo]
  exact gx_kind hC hx hn hv (br_c h1 h0)
theorem gx_hasRef0 (ht : gx_t C xty) {post : Int32 → Prop} {p q : Int32} (h : ∀ o t, o < 32 → C o = some t → p ≠ nI (gw_d o)) (hp : post 0) : wpX_hasReference post (xcu, xar, xrc, xlc, xde, xpt, xve, xok, xlt, xty, xpi, xnu, xtg, xse, xso, xnf, xrn, xre, xrl, xrd, xll, xlr) p q := by
  unfold wpX_hasReference; dsimp only
  exact gx_obj0 ht h (br_t rfl hp)
theorem gx_hasRefN (ht : gx_t C xty) {post : Int32 → Prop} {o t : Nat} {q : Int32} (ho : o < 32) (hC : C o = some t) (h12 : t < 12) (h : q < 0 ∨ nI 10 ≤ q) (hp : post 0) : wpX_hasReference post (xcu, xar, xrc, xlc, xde, xpt, xve, xok, xlt, xty, xpi, xnu, xtg, xse, xso, xnf, xrn, xre, xrl, xrd, xll, xlr) (nI (gw_d o)) q := by
  unfold wpX_hasReference; dsimp only
  exact gx_obj1 ht ho hC h12 (br_f (by decide) (gx_name0 h (br_t rfl hp)))
theorem gx_lf (hv : ∀ o, o < 32 → gw_v D (o / 16) (C o)) (ht : gx_t C xty) {post : Int32 → Prop} {s : Nat} (hs : s < 2) : ∀ d j, j + d = 16 → post (gw_g (gw_ff C d (16 * s + j))) → wX_leastFree_2 post (nI s) xcu xar xrc xlc xde xpt xve xok xlt xty xpi xnu xtg xse xso xnf xrn xre xrl xrd xll xlr (d + 1) (nI j) := by
  intro d
  induction d with
  | zero => intro j h1 hp; exact br_t (nI_le (a := 16) (by omega) (by omega)) hp
  | succ d ih =>
    intro j h1 hp
    have e := gw_e5 s j
    have ed : gw_d (16 * s + j) = 32 * s + j := gw_d1 (by omega)
    refine br_f (nI_ge (b := 16) (by omega) (by omega)) ⟨by rw [e]; exact vp_in_nI (by omega) (by omega), ?_⟩
    rw [e, nI_clamp (by omega), ← ed, ht.1 _ (by omega)]
    unfold gw_ff at hp
    cases hc : C (16 * s + j) with
    | none => rw [hc] at hp; exact br_t rfl hp
    | some t =>
      rw [hc] at hp
      have := hv (16 * s + j) (by omega) t hc
      exact br_f (gw_nm (by omega)) (nm_r (nI_1 j) (ih (j + 1) (by omega) hp))
theorem gx_free (hv : ∀ o, o < 32 → gw_v D (o / 16) (C o)) (ht : gx_t C xty) {post : Int32 → Prop} {s : Nat} (hs : s < 2) (hp : post (gw_g (gw_fr C s))) : wpX_leastFree post (xcu, xar, xrc, xlc, xde, xpt, xve, xok, xlt, xty, xpi, xnu, xtg, xse, xso, xnf, xrn, xre, xrl, xrd, xll, xlr) (nI s) :=
  ⟨17, gx_lf hv ht hs 16 0 (by omega) hp⟩
theorem gx_pl {post : SX → Prop} {q : Nat} (hq : q < 48) : ∀ d j xnu xtg, j + d = 10 → post (xcu, xar, xrc, xlc, xde, xpt, xve, xok, xlt, xty, xpi, gw_fL xnu (10 * q + j) (10 * q + 10) 0, gw_fi xtg (10 * q + j) (10 * q + 10) (-1), xse, xso, xnf, xrn, xre, xrl, xrd, xll, xlr) → wX_placeObject_23 post (nI q) xcu xar xrc xlc (d + 1) (nI j) xde xpt xve xok xlt xty xpi xnu xtg xse xso xnf xrn xre xrl xrd xll xlr := by
  intro d
  induction d with
  | zero =>
    intro j xnu xtg h1 hp
    rw [gw_fL_e (by omega), gw_fi_e (by omega)] at hp
    exact br_t (nI_le (a := 10) (by omega) (by omega)) hp
  | succ d ih =>
    intro j xnu xtg h1 hp
    have e := gw_e3 q j
    have e2 : (nI q * 10 + nI j).toNatClampNeg = 10 * q + j := by rw [e, nI_clamp (by omega)]
    have hi : vp_in (nI q * 10 + nI j) 480 := by rw [e]; exact vp_in_nI (by omega) (by omega)
    refine br_f (nI_ge (b := 10) (by omega) (by omega)) ⟨hi, nm_r (by rw [e2]) ⟨hi, nm_r (by rw [e2]) (nm_r (nI_1 j) (ih (j + 1) _ _ (by omega) ?_))⟩⟩
    rw [show 10 * q + (j + 1) = 10 * q + j + 1 from rfl, gw_fL_s (by omega), gw_fi_s (by omega)]
    exact hp
theorem gx_place {post : SX → Prop} {q : Nat} {x : Int32} (hq : q < 48) (hp : post (xcu, xar, xrc, xlc, xde, xpt, xve, xok, xlt, upd xty q x, upd xpi q 0, gw_fL xnu (10 * q) (10 * q + 10) 0, gw_fi xtg (10 * q) (10 * q + 10) (-1), upd xse q (-1), xso, xnf, xrn, xre, xrl, xrd, xll, xlr)) : wpX_placeObject post (xcu, xar, xrc, xlc, xde, xpt, xve, xok, xlt, xty, xpi, xnu, xtg, xse, xso, xnf, xrn, xre, xrl, xrd, xll, xlr) (nI q) x := by
  have hi : vp_in (nI q) 48 := vp_in_nI hq (by omega)
  have e : (nI q).toNatClampNeg = q := nI_clamp (by omega)
  exact ⟨hi, nm_r (by rw [e]) ⟨hi, nm_r (by rw [e, gw_n0]) ⟨hi, nm_r (by rw [e]) ⟨11, gx_pl hq 10 0 _ _ (by omega) hp⟩⟩⟩⟩
theorem gx_em {post : SX → Prop} {s : Nat} (hs : s < 2) : ∀ d j xse, j + d = 16 → post (xcu, xar, xrc, xlc, xde, xpt, xve, xok, xlt, xty, xpi, xnu, xtg, gw_fi xse (32 * s + j) (32 * s + 16) (-1), xso, xnf, xrn, xre, xrl, xrd, xll, xlr) → wX_emptySession_2 post (nI s) xcu xar xrc xlc (d + 1) (nI j) xde xpt xve xok xlt xty xpi xnu xtg xse xso xnf xrn xre xrl xrd xll xlr := by
  intro d
  induction d with
  | zero =>
    intro j xse h1 hp
    rw [gw_fi_e (by omega)] at hp
    exact br_t (nI_le (a := 16) (by omega) (by omega)) hp
  | succ d ih =>
    intro j xse h1 hp
    have e := gw_e5 s j
    refine br_f (nI_ge (b := 16) (by omega) (by omega)) ⟨by rw [e]; exact vp_in_nI (by omega) (by omega), nm_r (by rw [e, nI_clamp (by omega)]) (nm_r (nI_1 j) (ih (j + 1) _ (by omega) ?_))⟩
    rw [show 32 * s + (j + 1) = 32 * s + j + 1 from rfl, gw_fi_s (by omega)]
    exact hp
theorem gx_empty {post : SX → Prop} {s : Nat} (hs : s < 2) (hp : post (xcu, xar, xrc, xlc, xde, xpt, xve, xok, xlt, xty, xpi, xnu, xtg, gw_fi xse (32 * s) (32 * s + 16) (-1), xso, xnf, xrn, xre, xrl, xrd, xll, xlr)) : wpX_emptySession post (xcu, xar, xrc, xlc, xde, xpt, xve, xok, xlt, xty, xpi, xnu, xtg, xse, xso, xnf, xrn, xre, xrl, xrd, xll, xlr) (nI s) :=
  ⟨17, gx_em hs 16 0 _ (by omega) hp⟩
end
/-! the reference's lookups -/
section
variable {ycu ydp ylm : Int32} {yde yve ypa yow yla ycl ypr ypi yar : Nat → Int32} {yva : Nat → Int64} {yfr yma ydo yro : Nat → Int32}
theorem gy_side1 {post : Int32 → Prop} {u : SY} {s : Nat} (hs : s < 2) (hp : post 1) : wpY_side post u (nI s) := by
  obtain ⟨ycu, ydp, ylm, yde, yve, ypa, yow, yla, ycl, ypr, ypi, yar, yva, yfr, yma, ydo, yro⟩ := u
  by_cases h : s = 0
  · subst h; exact br_t rfl hp
  · have : s = 1 := by omega
    subst this
    exact br_f (by decide) (br_t rfl hp)
theorem gy_side0 {post : Int32 → Prop} {u : SY} {p : Int32} (h : p < 0 ∨ nI 2 ≤ p) (hp : post 0) : wpY_side post u p := by
  obtain ⟨ycu, ydp, ylm, yde, yve, ypa, yow, yla, ycl, ypr, ypi, yar, yva, yfr, yma, ydo, yro⟩ := u
  exact br_f (fun e => by subst e; exact absurd h (by decide)) (br_f (fun e => by subst e; exact absurd h (by decide)) hp)
theorem gy_obj1 (ht : gy_t C ycl) {post : Int32 → Prop} {o t : Nat} (ho : o < 32) (hC : C o = some t) (hp : post (nI o)) : wpY_object post (ycu, ydp, ylm, yde, yve, ypa, yow, yla, ycl, ypr, ypi, yar, yva, yfr, yma, ydo, yro) (nI (gw_d o)) := by
  have hd := gw_dlt ho
  have e1 : nI (gw_d o) - nI (gw_d o) / 32 * 32 = nI (o % 16) := by rw [gw_m32 (by omega), gw_dm]
  have e2 : nI (gw_d o) / 32 * 16 + (nI (gw_d o) - nI (gw_d o) / 32 * 32) = nI o := by rw [gw_ob (by omega)]; exact congrArg nI (by unfold gw_d; omega)
  refine br_f (gw_p0 (by omega)) (br_f (nI_nlt (b := 47) (a := 47) (by omega) (by omega) |> fun _ => ?_) ⟨gw_32, br_t ?_ ⟨gw_32, gw_32, nm_r e2 ⟨vp_in_nI ho (by omega), br_t ?_ hp⟩⟩⟩)
  · exact nI_nlt (a := 47) (b := gw_d o) (by omega) (by omega)
  · rw [e1]; exact nI_le (b := 15) (by omega) (by omega)
  · rw [nI_clamp (by omega), ht o ho, hC]; exact nI_pos' (by omega)
theorem gy_obj0 (ht : gy_t C ycl) {post : Int32 → Prop} {p : Int32} (h : ∀ o t, o < 32 → C o = some t → p ≠ nI (gw_d o)) (hp : post (-1)) : wpY_object post (ycu, ydp, ylm, yde, yve, ypa, yow, yla, ycl, ypr, ypi, yar, yva, yfr, yma, ydo, yro) p := by
  refine br_c (fun _ => hp) (fun h0 => br_c (fun _ => hp) (fun h1 => ?_))
  obtain ⟨j, hj, rfl⟩ := nI_of h0
  have h48 : j < 48 := by
    rcases Nat.lt_or_ge j 48 with z | z
    · exact z
    · exact absurd (nI_lt (a := 47) (b := j) (by omega) hj) h1
  have e1 : nI j - nI j / 32 * 32 = nI (j % 32) := gw_m32 (by omega)
  refine ⟨gw_32, br_c (fun h2 => ⟨gw_32, gw_32, nm_r (gw_ob (by omega)) ?_⟩) (fun _ => hp)⟩
  rw [e1] at h2
  have h3 : nI (j % 32) ≤ nI 15 := h2
  rw [nI_leI (by omega) (by omega)] at h3
  refine ⟨vp_in_nI (by omega) (by omega), br_f ?_ hp⟩
  rw [nI_clamp (by omega), ht _ (by omega)]
  cases hc : C (16 * (j / 32) + j % 32) with
  | none => decide
  | some t => exact absurd (congrArg nI (by unfold gw_d; omega)) (h _ t (by omega) hc)
theorem gy_m1 {post : Int32 → Prop} {u : SY} (hp : post (-1)) : wpY_object post u (-1) := by
  obtain ⟨ycu, ydp, ylm, yde, yve, ypa, yow, yla, ycl, ypr, ypi, yar, yva, yfr, yma, ydo, yro⟩ := u
  exact br_t (by decide) hp
theorem gy_id {post : Int32 → Prop} {u : SY} {o : Nat} (ho : o < 32) (hp : post (nI (gw_d o))) : wpY_id post u (nI o) := by
  obtain ⟨ycu, ydp, ylm, yde, yve, ypa, yow, yla, ycl, ypr, ypi, yar, yva, yfr, yma, ydo, yro⟩ := u
  refine ⟨gw_16, gw_16, ?_⟩
  rw [gw_id (by omega)]
  exact hp
theorem gy_kindOf (hC : gw_C D yow P L) (hy : gy_C D P L ypa yla) (ht : gy_t C ycl) {post : Int32 → Prop} {o t n : Nat} (ho : o < 32) (hCo : C o = some t) (hv : gw_v D (o / 16) (some t)) (hn : n < 10) (hp : post (gw_kd P yow t n)) : wpY_kindOf post (ycu, ydp, ylm, yde, yve, ypa, yow, yla, ycl, ypr, ypi, yar, yva, yfr, yma, ydo, yro) (nI o) (nI n) := by
  obtain ⟨h1, h2, _⟩ := hv t rfl
  have et : 6 * (o / 16) + t % 6 = t := by omega
  refine br_t (nI_pos' (by omega)) ⟨gw_16, vp_in_nI ho (by omega), ?_⟩
  rw [nI_clamp (by omega), ht o ho, hCo, gw_q16 (by omega)]
  exact gy_kind hC hy (by omega) (by omega) hn (by rw [et]; exact hv) (by rw [et]; exact hp)
theorem gy_kindOf0 {post : Int32 → Prop} {u : SY} {q : Int32} (hp : post (-1)) : wpY_kindOf post u (-1) q := by
  obtain ⟨ycu, ydp, ylm, yde, yve, ypa, yow, yla, ycl, ypr, ypi, yar, yva, yfr, yma, ydo, yro⟩ := u
  exact br_f (by decide) hp
theorem gy_kindOfN {post : Int32 → Prop} {o : Nat} {q : Int32} (ho : o < 32) (h : q < 0 ∨ nI 10 ≤ q) (hp : post (-1)) : wpY_kindOf post (ycu, ydp, ylm, yde, yve, ypa, yow, yla, ycl, ypr, ypi, yar, yva, yfr, yma, ydo, yro) (nI o) q :=
  br_t (nI_pos' (by omega)) ⟨gw_16, vp_in_nI ho (by omega), gy_kindN h hp⟩
theorem gy_lf (hv : ∀ o, o < 32 → gw_v D (o / 16) (C o)) (ht : gy_t C ycl) {post : Int32 → Prop} {s : Nat} (hs : s < 2) : ∀ d j, j + d = 16 → post (gw_o (gw_ff C d (16 * s + j))) → wY_free_5 post (nI s) ycu ydp ylm yde yve ypa yow yla ycl ypr ypi yar yva yfr yma ydo yro (d + 1) (nI (16 * s + j)) := by
  intro d
  have e16 := gw_e6b s
  induction d with
  | zero => intro j h1 hp; exact br_t (by rw [e16]; exact nI_le (by omega) (by omega)) hp
  | succ d ih =>
    intro j h1 hp
    refine br_f (by rw [e16]; exact nI_ge (by omega) (by omega)) ⟨vp_in_nI (by omega) (by omega), ?_⟩
    rw [nI_clamp (by omega), ht _ (by omega)]
    unfold gw_ff at hp
    cases hc : C (16 * s + j) with
    | none => rw [hc] at hp; exact br_f (by decide) hp
    | some t =>
      rw [hc] at hp
      exact br_t (nI_pos' (by omega)) (nm_r (nI_1 _) (ih (j + 1) (by omega) hp))
theorem gy_free (hv : ∀ o, o < 32 → gw_v D (o / 16) (C o)) (ht : gy_t C ycl) {post : Int32 → Prop} {s : Nat} (hs : s < 2) (hp : post (gw_o (gw_fr C s))) : wpY_free post (ycu, ydp, ylm, yde, yve, ypa, yow, yla, ycl, ypr, ypi, yar, yva, yfr, yma, ydo, yro) (nI s) :=
  nm_r (gw_e6 s) ⟨17, gy_lf hv ht hs 16 0 (by omega) hp⟩
/-- the values of a new object -/
def gw_cv (P : Nat → Option Nat) (K : Nat → Int32) (t : Nat) (a : Nat → Int64) (o j : Nat) : Nat → Int64 := fun i => if 10 * o + j ≤ i ∧ i < 10 * o + 10 then (if gw_kd P K t (i - 10 * o) = 4 then -1 else 0) else a i
theorem gw_cv_e {t o : Nat} {a : Nat → Int64} : gw_cv P K t a o 10 = a := funext fun i => if_neg (by omega)
theorem gw_cv_s {t o j : Nat} {a : Nat → Int64} (hj : j < 10) : gw_cv P K t (vp_updL a (10 * o + j) (if gw_kd P K t j = 4 then -1 else 0)) o (j + 1) = gw_cv P K t a o j := funext fun i => by
  unfold gw_cv vp_updL
  by_cases h1 : i = 10 * o + j
  · have n1 : ¬ (10 * o + (j + 1) ≤ i ∧ i < 10 * o + 10) := by omega
    have n2 : 10 * o + j ≤ i ∧ i < 10 * o + 10 := by omega
    rw [if_neg n1, if_pos h1, if_pos n2, h1, show 10 * o + j - 10 * o = j by omega]
  · by_cases h2 : 10 * o + (j + 1) ≤ i ∧ i < 10 * o + 10
    · have n2 : 10 * o + j ≤ i ∧ i < 10 * o + 10 := by omega
      rw [if_pos h2, if_pos n2]
    · have n2 : ¬ (10 * o + j ≤ i ∧ i < 10 * o + 10) := by omega
      rw [if_neg h2, if_neg h1, if_neg n2]
theorem gy_cr (hC : gw_C D yow P L) (hy : gy_C D P L ypa yla) {post : SY → Prop} {o t : Nat} (ho : o < 32) (hv : gw_v D (o / 16) (some t)) : ∀ d j yva, j + d = 10 → post (ycu, ydp, ylm, yde, yve, ypa, yow, yla, ycl, ypr, ypi, yar, gw_cv P yow t yva o j, yfr, yma, ydo, yro) → wY_create_23 post (nI o) (nI (t % 6)) ycu ydp ylm (d + 1) (nI j) yde yve ypa yow yla ycl ypr ypi yar yva yfr yma ydo yro := by
  intro d
  obtain ⟨h1, h2, _⟩ := hv t rfl
  have et : 6 * (o / 16) + t % 6 = t := by omega
  induction d with
  | zero =>
    intro j yva hj hp
    have : j = 10 := by omega
    subst this
    rw [gw_cv_e] at hp
    exact br_t (nI_le (a := 10) (by omega) (by omega)) hp
  | succ d ih =>
    intro j yva hj hp
    have e := gw_e7 o j
    have hi : vp_in (10 * nI o + nI j) 320 := by rw [e]; exact vp_in_nI (by omega) (by omega)
    have e2 : (10 * nI o + nI j).toNatClampNeg = 10 * o + j := by rw [e, nI_clamp (by omega)]
    refine br_f (nI_ge (b := 10) (by omega) (by omega)) ⟨gw_16, ?_⟩
    rw [gw_q16 (by omega)]
    refine gy_kind hC hy (by omega) (by omega) (by omega) (by rw [et]; exact hv) ?_
    rw [et, ← gw_cv_s (by omega)] at *
    by_cases hk : gw_kd P yow t j = 4
    · rw [if_pos hk] at hp
      exact br_t hk ⟨hi, nm_r (by rw [e2]) (nm_r (nI_1 j) (ih (j + 1) _ (by omega) hp))⟩
    · rw [if_neg hk] at hp
      exact br_f hk ⟨hi, nm_r (by rw [e2]) (nm_r (nI_1 j) (ih (j + 1) _ (by omega) hp))⟩
theorem gy_create (hC : gw_C D yow P L) (hy : gy_C D P L ypa yla) {post : SY → Prop} {o t : Nat} (ho : o < 32) (hv : gw_v D (o / 16) (some t)) (hp : post (ycu, ydp, ylm, yde, yve, ypa, yow, yla, upd ycl o (nI (t % 6)), upd ypr o (-1), upd ypi o 0, yar, gw_cv P yow t yva o 0, yfr, yma, ydo, yro)) : wpY_create post (ycu, ydp, ylm, yde, yve, ypa, yow, yla, ycl, ypr, ypi, yar, yva, yfr, yma, ydo, yro) (nI o) (nI (t % 6)) := by
  have hi : vp_in (nI o) 32 := vp_in_nI ho (by omega)
  have e : (nI o).toNatClampNeg = o := nI_clamp (by omega)
  exact ⟨hi, nm_r (by rw [e]) ⟨hi, nm_r (by rw [e, gw_n0]) ⟨hi, nm_r (by rw [e]) ⟨11, gy_cr hC hy ho hv 10 0 _ (by omega) hp⟩⟩⟩⟩
theorem gy_em {post : SY → Prop} {s : Nat} (hs : s < 2) : ∀ d j ypr, j + d = 16 → post (ycu, ydp, ylm, yde, yve, ypa, yow, yla, ycl, gw_fi ypr (16 * s + j) (16 * s + 16) (-1), ypi, yar, yva, yfr, yma, ydo, yro) → wY_empty_5 post (nI s) ycu ydp ylm (d + 1) (nI (16 * s + j)) yde yve ypa yow yla ycl ypr ypi yar yva yfr yma ydo yro := by
  intro d
  have e16 := gw_e6b s
  induction d with
  | zero =>
    intro j ypr h1 hp
    rw [gw_fi_e (by omega)] at hp
    exact br_t (by rw [e16]; exact nI_le (by omega) (by omega)) hp
  | succ d ih =>
    intro j ypr h1 hp
    refine br_f (by rw [e16]; exact nI_ge (by omega) (by omega)) ⟨vp_in_nI (by omega) (by omega), nm_r (by rw [nI_clamp (by omega)]) (nm_r (nI_1 _) (ih (j + 1) _ (by omega) ?_))⟩
    rw [show 16 * s + (j + 1) = 16 * s + j + 1 from rfl, gw_fi_s (by omega)]
    exact hp
theorem gy_empty {post : SY → Prop} {s : Nat} (hs : s < 2) (hp : post (ycu, ydp, ylm, yde, yve, ypa, yow, yla, ycl, gw_fi ypr (16 * s) (16 * s + 16) (-1), ypi, yar, yva, yfr, yma, ydo, yro)) : wpY_empty post (ycu, ydp, ylm, yde, yve, ypa, yow, yla, ycl, ypr, ypi, yar, yva, yfr, yma, ydo, yro) (nI s) :=
  nm_r (gw_e6 s) ⟨17, gy_em hs 16 0 _ (by omega) hp⟩
end
end
