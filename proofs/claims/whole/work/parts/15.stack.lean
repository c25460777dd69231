/-! send: the frames, what a step keeps, undoing -/
section
def gx_ch (so nf rn : Nat → Int32) : Int32 → List (Nat × Nat × Nat) → Prop
  | x, [] => x = -1
  | x, f :: st => gx_top x so nf f.1 f.2.1 f.2.2 ∧ gx_ch so nf rn (rn (gw_d f.2.1)) st
def gy_ch (fr ma dn : Nat → Int32) : Nat → List (Nat × Nat × Nat) → Prop
  | n, [] => n = 0
  | n, f :: st => ∃ m, n = m + 1 ∧ gy_top fr ma dn m f.1 f.2.1 f.2.2 ∧ gy_ch fr ma dn m st
def gw_fv (D : Nat → Int32) (P : Nat → Option Nat) (V K : Nat → Int32) (C : Nat → Option Nat) (A : Nat → Bool) (s : Nat) (f : Nat × Nat × Nat) : Prop := f.1 < 32 ∧ f.1 / 16 = s ∧ f.2.1 < 32 ∧ f.2.1 / 16 = 1 - s ∧ f.2.2 ≤ 30 ∧ A f.2.1 = true ∧ ∃ t, C f.1 = some t ∧ C f.2.1 = some (6 * (1 - s) + t % 6) ∧ gw_mf D P V K t (6 * (1 - s) + t % 6) = 0
def gw_nd : List (Nat × Nat × Nat) → Prop
  | [] => True
  | f :: st => (∀ g, g ∈ st → g.2.1 ≠ f.2.1) ∧ gw_nd st
def gw_wa (P : Nat → Option Nat) (K : Nat → Int32) (C S T : Nat → Option Nat) (f : Nat × Nat × Nat) (q : Nat) : Prop := f.2.2 < 30 ∧ ∃ t e z, C f.1 = some t ∧ gw_an P (2 - f.2.2 / 10) (some t) = some e ∧ K (10 * e + f.2.2 % 10) = 4 ∧ T (10 * f.1 + f.2.2 % 10) = some z ∧ S z = some q
def gw_wt (P : Nat → Option Nat) (K : Nat → Int32) (C S T : Nat → Option Nat) : Nat → List (Nat × Nat × Nat) → Prop
  | _, [] => True
  | q, f :: st => gw_wa P K C S T f q ∧ gw_wt P K C S T f.2.1 st
def gw_bt : Nat → List (Nat × Nat × Nat) → Prop
  | _, [] => False
  | o, f :: st => (st = [] ∧ f.2.1 = o) ∨ gw_bt o st
def gw_fm : List (Nat × Nat × Nat) → Nat
  | [] => 0
  | f :: st => (31 - f.2.2) + gw_fm st
def gw_A (C S T : Nat → Option Nat) (A : Nat → Bool) (s : Nat) : Prop := (∀ o, o < 32 → A o = true → o / 16 = 1 - s ∧ S o = none) ∧ (∀ o n z, o < 32 → n < 10 → A o = false → C o ≠ none → T (10 * o + n) = some z → A z = false)
def gx_A (A : Nat → Bool) (a : Nat → Int32) : Prop := (∀ o, o < 32 → (a (gw_d o) = -1 ↔ A o = false)) ∧ ∀ i, 16 ≤ i → i < 32 → a i = -1
def gy_A (A : Nat → Bool) (a : Nat → Int32) : Prop := ∀ o, o < 32 → (a o = 0 ↔ A o = false)
def gw_fc (C : Nat → Option Nat) (s : Nat) : Nat := gw_cn (fun n => (C (16 * (1 - s) + n)).isNone) 16
/-- all that holds within a sending, the frames below the top being w -/
def gs_I (D : Nat → Int32) (P : Nat → Option Nat) (V K : Nat → Int32) (C S T : Nat → Option Nat) (F : Nat → Int64) (A : Nat → Bool) (s : Nat) (st : List (Nat × Nat × Nat)) : Prop :=
  gw_O D P K C S T F ∧ gw_A C S T A s ∧ (∀ f, f ∈ st → gw_fv D P V K C A s f) ∧ gw_nd st ∧ (∀ f w, st = f :: w → gw_wt P K C S T f.2.1 w) ∧ st.length + gw_fc C s ≤ 16
variable {D V K B : Nat → Int32} {P L C S T : Nat → Option Nat} {F : Nat → Int64} {A : Nat → Bool}
theorem gx_ch_k {so nf rn so' nf' rn' : Nat → Int32} : ∀ (st : List (Nat × Nat × Nat)) (x : Int32), (∀ f, f ∈ st → so' (gw_d f.2.1) = so (gw_d f.2.1) ∧ nf' (gw_d f.2.1) = nf (gw_d f.2.1) ∧ rn' (gw_d f.2.1) = rn (gw_d f.2.1)) → gx_ch so nf rn x st → gx_ch so' nf' rn' x st := by
  intro st
  induction st with
  | nil => intro x _ h; exact h
  | cons f st ih =>
    intro x hh h
    obtain ⟨⟨a, b, c⟩, d⟩ := h
    obtain ⟨h1, h2, h3⟩ := hh f (List.mem_cons_self ..)
    refine ⟨⟨a, h1.trans b, h2.trans c⟩, ?_⟩
    rw [h3]
    exact ih _ (fun g hg => hh g (List.mem_cons_of_mem _ hg)) d
theorem gy_ch_k {fr ma dn fr' ma' dn' : Nat → Int32} : ∀ (st : List (Nat × Nat × Nat)) (n : Nat), (∀ i, i < n → fr' i = fr i ∧ ma' i = ma i ∧ dn' i = dn i) → gy_ch fr ma dn n st → gy_ch fr' ma' dn' n st := by
  intro st
  induction st with
  | nil => intro n _ h; exact h
  | cons f st ih =>
    intro n hh h
    obtain ⟨m, rfl, ⟨a, b, c⟩, d⟩ := h
    obtain ⟨h1, h2, h3⟩ := hh m (by omega)
    exact ⟨m, rfl, ⟨h1.trans a, h2.trans b, h3.trans c⟩, ih m (fun i hi => hh i (by omega)) d⟩
theorem gy_ch_l {fr ma dn : Nat → Int32} : ∀ (st : List (Nat × Nat × Nat)) (n : Nat), gy_ch fr ma dn n st → n = st.length := by
  intro st
  induction st with
  | nil => intro n h; exact h
  | cons f st ih =>
    intro n h
    obtain ⟨m, rfl, _, d⟩ := h
    rw [ih m d]; rfl
theorem gw_wt_k {S' T' C' : Nat → Option Nat} : ∀ (st : List (Nat × Nat × Nat)) (q : Nat), (∀ f, f ∈ st → C' f.1 = C f.1 ∧ (∀ n, n < 10 → T' (10 * f.1 + n) = T (10 * f.1 + n)) ∧ ∀ n z q, n < 10 → T (10 * f.1 + n) = some z → S z = some q → S' z = some q) → gw_wt P K C S T q st → gw_wt P K C' S' T' q st := by
  intro st
  induction st with
  | nil => intro q _ h; exact h
  | cons f st ih =>
    intro q hh h
    obtain ⟨⟨a, t, e, z, b1, b2, b3, b4, b5⟩, c⟩ := h
    obtain ⟨h1, h2, h3⟩ := hh f (List.mem_cons_self ..)
    exact ⟨⟨a, t, e, z, h1.trans b1, b2, b3, (h2 _ (by omega)).trans b4, h3 _ z q (by omega) b4 b5⟩, ih _ (fun g hg => hh g (List.mem_cons_of_mem _ hg)) c⟩
/-! an object begun -/
theorem gw_O_S (h : gw_O D P K C S T F) {y o : Nat} (ho : o < 32) (hs : o / 16 ≠ y / 16) (cy : C y ≠ none) (co : C o ≠ none) : gw_O D P K C (gw_u S y (some o)) T F := by
  refine ⟨h.1, fun p q hp hq => ?_, h.2.2.1, h.2.2.2⟩
  by_cases e : p = y
  · rw [e, gw_us] at hq
    injection hq with hq
    subst hq
    rw [e]
    exact ⟨ho, hs, cy, co⟩
  · rw [gw_un e] at hq; exact h.2.1 p q hp hq
theorem gw_fc_u {s o r : Nat} (hs : s < 2) (h1 : 16 * (1 - s) ≤ o) (h2 : o < 16 * (1 - s) + 16) (hc : C o = none) : gw_fc (gw_u C o (some r)) s < gw_fc C s := by
  refine gw_cn_s (m := o - 16 * (1 - s)) ?_ ?_ 16 (by omega) (fun n hn h => ?_)
  · show ¬ (gw_u C o (some r) (16 * (1 - s) + (o - 16 * (1 - s)))).isNone = true
    rw [show 16 * (1 - s) + (o - 16 * (1 - s)) = o by omega, gw_us]
    simp
  · show (C (16 * (1 - s) + (o - 16 * (1 - s)))).isNone = true
    rw [show 16 * (1 - s) + (o - 16 * (1 - s)) = o by omega, hc]
    rfl
  · by_cases e : 16 * (1 - s) + n = o
    · rw [e, hc]
      rfl
    · rw [gw_un e] at h
      exact h
theorem gs_beg (hC : gw_C D K P L) {s y o t : Nat} {j : Int32} {st : List (Nat × Nat × Nat)} (I : gs_I D P V K C S T F A s st) (hs : s < 2) (hy : y < 32) (hys : y / 16 = s) (cy : C y = some t) (hb : gw_bar D P V K C s t = 0) (hf : gw_fr C (1 - s) = some o) (hw : ∀ f w, st = f :: w → ¬ j = 0 ∧ S y = none ∧ f.2.2 < 30 ∧ ∃ t e, C f.1 = some t ∧ gw_an P (2 - f.2.2 / 10) (some t) = some e ∧ K (10 * e + f.2.2 % 10) = 4 ∧ T (10 * f.1 + f.2.2 % 10) = some y) : gs_I D P V K (gw_u C o (some (6 * (1 - s) + t % 6))) (if j = 0 then gw_u S o none else gw_u (gw_u S o none) y (some o)) (gw_fg T (10 * o) (10 * o + 10) none) (gw_fg F (10 * o) (10 * o + 10) 0) (gw_u A o true) s ((y, o, 0) :: st) ∧ gw_fc (gw_u C o (some (6 * (1 - s) + t % 6))) s < gw_fc C s := by
  obtain ⟨hO, hA, hfv, hnd, hwt, hlen⟩ := I
  obtain ⟨f1, f2, f3⟩ := gw_fr_p hf
  have ho : o < 32 := by omega
  have hyo : y ≠ o := by omega
  have hmf : gw_mf D P V K t (6 * (1 - s) + t % 6) = 0 := by
    unfold gw_bar at hb
    by_cases hmf : gw_mf D P V K t (6 * (1 - s) + t % 6) = 0
    · exact hmf
    · rw [if_neg hmf] at hb; exact absurd hb hmf
  have hDr := (gw_mf_0 hmf).1
  have hvr : gw_v D (o / 16) (some (6 * (1 - s) + t % 6)) := gw_v_mk (by omega) (by omega) hDr
  have hO2 := gw_O_new hO ho f3 hvr
  have hlt := gw_fc_u (r := 6 * (1 - s) + t % 6) hs f1 f2 f3
  have kC : ∀ p, C p ≠ none → gw_u C o (some (6 * (1 - s) + t % 6)) p = C p := fun p hp => gw_un (fun z => hp (by rw [z]; exact f3))
  have cyn : C y ≠ none := by rw [cy]; simp
  -- the pairs kept
  have kS : ∀ z q, z / 16 = s → S z = some q → (∀ f w, st = f :: w → z ≠ y) → st ≠ [] → (if j = 0 then gw_u S o none else gw_u (gw_u S o none) y (some o)) z = some q := fun z q hz hq hzy hne => by
    cases st with
    | nil => exact absurd rfl hne
    | cons f w =>
      rw [if_neg (hw f w rfl).1, gw_un (hzy f w rfl), gw_un (by omega)]
      exact hq
  refine ⟨⟨?_, ⟨fun p hp hAp => ?_, fun p n z hp hn hAp hcp hz => ?_⟩, fun f hfm => ?_, ⟨fun g hg => ?_, hnd⟩, fun f w hfw => ?_, ?_⟩, hlt⟩
  · by_cases hj : j = 0
    · rw [if_pos hj]; exact hO2
    · rw [if_neg hj]
      refine gw_O_S hO2 ho (by omega) (by rw [kC y cyn]; exact cyn) (by rw [gw_us]; simp)
  · have hp2 : p / 16 = 1 - s := by
      by_cases e : p = o
      · omega
      · rw [gw_un e] at hAp; exact (hA.1 p hp hAp).1
    refine ⟨hp2, ?_⟩
    have hS2 : gw_u S o none p = none := by
      by_cases e : p = o
      · rw [e, gw_us]
      · rw [gw_un e] at hAp ⊢; exact (hA.1 p hp hAp).2
    by_cases hj : j = 0
    · rw [if_pos hj]; exact hS2
    · rw [if_neg hj, gw_un (by omega)]; exact hS2
  · have e : p ≠ o := fun e => by rw [e, gw_us] at hAp; exact absurd hAp (by decide)
    rw [gw_un e] at hAp hcp
    rw [gw_fg_o (by omega)] at hz
    have hz2 := hO.2.2.2 p n z hp hn hcp hz
    rw [gw_un (fun x => hz2.2.2 (by rw [x]; exact f3))]
    exact hA.2 p n z hp hn hAp hcp hz
  · rcases List.mem_cons.mp hfm with h | h
    · subst h
      refine ⟨hy, hys, ho, by dsimp only; omega, by dsimp only; omega, gw_us, t, ?_, gw_us, hmf⟩
      dsimp only
      rw [kC y cyn]; exact cy
    · obtain ⟨a1, a2, a3, a4, a5, a6, t', a7, a8, a9⟩ := hfv f h
      refine ⟨a1, a2, a3, a4, a5, ?_, t', ?_, ?_, a9⟩
      · by_cases e : f.2.1 = o
        · rw [e, gw_us]
        · rw [gw_un e]; exact a6
      · rw [kC _ (by rw [a7]; simp)]; exact a7
      · rw [kC _ (by rw [a8]; simp)]; exact a8
  · obtain ⟨a1, a2, a3, a4, a5, a6, t', a7, a8, a9⟩ := hfv g hg
    dsimp only
    intro e
    rw [e, f3] at a8
    exact absurd a8 (by simp)
  · injection hfw with e1 e2
    subst e1 e2
    -- everything below keeps its waiting
    have keep : ∀ w q, (∀ f, f ∈ w → f ∈ st) → st ≠ [] → gw_wt P K C S T q w → gw_wt P K (gw_u C o (some (6 * (1 - s) + t % 6))) (if j = 0 then gw_u S o none else gw_u (gw_u S o none) y (some o)) (gw_fg T (10 * o) (10 * o + 10) none) q w := fun w q hsub hne h => by
      refine gw_wt_k w q (fun f hf => ?_) h
      obtain ⟨a1, a2, a3, a4, a5, a6, t', a7, a8, a9⟩ := hfv f (hsub f hf)
      refine ⟨kC _ (by rw [a7]; simp), fun n hn => gw_fg_o (by omega), fun n z q' hn hz hq => ?_⟩
      have hz2 := hO.2.2.2 f.1 n z a1 hn (by rw [a7]; simp) hz
      refine kS z q' (by omega) hq (fun f' w' hst e => ?_) hne
      rw [e, (hw f' w' hst).2.1] at hq
      exact absurd hq (by simp)
    cases st with
    | nil => trivial
    | cons g w =>
      obtain ⟨b1, b2, b3, t', e, b4, b5, b6, b7⟩ := hw g w rfl
      have hg := hfv g (List.mem_cons_self ..)
      refine ⟨⟨b3, t', e, y, ?_, b5, b6, ?_, ?_⟩, keep w _ (fun f hf => List.mem_cons_of_mem _ hf) (by simp) (hwt g w rfl)⟩
      · rw [kC _ (by rw [b4]; simp)]; exact b4
      · have := hg.1
        have := hg.2.1
        rw [gw_fg_o (by omega)]; exact b7
      · dsimp only
        rw [if_neg b1, gw_us]
  · show st.length + 1 + _ ≤ 16
    omega
/-! a place done -/
theorem gs_skip {s y o d : Nat} {w : List (Nat × Nat × Nat)} (I : gs_I D P V K C S T F A s ((y, o, d) :: w)) (hd : d < 30) : gs_I D P V K C S T F A s ((y, o, d + 1) :: w) := by
  obtain ⟨hO, hA, hfv, hnd, hwt, hlen⟩ := I
  refine ⟨hO, hA, fun f hf => ?_, hnd, fun f w' h => ?_, hlen⟩
  · rcases List.mem_cons.mp hf with h | h
    · subst h
      obtain ⟨a1, a2, a3, a4, a5, a6, a7⟩ := hfv (y, o, d) (List.mem_cons_self ..)
      exact ⟨a1, a2, a3, a4, by dsimp only; omega, a6, a7⟩
    · exact hfv f (List.mem_cons_of_mem _ h)
  · injection h with h1 h2
    subst h1 h2
    exact hwt (y, o, d) w rfl
theorem gw_O_cp (h : gw_O D P K C S T F) {o n r : Nat} {x : Option Nat} {v : Int64} (hn : n < 10) (co : C o = some r) (h1 : gw_kd P K r n ≠ 4 → x = none) (h2 : gw_kd P K r n = 4 → v = 0) (h3 : ∀ z, x = some z → z < 32 ∧ z / 16 = o / 16 ∧ C z ≠ none) : gw_O D P K C S (gw_u T (10 * o + n) x) (gw_u F (10 * o + n) v) := by
  refine ⟨h.1, h.2.1, fun p m t hp hm ht => ?_, fun p m z hp hm hc hz => ?_⟩
  · by_cases e : 10 * p + m = 10 * o + n
    · have e1 : p = o := by omega
      have e2 : m = n := by omega
      subst e1 e2
      rw [co] at ht
      cases ht
      rw [gw_us, gw_us]
      exact ⟨h1, h2⟩
    · rw [gw_un e, gw_un e]; exact h.2.2.1 p m t hp hm ht
  · by_cases e : 10 * p + m = 10 * o + n
    · have e1 : p = o := by omega
      rw [e, gw_us] at hz
      rw [e1]
      exact h3 z hz
    · rw [gw_un e] at hz; exact h.2.2.2 p m z hp hm hc hz
theorem gy_v_cp {a : Nat → Int64} (h : gy_v P K C T F a) {o n r : Nat} {x : Option Nat} {v w : Int64} (hn : n < 10) (co : C o = some r) (hw : w = if gw_kd P K r n = 4 then (gw_o x).toInt64 else v) : gy_v P K C (gw_u T (10 * o + n) x) (gw_u F (10 * o + n) v) (vp_updL a (10 * o + n) w) := fun p m t hp hm ht => by
  by_cases e : 10 * p + m = 10 * o + n
  · have e1 : p = o := by omega
    have e2 : m = n := by omega
    subst e1 e2
    rw [co] at ht
    cases ht
    rw [gw_us, gw_us, pk_uLs, hw]
  · rw [gw_un e, gw_un e, pk_uLn e]; exact h p m t hp hm ht
theorem gs_cp {s y o d n : Nat} {w : List (Nat × Nat × Nat)} {x : Option Nat} {v : Int64} (I : gs_I D P V K C S T F A s ((y, o, d) :: w)) (hn : n < 10) (hO2 : gw_O D P K C S (gw_u T (10 * o + n) x) (gw_u F (10 * o + n) v)) : gs_I D P V K C S (gw_u T (10 * o + n) x) (gw_u F (10 * o + n) v) A s ((y, o, d) :: w) := by
  obtain ⟨hO, hA, hfv, hnd, hwt, hlen⟩ := I
  obtain ⟨a1, a2, a3, a4, a5, a6, a7⟩ := hfv (y, o, d) (List.mem_cons_self ..)
  dsimp only at a1 a2 a3 a4 a5 a6
  refine ⟨hO2, ⟨hA.1, fun p m z hp hm hAp hcp hz => ?_⟩, hfv, hnd, fun f w' h => ?_, hlen⟩
  · have e : p ≠ o := fun e => by rw [e, a6] at hAp; exact absurd hAp (by decide)
    rw [gw_un (by omega)] at hz
    exact hA.2 p m z hp hm hAp hcp hz
  · refine gw_wt_k w' _ (fun g hg => ?_) (hwt f w' h)
    injection h with h1 h2
    subst h2
    obtain ⟨b1, b2, b3, _⟩ := hfv g (List.mem_cons_of_mem _ hg)
    exact ⟨rfl, fun m hm => gw_un (by omega), fun m z q hm hz hq => hq⟩
theorem gs_pop {s : Nat} {f : Nat × Nat × Nat} {w : List (Nat × Nat × Nat)} (I : gs_I D P V K C S T F A s (f :: w)) : gs_I D P V K C S T F A s w := by
  obtain ⟨hO, hA, hfv, hnd, hwt, hlen⟩ := I
  refine ⟨hO, hA, fun g hg => hfv g (List.mem_cons_of_mem _ hg), hnd.2, fun g w' h => ?_, ?_⟩
  · subst h
    exact (hwt f _ rfl).2
  · have : (f :: w).length = w.length + 1 := rfl
    omega
/-! undoing -/
def gw_ua (C : Nat → Option Nat) (A : Nat → Bool) : Nat → Option Nat := fun o => if A o = true then none else C o
theorem gw_O_ua (hO : gw_O D P K C S T F) {s : Nat} (hA : gw_A C S T A s) (hs : s < 2) : gw_O D P K (gw_ua C A) (gw_fg S (16 * s) (16 * s + 16) none) T F := by
  have le : ∀ o t, gw_ua C A o = some t → C o = some t := fun o t h => by
    unfold gw_ua at h
    by_cases c : A o = true
    · rw [if_pos c] at h; exact absurd h (by simp)
    · rw [if_neg c] at h; exact h
  have nA : ∀ o, gw_ua C A o ≠ none → A o = false ∧ C o ≠ none := fun o h => by
    unfold gw_ua at h
    by_cases c : A o = true
    · rw [if_pos c] at h; exact absurd rfl h
    · rw [if_neg c] at h
      exact ⟨by cases hh : A o; rfl; exact absurd hh c, h⟩
  have kp : ∀ o, A o = false → C o ≠ none → gw_ua C A o ≠ none := fun o h c => by
    unfold gw_ua
    rw [if_neg (by rw [h]; decide)]
    exact c
  have fa : ∀ o, ¬ A o = true → A o = false := fun o h => by cases hh : A o; rfl; exact absurd hh h
  refine ⟨fun o ho t h => hO.1 o ho t (le o t h), fun o q ho hq => ?_, fun o n t ho hn h => hO.2.2.1 o n t ho hn (le o t h), fun o n z ho hn hc hz => ?_⟩
  · by_cases e : 16 * s ≤ o ∧ o < 16 * s + 16
    · rw [gw_fg_i e] at hq; exact absurd hq (by simp)
    · rw [gw_fg_o e] at hq
      obtain ⟨a, b, c, d⟩ := hO.2.1 o q ho hq
      refine ⟨a, b, kp o (fa o (fun z => ?_)) c, kp q (fa q (fun z => ?_)) d⟩
      · rw [(hA.1 o ho z).2] at hq; exact absurd hq (by simp)
      · have := (hA.1 q a z).1
        omega
  · obtain ⟨a, b⟩ := nA o hc
    obtain ⟨z1, z2, z3⟩ := hO.2.2.2 o n z ho hn b hz
    exact ⟨z1, z2, kp z (hA.2 o n z ho hn a b hz) z3⟩
theorem gy_v_ua {a : Nat → Int64} (h : gy_v P K C T F a) : gy_v P K (gw_ua C A) T F a := fun o n t ho hn hc => by
  refine h o n t ho hn ?_
  unfold gw_ua at hc
  by_cases c : A o = true
  · rw [if_pos c] at hc; exact absurd hc (by simp)
  · rw [if_neg c] at hc; exact hc
section
variable {xcu xar xrc xlc : Int32} {xde xpt xve xok xlt xty xpi : Nat → Int32} {xnu : Nat → Int64} {xtg xse xso xnf xrn xre xrl xrd xll xlr : Nat → Int32}
theorem gx_un2 (hA : gx_A A xso) {post : SX → Prop} {s : Nat} (hs : s < 2) (hp : ∀ xty, gx_t (gw_ua C A) xty → post (xcu, xar, xrc, xlc, xde, xpt, xve, xok, xlt, xty, xpi, xnu, xtg, gw_fi xse (32 * s) (32 * s + 16) (-1), xso, xnf, xrn, xre, xrl, xrd, xll, xlr)) : ∀ d j xty, j + d = 48 → gx_t (fun o => if A o = true ∧ gw_d o < j then none else C o) xty → wX_undoSending_2 post (nI s) xcu xar xrc xlc (d + 1) (nI j) xde xpt xve xok xlt xty xpi xnu xtg xse xso xnf xrn xre xrl xrd xll xlr := by
  intro d
  induction d with
  | zero =>
    intro j xty hj ht
    refine br_t (nI_le (a := 48) (by omega) (by omega)) (gx_empty hs (hp xty ⟨fun o ho => ?_, ht.2⟩))
    rw [ht.1 o ho]
    have := gw_dlt ho
    show gw_o (if A o = true ∧ gw_d o < j then none else C o) = gw_o (if A o = true then none else C o)
    by_cases c : A o = true
    · rw [if_pos c, if_pos ⟨c, by omega⟩]
    · rw [if_neg c, if_neg (fun z => c z.1)]
  | succ d ih =>
    intro j xty hj ht
    have ij : vp_in (nI j) 48 := vp_in_nI (by omega) (by omega)
    have ej : (nI j).toNatClampNeg = j := nI_clamp (by omega)
    refine br_f (nI_ge (b := 48) (by omega) (by omega)) ⟨ij, ?_⟩
    rw [ej]
    by_cases hm : 16 ≤ j ∧ j < 32
    · refine br_t (hA.2 j hm.1 hm.2) (nm_r (nI_1 j) (ih (j + 1) xty (by omega) ⟨fun o ho => ?_, ht.2⟩))
      rw [ht.1 o ho]
      show gw_o (if A o = true ∧ gw_d o < j then none else C o) = gw_o (if A o = true ∧ gw_d o < j + 1 then none else C o)
      have e : (gw_d o < j ↔ gw_d o < j + 1) := by unfold gw_d; omega
      by_cases c : A o = true ∧ gw_d o < j
      · rw [if_pos c, if_pos ⟨c.1, e.mp c.2⟩]
      · rw [if_neg c, if_neg (fun z => c ⟨z.1, e.mpr z.2⟩)]
    · have ed : gw_d (j - j / 32 * 16) = j := by unfold gw_d; omega
      have ho : j - j / 32 * 16 < 32 := by omega
      have hAo := hA.1 _ ho
      rw [ed] at hAo
      refine ek_if hAo (fun h => nm_r (nI_1 j) (ih (j + 1) xty (by omega) ⟨fun o ho2 => ?_, ht.2⟩)) (fun h => ⟨ij, nm_e (nm_r (nI_1 j) (ih (j + 1) _ (by omega) ⟨fun o ho2 => ?_, fun i i1 i2 => ?_⟩))⟩)
      · rw [ht.1 o ho2]
        show gw_o (if A o = true ∧ gw_d o < j then none else C o) = gw_o (if A o = true ∧ gw_d o < j + 1 then none else C o)
        by_cases c : A o = true ∧ gw_d o < j
        · rw [if_pos c, if_pos ⟨c.1, by omega⟩]
        · rw [if_neg c, if_neg (fun z => ?_)]
          by_cases e : gw_d o = j
          · have := gw_dinj (e.trans ed.symm)
            rw [this, h] at z
            exact absurd z.1 (by decide)
          · exact c ⟨z.1, by omega⟩
      · by_cases e : gw_d o = j
        · have e2 := gw_dinj (e.trans ed.symm)
          have hAt : A o = true := by rw [e2]; cases hh : A (j - j / 32 * 16); exact absurd hh h; rfl
          show _ = gw_o (if A o = true ∧ gw_d o < j + 1 then none else C o)
          rw [e, pk_us, if_pos ⟨hAt, by omega⟩]
          rfl
        · rw [pk_un e, ht.1 o ho2]
          show gw_o (if A o = true ∧ gw_d o < j then none else C o) = gw_o (if A o = true ∧ gw_d o < j + 1 then none else C o)
          by_cases c : A o = true ∧ gw_d o < j
          · rw [if_pos c, if_pos ⟨c.1, by omega⟩]
          · rw [if_neg c, if_neg (fun z => c ⟨z.1, by omega⟩)]
      · rw [pk_un (by omega)]; exact ht.2 i i1 i2
theorem gx_undo (hA : gx_A A xso) (ht : gx_t C xty) {post : SX → Prop} {s : Nat} (hs : s < 2) (hp : ∀ xty, gx_t (gw_ua C A) xty → post (xcu, xar, xrc, xlc, xde, xpt, xve, xok, xlt, xty, xpi, xnu, xtg, gw_fi xse (32 * s) (32 * s + 16) (-1), xso, xnf, xrn, xre, xrl, xrd, xll, xlr)) : wpX_undoSending post (xcu, xar, xrc, xlc, xde, xpt, xve, xok, xlt, xty, xpi, xnu, xtg, xse, xso, xnf, xrn, xre, xrl, xrd, xll, xlr) (nI s) :=
  ⟨49, gx_un2 (C := C) hA hs hp 48 0 xty (by omega) ⟨fun o ho => by rw [ht.1 o ho]; show _ = gw_o (if A o = true ∧ gw_d o < 0 then none else C o); rw [if_neg (fun z => by omega)], ht.2⟩⟩
theorem gx_start {post : SX → Prop} (hp : post (xcu, -1, xrc, xlc, xde, xpt, xve, xok, xlt, xty, xpi, xnu, xtg, xse, gw_fi xso 0 48 (-1), xnf, xrn, xre, xrl, xrd, xll, xlr)) : wpX_startSending post (xcu, xar, xrc, xlc, xde, xpt, xve, xok, xlt, xty, xpi, xnu, xtg, xse, xso, xnf, xrn, xre, xrl, xrd, xll, xlr) := by
  have go : ∀ d j xar xso, j + d = 48 → post (xcu, xar, xrc, xlc, xde, xpt, xve, xok, xlt, xty, xpi, xnu, xtg, xse, gw_fi xso j 48 (-1), xnf, xrn, xre, xrl, xrd, xll, xlr) → wX_startSending_7 post xcu xar xrc xlc (d + 1) (nI j) xde xpt xve xok xlt xty xpi xnu xtg xse xso xnf xrn xre xrl xrd xll xlr := by
    intro d
    induction d with
    | zero =>
      intro j xar xso h1 hp
      rw [gw_fi_e (by omega)] at hp
      exact br_t (nI_le (a := 48) (by omega) (by omega)) hp
    | succ d ih =>
      intro j xar xso h1 hp
      refine br_f (nI_ge (b := 48) (by omega) (by omega)) ⟨vp_in_nI (by omega) (by omega), nm_r (by rw [nI_clamp (by omega)]) (nm_r (nI_1 j) (ih (j + 1) _ _ (by omega) ?_))⟩
      rw [gw_fi_s (by omega)]
      exact hp
  exact ⟨49, go 48 0 (-1) xso (by omega) hp⟩
end
section
variable {ycu ydp ylm : Int32} {yde yve ypa yow yla ycl ypr ypi yar : Nat → Int32} {yva : Nat → Int64} {yfr yma ydo yro : Nat → Int32}
theorem gy_un2 (hA : gy_A A yar) {post : SY → Prop} {s : Nat} (hs : s < 2) (hp : ∀ ycl, gy_t (gw_ua C A) ycl → post (ycu, ydp, ylm, yde, yve, ypa, yow, yla, ycl, gw_fi ypr (16 * s) (16 * s + 16) (-1), ypi, yar, yva, yfr, yma, ydo, yro)) : ∀ d j ycl, j + d = 32 → gy_t (fun o => if A o = true ∧ o < j then none else C o) ycl → wY_undo_2 post (nI s) ycu ydp ylm (d + 1) (nI j) yde yve ypa yow yla ycl ypr ypi yar yva yfr yma ydo yro := by
  intro d
  induction d with
  | zero =>
    intro j ycl hj ht
    refine br_t (nI_le (a := 32) (by omega) (by omega)) (gy_empty hs (hp ycl (fun o ho => ?_)))
    rw [ht o ho]
    show gw_c (if A o = true ∧ o < j then none else C o) = gw_c (if A o = true then none else C o)
    by_cases c : A o = true
    · rw [if_pos c, if_pos ⟨c, by omega⟩]
    · rw [if_neg c, if_neg (fun z => c z.1)]
  | succ d ih =>
    intro j ycl hj ht
    have ij : vp_in (nI j) 32 := vp_in_nI (by omega) (by omega)
    have ej : (nI j).toNatClampNeg = j := nI_clamp (by omega)
    refine br_f (nI_ge (b := 32) (by omega) (by omega)) ⟨ij, ?_⟩
    rw [ej]
    refine ek_if (hA j (by omega)) (fun h => nm_r (nI_1 j) (ih (j + 1) ycl (by omega) (fun o ho => ?_))) (fun h => ⟨ij, nm_e (nm_r (nI_1 j) (ih (j + 1) _ (by omega) (fun o ho => ?_)))⟩)
    · rw [ht o ho]
      show gw_c (if A o = true ∧ o < j then none else C o) = gw_c (if A o = true ∧ o < j + 1 then none else C o)
      by_cases c : A o = true ∧ o < j
      · rw [if_pos c, if_pos ⟨c.1, by omega⟩]
      · rw [if_neg c, if_neg (fun z => ?_)]
        by_cases e : o = j
        · rw [e, h] at z; exact absurd z.1 (by decide)
        · exact c ⟨z.1, by omega⟩
    · by_cases e : o = j
      · have hAt : A o = true := by rw [e]; cases hh : A j; exact absurd hh h; rfl
        show _ = gw_c (if A o = true ∧ o < j + 1 then none else C o)
        rw [if_pos ⟨hAt, by omega⟩, e, pk_us]
        rfl
      · rw [pk_un e, ht o ho]
        show gw_c (if A o = true ∧ o < j then none else C o) = gw_c (if A o = true ∧ o < j + 1 then none else C o)
        by_cases c : A o = true ∧ o < j
        · rw [if_pos c, if_pos ⟨c.1, by omega⟩]
        · rw [if_neg c, if_neg (fun z => c ⟨z.1, by omega⟩)]
theorem gy_undo (hA : gy_A A yar) (ht : gy_t C ycl) {post : SY → Prop} {s : Nat} (hs : s < 2) (hp : ∀ ycl, gy_t (gw_ua C A) ycl → post (ycu, ydp, ylm, yde, yve, ypa, yow, yla, ycl, gw_fi ypr (16 * s) (16 * s + 16) (-1), ypi, yar, yva, yfr, yma, ydo, yro)) : wpY_undo post (ycu, ydp, ylm, yde, yve, ypa, yow, yla, ycl, ypr, ypi, yar, yva, yfr, yma, ydo, yro) (nI s) :=
  ⟨33, gy_un2 (C := C) hA hs hp 32 0 ycl (by omega) (fun o ho => by rw [ht o ho]; show _ = gw_c (if A o = true ∧ o < 0 then none else C o); rw [if_neg (fun z => by omega)])⟩
theorem gy_s50 {post : Int32 → SY → Prop} {x2 x3 : Int32} : ∀ d j yar, j + d = 32 → wpY_begin (fun r_23 u => match u with | (ycu24, ydp24, ylm24, yde24, yve24, ypa24, yow24, yla24, ycl24, ypr24, ypi24, yar24, yva24, yfr24, yma24, ydo24, yro24) => (∃ n84 : Nat, wY_send_84 post x2 x3 n84 r_23 ycu24 ydp24 ylm24 yde24 yve24 ypa24 yow24 yla24 ycl24 ypr24 ypi24 yar24 yva24 yfr24 yma24 ydo24 yro24)) (ycu, 0, ylm, yde, yve, ypa, yow, yla, ycl, ypr, ypi, gw_fi yar j 32 0, yva, yfr, yma, ydo, yro) x3 x2 → wY_send_50 post x2 x3 ycu ydp ylm (d + 1) (nI j) yde yve ypa yow yla ycl ypr ypi yar yva yfr yma ydo yro := by
  intro d
  induction d with
  | zero =>
    intro j yar h1 hp
    rw [gw_fi_e (by omega)] at hp
    exact br_t (nI_le (a := 32) (by omega) (by omega)) hp
  | succ d ih =>
    intro j yar h1 hp
    refine br_f (nI_ge (b := 32) (by omega) (by omega)) ⟨vp_in_nI (by omega) (by omega), nm_r (by rw [nI_clamp (by omega), gw_n0]) (nm_r (nI_1 j) (ih (j + 1) _ (by omega) ?_))⟩
    rw [gw_fi_s (by omega)]
    exact hp
end
end
