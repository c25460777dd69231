/-! collect: counting, what is reached; the component -/
section
def gw_cn (p : Nat → Bool) : Nat → Nat
  | 0 => 0
  | k + 1 => gw_cn p k + (if p k = true then 1 else 0)
theorem gw_cn_le {p : Nat → Bool} : ∀ k, gw_cn p k ≤ k := by
  intro k
  induction k with
  | zero => exact Nat.le_refl _
  | succ k ih => show gw_cn p k + _ ≤ _; by_cases h : p k = true
                 · rw [if_pos h]; omega
                 · rw [if_neg h]; omega
theorem gw_cn_lt {p : Nat → Bool} {n : Nat} (hn : ¬ p n = true) : ∀ k, n < k → gw_cn p k < k := by
  intro k
  induction k with
  | zero => intro h; omega
  | succ k ih =>
    intro h
    show gw_cn p k + _ < _
    have := gw_cn_le (p := p) k
    by_cases e : n = k
    · subst e; rw [if_neg hn]; omega
    · have := ih (by omega)
      by_cases h : p k = true
      · rw [if_pos h]; omega
      · rw [if_neg h]; omega
theorem gw_cn_u {p : Nat → Bool} {n : Nat} (hn : ¬ p n = true) : ∀ k, gw_cn (gw_u p n true) k = gw_cn p k + (if n < k then 1 else 0) := by
  intro k
  induction k with
  | zero => rfl
  | succ k ih =>
    show gw_cn (gw_u p n true) k + _ = gw_cn p k + _ + _
    rw [ih]
    by_cases e : k = n
    · subst e
      rw [gw_us, if_neg hn, if_pos rfl, if_neg (show ¬ k < k by omega), if_pos (show k < k + 1 by omega)]
    · rw [gw_un e]
      by_cases h : n < k
      · rw [if_pos h, if_pos (show n < k + 1 by omega)]; omega
      · rw [if_neg h, if_neg (show ¬ n < k + 1 by omega)]; omega
theorem gw_cn_m {p q : Nat → Bool} : ∀ k, (∀ n, n < k → p n = true → q n = true) → gw_cn p k ≤ gw_cn q k := by
  intro k
  induction k with
  | zero => intro _; exact Nat.le_refl _
  | succ k ih =>
    intro h
    show gw_cn p k + _ ≤ gw_cn q k + _
    have := ih (fun n hn => h n (by omega))
    by_cases e : p k = true
    · rw [if_pos e, if_pos (h k (by omega) e)]; omega
    · rw [if_neg e]; omega
theorem gw_cn_s {p q : Nat → Bool} {m : Nat} (hp : ¬ p m = true) (hq : q m = true) : ∀ k, m < k → (∀ n, n < k → p n = true → q n = true) → gw_cn p k < gw_cn q k := by
  intro k
  induction k with
  | zero => intro h; omega
  | succ k ih =>
    intro hm h
    show gw_cn p k + _ < gw_cn q k + _
    have h2 := gw_cn_m k (fun n hn => h n (by omega))
    by_cases e : m = k
    · subst e; rw [if_neg hp, if_pos hq]; omega
    · have := ih (by omega) (fun n hn => h n (by omega))
      by_cases e : p k = true
      · rw [if_pos e, if_pos (h k (by omega) e)]; omega
      · rw [if_neg e]; omega
def gw_rt (C S : Nat → Option Nat) (B : Nat → Int32) (s n : Nat) : Prop := C (16 * s + n) ≠ none ∧ (B (16 * s + n) ≠ 0 ∨ S (16 * s + n) ≠ none ∨ ∃ q, q < 32 ∧ S q = some (16 * s + n))
def gw_eg (T : Nat → Option Nat) (s n m : Nat) : Prop := ∃ a, a < 10 ∧ T (10 * (16 * s + n) + a) = some (16 * s + m)
def gw_R (C S T : Nat → Option Nat) (B : Nat → Int32) (s n : Nat) : Prop := ∀ Q : Nat → Prop, (∀ a, a < 16 → gw_rt C S B s a → Q a) → (∀ a b, a < 16 → b < 16 → Q a → gw_eg T s a b → Q b) → Q n
variable {D V K B : Nat → Int32} {P L C S T : Nat → Option Nat} {F : Nat → Int64} {cu : Option Nat}
theorem gw_R_l (hO : gw_O D P K C S T F) {s n : Nat} (hs : s < 2) (h : gw_R C S T B s n) : n < 16 ∧ C (16 * s + n) ≠ none := by
  refine h (fun a => a < 16 ∧ C (16 * s + a) ≠ none) (fun a ha hr => ⟨ha, hr.1⟩) (fun a b ha hb hq he => ⟨hb, ?_⟩)
  obtain ⟨c, hc, he⟩ := he
  exact (hO.2.2.2 _ c _ (by omega) hc hq.2 he).2.2
theorem gw_R_r {s n : Nat} (hn : n < 16) (h : gw_rt C S B s n) : gw_R C S T B s n := fun _ h1 _ => h1 n hn h
theorem gw_R_e {s n m : Nat} (hn : n < 16) (hm : m < 16) (h : gw_R C S T B s n) (he : gw_eg T s n m) : gw_R C S T B s m := fun Q h1 h2 => h2 n m hn hm (h Q h1 h2) he
/-- the marks, and the list of the marked -/
def gx_RI (s : Nat) (M : Nat → Bool) (xrc : Int32) (xre xrl : Nat → Int32) : Prop :=
  xrc = nI (gw_cn M 16) ∧ (∀ n, n < 16 → xre (32 * s + n) = if M n = true then 1 else 0) ∧
  (∀ i, i < gw_cn M 16 → ∃ n, n < 16 ∧ M n = true ∧ xrl i = nI (32 * s + n)) ∧
  (∀ n, n < 16 → M n = true → ∃ i, i < gw_cn M 16 ∧ xrl i = nI (32 * s + n))
section
variable {xcu xar xrc xlc : Int32} {xde xpt xve xok xlt xty xpi : Nat → Int32} {xnu : Nat → Int64} {xtg xse xso xnf xrn xre xrl xrd xll xlr : Nat → Int32}
theorem gx_reach {post : SX → Prop} {s n : Nat} {M : Nat → Bool} (hs : s < 2) (hn : n < 16) (hR : gx_RI s M xrc xre xrl) (hp : ∀ xrc' xre' xrl', gx_RI s (gw_u M n true) xrc' xre' xrl' → (∀ i, i < gw_cn M 16 → xrl' i = xrl i) → post (xcu, xar, xrc', xlc, xde, xpt, xve, xok, xlt, xty, xpi, xnu, xtg, xse, xso, xnf, xrn, xre', xrl', xrd, xll, xlr)) : wpX_reach post (xcu, xar, xrc, xlc, xde, xpt, xve, xok, xlt, xty, xpi, xnu, xtg, xse, xso, xnf, xrn, xre, xrl, xrd, xll, xlr) (nI (32 * s + n)) := by
  obtain ⟨r1, r2, r3, r4⟩ := hR
  have hi : vp_in (nI (32 * s + n)) 48 := vp_in_nI (by omega) (by omega)
  have e : (nI (32 * s + n)).toNatClampNeg = 32 * s + n := nI_clamp (by omega)
  have hle := gw_cn_le (p := M) 16
  by_cases hm : M n = true
  · refine ⟨hi, br_f (by rw [e, r2 n hn, if_pos hm]; decide) (hp _ _ _ ?_ (fun i _ => rfl))⟩
    have : gw_u M n true = M := funext fun j => by
      by_cases h : j = n
      · rw [h, gw_us, hm]
      · rw [gw_un h]
    rw [this]
    exact ⟨r1, r2, r3, r4⟩
  · have hlt := gw_cn_lt hm 16 hn
    have hc := gw_cn_u hm 16
    rw [if_pos hn] at hc
    subst r1
    refine ⟨hi, br_t (by rw [e, r2 n hn, if_neg hm]) ⟨hi, nm_e ⟨vp_in_nI hlt (by omega), nm_e (nm_e (hp _ _ _ ⟨?_, ?_, ?_, ?_⟩ ?_))⟩⟩⟩
    · rw [nI_1, hc]
    · intro j hj
      rw [e, gw_n1]
      by_cases h : j = n
      · rw [h, pk_us, gw_us, if_pos rfl]
      · rw [pk_un (by omega), gw_un h]; exact r2 j hj
    · intro i h1
      rw [nI_clamp (by omega)]
      by_cases h : i = gw_cn M 16
      · exact ⟨n, hn, gw_us, by rw [h, pk_us]⟩
      · obtain ⟨j, j1, j2, j3⟩ := r3 i (by omega)
        refine ⟨j, j1, ?_, by rw [pk_un h]; exact j3⟩
        by_cases h2 : j = n
        · rw [h2, gw_us]
        · rw [gw_un h2]; exact j2
    · intro j hj hj2
      rw [nI_clamp (by omega)]
      by_cases h : j = n
      · exact ⟨gw_cn M 16, by omega, by rw [pk_us, h]⟩
      · rw [gw_un h] at hj2
        obtain ⟨i, i1, i2⟩ := r4 j hj hj2
        exact ⟨i, by omega, by rw [pk_un (by omega)]; exact i2⟩
    · intro i h1
      rw [nI_clamp (by omega)]
      exact pk_un (by omega)
theorem gx_rtg (hO : gw_O D P K C S T F) (hg : gx_g T xtg) {post : SX → Prop} {s n : Nat} (hs : s < 2) (hn : n < 16) (hl : C (16 * s + n) ≠ none) : ∀ d j M xrc xre xrl, j + d = 10 → gx_RI s M xrc xre xrl → (∀ M' xrc' xre' xrl', gx_RI s M' xrc' xre' xrl' → (∀ i, i < 16 → M i = true → M' i = true) → (∀ i, i < gw_cn M 16 → xrl' i = xrl i) → (∀ m a, m < 16 → j ≤ a → a < 10 → T (10 * (16 * s + n) + a) = some (16 * s + m) → M' m = true) → (∀ m, m < 16 → M' m = true → M m = true ∨ gw_eg T s n m) → post (xcu, xar, xrc', xlc, xde, xpt, xve, xok, xlt, xty, xpi, xnu, xtg, xse, xso, xnf, xrn, xre', xrl', xrd, xll, xlr)) → wX_reachTargets_2 post (nI (32 * s + n)) (d + 1) (nI j) xcu xar xrc xlc xde xpt xve xok xlt xty xpi xnu xtg xse xso xnf xrn xre xrl xrd xll xlr := by
  intro d
  induction d with
  | zero =>
    intro j M xrc xre xrl hj hR hp
    exact br_t (nI_le (a := 10) (by omega) (by omega)) (hp M _ _ _ hR (fun _ _ h => h) (fun _ _ => rfl) (fun _ a _ h1 h2 => by omega) (fun _ _ h => Or.inl h))
  | succ d ih =>
    intro j M xrc xre xrl hj hR hp
    have e := gw_e3 (32 * s + n) j
    refine br_f (nI_ge (b := 10) (by omega) (by omega)) ⟨by rw [e]; exact vp_in_nI (by omega) (by omega), nm_r (e' := gw_g (T (10 * (16 * s + n) + j))) ?_ ?_⟩
    · rw [e, nI_clamp (by omega), ← gw_d1 hn]
      exact hg _ j (by omega) (by omega)
    · cases hT : T (10 * (16 * s + n) + j) with
      | none =>
        refine br_t rfl (nm_r (nI_1 j) (ih (j + 1) M _ _ _ (by omega) hR (fun M' a b c h1 h2 h3 h4 h5 => hp M' a b c h1 h2 h3 (fun m x hm hx1 hx2 hx3 => ?_) h5)))
        by_cases ex : x = j
        · rw [ex, hT] at hx3; exact absurd hx3 (by simp)
        · exact h4 m x hm (by omega) hx2 hx3
      | some z =>
        obtain ⟨z1, z2, z3⟩ := hO.2.2.2 _ j z (by omega) (by omega) hl hT
        have ez : gw_g (some z) = nI (32 * s + z % 16) := congrArg nI (by unfold gw_d; omega)
        have ez2 : z = 16 * s + z % 16 := by omega
        rw [ez]
        refine br_f (gw_nm (by omega)) (gx_reach hs (by omega) hR (fun rc re rl hR2 hpre => nm_r (nI_1 j) (ih (j + 1) _ _ _ _ (by omega) hR2 (fun M' a b c h1 h2 h3 h4 h5 => hp M' a b c h1 ?_ ?_ ?_ ?_))))
        · intro i hi hM
          refine h2 i hi ?_
          by_cases ei : i = z % 16
          · rw [ei, gw_us]
          · rw [gw_un ei]; exact hM
        · intro i hi
          have hle : gw_cn M 16 ≤ gw_cn (gw_u M (z % 16) true) 16 := gw_cn_m 16 (fun i _ hM => by
            by_cases ei : i = z % 16
            · rw [ei, gw_us]
            · rw [gw_un ei]; exact hM)
          rw [h3 i (by omega)]
          exact hpre i hi
        · intro m x hm hx1 hx2 hx3
          by_cases ex : x = j
          · rw [ex, hT] at hx3
            injection hx3 with hx3
            have : m = z % 16 := by omega
            rw [this]
            exact h2 _ (by omega) gw_us
          · exact h4 m x hm (by omega) hx2 hx3
        · intro m hm hM
          rcases h5 m hm hM with h | h
          · by_cases ei : m = z % 16
            · exact Or.inr ⟨j, by omega, by rw [hT, ei, ← ez2]⟩
            · rw [gw_un ei] at h; exact Or.inl h
          · exact Or.inr h
theorem gx_rr75 (hO : gw_O D P K C S T F) (hS : gx_s S xse) {post : SX → Prop} {J : Int32 → Int32 → Int32 → Int32 → Int32 → (Nat → Int32) → (Nat → Int32) → (Nat → Int32) → (Nat → Int32) → (Nat → Int32) → (Nat → Int32) → (Nat → Int32) → (Nat → Int64) → (Nat → Int32) → (Nat → Int32) → (Nat → Int32) → (Nat → Int32) → (Nat → Int32) → (Nat → Int32) → (Nat → Int32) → (Nat → Int32) → (Nat → Int32) → (Nat → Int32) → Prop} {s j : Nat} {M : Nat → Bool} (hs : s < 2) (hj : j < 16) (hR : gx_RI s M xrc xre xrl) (hM : ∀ n, n < 16 → M n = true → gw_R C S T B s n) (hp : ∀ M' xrc' xre' xrl', gx_RI s M' xrc' xre' xrl' → (∀ n, n < 16 → M' n = true → gw_R C S T B s n) → (∀ i, i < 16 → M i = true → M' i = true) → (∀ m, m < 16 → S (16 * (1 - s) + j) = some (16 * s + m) → M' m = true) → J (nI (j + 1)) xcu xar (xrc') xlc xde xpt xve xok xlt xty xpi xnu xtg xse xso xnf xrn (xre') (xrl') xrd xll xlr) : wX_reachRoots_75 post J (nI s) (nI j) xcu xar xrc xlc xde xpt xve xok xlt xty xpi xnu xtg xse xso xnf xrn xre xrl xrd xll xlr := by
  have e : (1 - nI s) * 32 + nI j = nI (32 * (1 - s) + j) := by rw [gw_s1 (by omega), gw_e5]
  refine ⟨by rw [e]; exact vp_in_nI (by omega) (by omega), nm_r (e' := gw_g (S (16 * (1 - s) + j))) ?_ ?_⟩
  · rw [e, nI_clamp (by omega), ← gw_d1 hj]
    exact hS _ (by omega)
  · cases hq : S (16 * (1 - s) + j) with
    | none => exact br_t rfl (nm_r (nI_1 j) (hp M _ _ _ hR hM (fun _ _ h => h) (fun m _ h => by rw [hq] at h; exact absurd h (by simp))))
    | some z =>
      obtain ⟨z1, z2, z3, z4⟩ := hO.2.1 _ z (by omega) hq
      have ez : gw_g (some z) = nI (32 * s + z % 16) := congrArg nI (by unfold gw_d; omega)
      have ez2 : z = 16 * s + z % 16 := by omega
      rw [ez]
      refine br_f (gw_nm (by omega)) (gx_reach hs (by omega) hR (fun rc re rl hR2 _ => nm_r (nI_1 j) (hp _ _ _ _ hR2 ?_ ?_ ?_)))
      · intro n hn hn2
        by_cases en : n = z % 16
        · refine gw_R_r hn ⟨?_, Or.inr (Or.inr ⟨16 * (1 - s) + j, by omega, ?_⟩)⟩
          · rw [en, ← ez2]; exact z4
          · rw [en, hq, ← ez2]
        · rw [gw_un en] at hn2; exact hM n hn hn2
      · intro i _ h
        by_cases en : i = z % 16
        · rw [en, gw_us]
        · rw [gw_un en]; exact h
      · intro m hm h
        rw [hq] at h
        injection h with h
        have : m = z % 16 := by omega
        rw [this, gw_us]
theorem gx_rr (hO : gw_O D P K C S T F) (ht : gx_t C xty) (hb : gx_b B xpi) (hS : gx_s S xse) {post : SX → Prop} {s : Nat} (hs : s < 2) (hp : ∀ M xrc xre xrl, gx_RI s M xrc xre xrl → (∀ n, n < 16 → M n = true → gw_R C S T B s n) → (∀ n, n < 16 → gw_rt C S B s n → M n = true) → post (xcu, xar, xrc, xlc, xde, xpt, xve, xok, xlt, xty, xpi, xnu, xtg, xse, xso, xnf, xrn, xre, xrl, xrd, xll, xlr)) : ∀ d j M xrc xre xrl, j + d = 16 → gx_RI s M xrc xre xrl → (∀ n, n < 16 → M n = true → gw_R C S T B s n) → (∀ n, n < j → C (16 * s + n) ≠ none → (B (16 * s + n) ≠ 0 ∨ S (16 * s + n) ≠ none) → M n = true) → (∀ n m, n < j → m < 16 → S (16 * (1 - s) + n) = some (16 * s + m) → M m = true) → wX_reachRoots_28 post (nI s) (d + 1) (nI j) xcu xar xrc xlc xde xpt xve xok xlt xty xpi xnu xtg xse xso xnf xrn xre xrl xrd xll xlr := by
  intro d
  induction d with
  | zero =>
    intro j M xrc xre xrl hj hR hM h1 h2
    refine br_t (nI_le (a := 16) (by omega) (by omega)) (hp M _ _ _ hR hM (fun n hn hr => ?_))
    obtain ⟨a, b⟩ := hr
    rcases b with b | b | ⟨q, q1, q2⟩
    · exact h1 n (by omega) a (Or.inl b)
    · exact h1 n (by omega) a (Or.inr b)
    · obtain ⟨_, z2, _, _⟩ := hO.2.1 q _ q1 q2
      refine h2 (q % 16) n (by omega) hn ?_
      rw [show 16 * (1 - s) + q % 16 = q by omega]
      exact q2
  | succ d ih =>
    intro j M xrc xre xrl hj hR hM h1 h2
    have e := gw_e5 s j
    have hi : vp_in (nI (32 * s + j)) 48 := vp_in_nI (by omega) (by omega)
    have ed : gw_d (16 * s + j) = 32 * s + j := gw_d1 (by omega)
    have e1 : (nI (32 * s + j)).toNatClampNeg = gw_d (16 * s + j) := by rw [nI_clamp (by omega), ed]
    -- what comes behind, from marks that hold this one if it is a root
    have go : ∀ M2 rc re rl, gx_RI s M2 rc re rl → (∀ n, n < 16 → M2 n = true → gw_R C S T B s n) → (∀ i, i < 16 → M i = true → M2 i = true) → (C (16 * s + j) ≠ none → (B (16 * s + j) ≠ 0 ∨ S (16 * s + j) ≠ none) → M2 j = true) → wX_reachRoots_75 post (wX_reachRoots_28 post (nI s) (d + 1)) (nI s) (nI j) xcu xar rc xlc xde xpt xve xok xlt xty xpi xnu xtg xse xso xnf xrn re rl xrd xll xlr := by
      intro M2 rc re rl a b c g
      refine gx_rr75 hO hS hs (by omega) a b (fun M3 rc3 re3 rl3 a3 b3 c3 g3 => ih (j + 1) M3 _ _ _ (by omega) a3 b3 (fun n hn x y => ?_) (fun n m hn hm x => ?_))
      · by_cases en : n = j
        · rw [en] at x y ⊢; exact c3 j (by omega) (g x y)
        · exact c3 n (by omega) (c n (by omega) (h1 n (by omega) x y))
      · by_cases en : n = j
        · rw [en] at x; exact g3 m hm x
        · exact c3 m hm (c m hm (h2 n m (by omega) hm x))
    have go70 : C (16 * s + j) ≠ none → (B (16 * s + j) ≠ 0 ∨ S (16 * s + j) ≠ none) → wX_reachRoots_70 post (wX_reachRoots_28 post (nI s) (d + 1)) (nI s) (nI j) (nI (32 * s + j)) xcu xar xrc xlc xde xpt xve xok xlt xty xpi xnu xtg xse xso xnf xrn xre xrl xrd xll xlr := fun hc hr => by
      refine gx_reach hs (by omega) hR (fun rc re rl a _ => go _ _ _ _ a ?_ ?_ (fun _ _ => gw_us))
      · intro n hn x
        by_cases en : n = j
        · rw [en]; exact gw_R_r (by omega) ⟨hc, by rcases hr with y | y; exact Or.inl y; exact Or.inr (Or.inl y)⟩
        · rw [gw_un en] at x; exact hM n hn x
      · intro i _ x
        by_cases en : i = j
        · rw [en, gw_us]
        · rw [gw_un en]; exact x
    refine br_f (nI_ge (b := 16) (by omega) (by omega)) (nm_r e ⟨hi, ?_⟩)
    rw [e1, ht.1 _ (by omega), hb _ (by omega), hS _ (by omega)]
    cases hc : C (16 * s + j) with
    | none => exact br_t rfl (go M _ _ _ hR hM (fun _ _ x => x) (fun x => absurd hc x))
    | some t =>
      have h12 := (hO.1 _ (by omega) t hc).1
      have hcn : C (16 * s + j) ≠ none := by rw [hc]; simp
      refine br_f (gw_nm (by omega)) ⟨hi, br_c (fun hb0 => ⟨hi, ?_⟩) (fun hb0 => go70 hcn (Or.inl hb0))⟩
      cases hq : S (16 * s + j) with
      | none => exact br_t rfl (go M _ _ _ hR hM (fun _ _ x => x) (fun _ y => (y.elim (fun z => z hb0) (fun z => z hq)).elim))
      | some z =>
        have := (hO.2.1 _ z (by omega) hq).1
        have hd := gw_dlt this
        exact br_f (gw_nm (by omega)) (go70 hcn (Or.inr (by rw [hq]; simp)))
theorem gx_rr7 {post : SX → Prop} {s : Nat} : ∀ d j xre, j + d = 48 → (∃ n28, wX_reachRoots_28 post (nI s) n28 0 xcu xar xrc xlc xde xpt xve xok xlt xty xpi xnu xtg xse xso xnf xrn (gw_fi xre j 48 0) xrl xrd xll xlr) → wX_reachRoots_7 post (nI s) xcu xar xrc xlc (d + 1) (nI j) xde xpt xve xok xlt xty xpi xnu xtg xse xso xnf xrn xre xrl xrd xll xlr := by
  intro d
  induction d with
  | zero =>
    intro j xre h1 hp
    rw [gw_fi_e (by omega)] at hp
    exact br_t (nI_le (a := 48) (by omega) (by omega)) hp
  | succ d ih =>
    intro j xre h1 hp
    refine br_f (nI_ge (b := 48) (by omega) (by omega)) ⟨vp_in_nI (by omega) (by omega), nm_r (by rw [nI_clamp (by omega), gw_n0]) (nm_r (nI_1 j) (ih (j + 1) _ (by omega) ?_))⟩
    rw [gw_fi_s (by omega)]
    exact hp
/-! dropping -/
def gw_dr (C : Nat → Option Nat) (Z : Nat → Bool) (s j : Nat) : Nat → Option Nat := fun o => if o / 16 = s ∧ o % 16 < j ∧ Z (o % 16) = false then none else C o
def gw_dc (C : Nat → Option Nat) (Z : Nat → Bool) (s : Nat) : Nat → Nat
  | 0 => 0
  | j + 1 => gw_dc C Z s j + (if C (16 * s + j) ≠ none ∧ Z j = false then 1 else 0)
theorem gw_dr_s {Z : Nat → Bool} {s j : Nat} (h : C (16 * s + j) = none ∨ Z j = true) (hj : j < 16) : gw_dr C Z s (j + 1) = gw_dr C Z s j := funext fun o => by
  unfold gw_dr
  by_cases e : o = 16 * s + j
  · subst e
    have e1 : (16 * s + j) % 16 = j := by omega
    rw [e1]
    rcases h with h | h
    · rw [h]
      rw [if_neg (show ¬ (_ ∧ j < j ∧ _) by omega)]
      by_cases hz : (16 * s + j) / 16 = s ∧ j < j + 1 ∧ Z j = false
      · rw [if_pos hz]
      · rw [if_neg hz]
    · have n1 : ¬ ((16 * s + j) / 16 = s ∧ j < j + 1 ∧ Z j = false) := fun z => by rw [h] at z; exact absurd z.2.2 (by decide)
      have n2 : ¬ ((16 * s + j) / 16 = s ∧ j < j ∧ Z j = false) := fun z => by omega
      rw [if_neg n1, if_neg n2]
  · by_cases hz : o / 16 = s ∧ o % 16 < j ∧ Z (o % 16) = false
    · rw [if_pos hz, if_pos ⟨hz.1, by omega, hz.2.2⟩]
    · rw [if_neg hz, if_neg (fun z => hz ⟨z.1, by omega, z.2.2⟩)]
theorem gw_dr_u {Z : Nat → Bool} {s j : Nat} (h : Z j = false) (hj : j < 16) : gw_dr C Z s (j + 1) = gw_u (gw_dr C Z s j) (16 * s + j) none := funext fun o => by
  unfold gw_dr gw_u
  by_cases e : o = 16 * s + j
  · subst e
    have e1 : (16 * s + j) % 16 = j := by omega
    rw [e1, if_pos rfl, if_pos ⟨by omega, by omega, h⟩]
  · rw [if_neg e]
    show _ = (if o / 16 = s ∧ o % 16 < j ∧ Z (o % 16) = false then none else C o)
    by_cases hz : o / 16 = s ∧ o % 16 < j ∧ Z (o % 16) = false
    · rw [if_pos hz, if_pos ⟨hz.1, by omega, hz.2.2⟩]
    · rw [if_neg hz, if_neg (fun z => hz ⟨z.1, by omega, z.2.2⟩)]
theorem gw_dr_n {Z : Nat → Bool} {s j : Nat} (hj : j < 16) : gw_dr C Z s j (16 * s + j) = C (16 * s + j) := if_neg (fun z => by omega)
theorem gw_dr_0 {Z : Nat → Bool} {s : Nat} : gw_dr C Z s 0 = C := funext fun o => if_neg (fun z => by omega)
theorem gw_dc_le {Z : Nat → Bool} {s : Nat} : ∀ j, gw_dc C Z s j ≤ j := by
  intro j
  induction j with
  | zero => exact Nat.le_refl _
  | succ j ih =>
    show gw_dc C Z s j + _ ≤ _
    by_cases h : C (16 * s + j) ≠ none ∧ Z j = false
    · rw [if_pos h]; omega
    · rw [if_neg h]; omega
theorem gx_dru (hv : ∀ o, o < 32 → gw_v D (o / 16) (C o)) {post : Int32 → SX → Prop} {s : Nat} {Z : Nat → Bool} (hs : s < 2) (hZ : ∀ n, n < 16 → xre (32 * s + n) = if Z n = true then 1 else 0) (hp : ∀ xty, gx_t (gw_dr C Z s 16) xty → post (nI (gw_dc C Z s 16)) (xcu, xar, xrc, xlc, xde, xpt, xve, xok, xlt, xty, xpi, xnu, xtg, xse, xso, xnf, xrn, xre, xrl, xrd, xll, xlr)) : ∀ d j xty, j + d = 16 → gx_t (gw_dr C Z s j) xty → wX_dropUnreached_4 post (nI s) xcu xar xrc xlc (d + 1) (nI (gw_dc C Z s j)) (nI j) xde xpt xve xok xlt xty xpi xnu xtg xse xso xnf xrn xre xrl xrd xll xlr := by
  intro d
  induction d with
  | zero =>
    intro j xty hj ht
    have : j = 16 := by omega
    subst this
    exact br_t (nI_le (a := 16) (by omega) (by omega)) (hp _ ht)
  | succ d ih =>
    intro j xty hj ht
    have e := gw_e5 s j
    have hi : vp_in (nI (32 * s + j)) 48 := vp_in_nI (by omega) (by omega)
    have ed : gw_d (16 * s + j) = 32 * s + j := gw_d1 (by omega)
    have e1 : (nI (32 * s + j)).toNatClampNeg = 32 * s + j := nI_clamp (by omega)
    have et := ht.1 (16 * s + j) (by omega)
    rw [ed, gw_dr_n (by omega)] at et
    have hc : gw_dc C Z s (j + 1) = gw_dc C Z s j + (if C (16 * s + j) ≠ none ∧ Z j = false then 1 else 0) := rfl
    refine br_f (nI_ge (b := 16) (by omega) (by omega)) (nm_r e ⟨hi, ?_⟩)
    rw [e1, et, hZ j (by omega)]
    cases hC : C (16 * s + j) with
    | none =>
      rw [if_neg (fun z => z.1 hC)] at hc
      have := ih (j + 1) xty (by omega) (by rw [gw_dr_s (Or.inl hC) (by omega)]; exact ht)
      rw [hc] at this
      exact br_t rfl (nm_r (nI_1 j) this)
    | some t =>
      have h12 := (hv _ (by omega) t hC).1
      by_cases hz : Z j = true
      · rw [if_neg (fun z => by rw [hz] at z; exact absurd z.2 (by decide))] at hc
        have := ih (j + 1) xty (by omega) (by rw [gw_dr_s (Or.inr hz) (by omega)]; exact ht)
        rw [hc] at this
        exact br_f (gw_nm (by omega)) ⟨hi, br_f (by rw [if_pos hz]; decide) (nm_r (nI_1 j) this)⟩
      · have hz' : Z j = false := by cases h : Z j; rfl; exact absurd h hz
        rw [if_pos ⟨by rw [hC]; simp, hz'⟩] at hc
        have := ih (j + 1) (upd xty (32 * s + j) (-1)) (by omega) (by rw [gw_dr_u hz' (by omega), ← ed]; exact gx_t_u ht (by omega) none)
        rw [hc] at this
        exact br_f (gw_nm (by omega)) ⟨hi, br_t (by rw [if_neg hz]) ⟨hi, nm_e (nm_r (nI_1 _) (nm_r (nI_1 j) this))⟩⟩
theorem gx_c17 (hO : gw_O D P K C S T F) (ht : gx_t C xty) (hg : gx_g T xtg) {post : Int32 → SX → Prop} {s : Nat} {Z : Nat → Bool} (hs : s < 2) (hZ : ∀ n, n < 16 → (Z n = true ↔ gw_R C S T B s n)) (hp : ∀ xrc xre xrl xty, gx_t (gw_dr C Z s 16) xty → post (nI (gw_dc C Z s 16)) (xcu, xar, xrc, xlc, xde, xpt, xve, xok, xlt, xty, xpi, xnu, xtg, xse, xso, xnf, xrn, xre, xrl, xrd, xll, xlr)) : ∀ d i M xrc xre xrl, i + d = 16 → gx_RI s M xrc xre xrl → (∀ n, n < 16 → M n = true → gw_R C S T B s n) → (∀ n, n < 16 → gw_rt C S B s n → M n = true) → (∀ a n m, a < i → a < gw_cn M 16 → n < 16 → m < 16 → xrl a = nI (32 * s + n) → gw_eg T s n m → M m = true) → wX_collect_17 post (nI s) (d + 1) (nI i) xcu xar xrc xlc xde xpt xve xok xlt xty xpi xnu xtg xse xso xnf xrn xre xrl xrd xll xlr := by
  -- the end, from marks that are closed
  have fin : ∀ M xrc xre xrl, gx_RI s M xrc xre xrl → (∀ n, n < 16 → M n = true → gw_R C S T B s n) → (∀ n, n < 16 → gw_rt C S B s n → M n = true) → (∀ n m, n < 16 → m < 16 → M n = true → gw_eg T s n m → M m = true) → wX_collect_47 post (nI s) xcu xar xrc xlc xde xpt xve xok xlt xty xpi xnu xtg xse xso xnf xrn xre xrl xrd xll xlr := by
    intro M xrc xre xrl hR hM hr hcl
    refine ⟨17, gx_dru (C := C) (Z := Z) (post := fun r u => match u with | (xcu1, xar1, xrc1, xlc1, xde1, xpt1, xve1, xok1, xlt1, xty1, xpi1, xnu1, xtg1, xse1, xso1, xnf1, xrn1, xre1, xrl1, xrd1, xll1, xlr1) => post r (xcu1, xar1, xrc1, xlc1, xde1, xpt1, xve1, xok1, xlt1, xty1, xpi1, xnu1, xtg1, xse1, xso1, xnf1, xrn1, xre1, xrl1, xrd1, xll1, xlr1)) hO.1 hs ?_ (fun xty' h => hp _ _ _ _ h) 16 0 xty (by omega) (by rw [gw_dr_0]; exact ht)⟩
    intro n hn
    rw [hR.2.1 n hn]
    by_cases h : M n = true
    · rw [if_pos h, if_pos ((hZ n hn).mpr (hM n hn h))]
    · rw [if_neg h, if_neg (fun z => h ?_)]
      have h2 := ((hZ n hn).mp z) (fun a => a < 16 ∧ M a = true) (fun a ha x => ⟨ha, hr a ha x⟩) (fun a b ha hb x y => ⟨hb, hcl a b ha hb x.2 y⟩)
      exact h2.2
  intro d
  induction d with
  | zero =>
    intro i M xrc xre xrl hi hR hM hr hcl
    have hle := gw_cn_le (p := M) 16
    refine br_t (nI_le (a := 16) (by omega) (by omega)) (fin M _ _ _ hR hM hr (fun n m hn hm x y => ?_))
    obtain ⟨a, a1, a2⟩ := hR.2.2.2 n hn x
    exact hcl a n m (by omega) a1 hn hm a2 y
  | succ d ih =>
    intro i M xrc xre xrl hi hR hM hr hcl
    have hle := gw_cn_le (p := M) 16
    refine br_f (nI_ge (b := 16) (by omega) (by omega)) (pk_le (gw_cn M 16) i (fun h => fin M _ _ _ hR hM hr (fun n m hn hm x y => ?_)) (fun h => ⟨vp_in_nI (by omega) (by omega), ?_⟩) (hx := hR.1))
    · obtain ⟨a, a1, a2⟩ := hR.2.2.2 n hn x
      exact hcl a n m (by omega) a1 hn hm a2 y
    · obtain ⟨n, n1, n2, n3⟩ := hR.2.2.1 i h
      rw [nI_clamp (by omega), n3]
      have hRn := hM n n1 n2
      refine ⟨11, gx_rtg hO hg hs n1 (gw_R_l hO hs hRn).2 10 0 M _ _ _ (by omega) hR (fun M' rc re rl h1 h2 h3 h4 h5 => nm_r (nI_1 i) (ih (i + 1) M' _ _ _ (by omega) h1 (fun m hm x => ?_) (fun m hm x => h2 m hm (hr m hm x)) (fun a b m ha hac hb hm x y => ?_)))⟩
      · rcases h5 m hm x with x | x
        · exact hM m hm x
        · exact gw_R_e n1 hm hRn x
      · by_cases ea : a = i
        · subst ea
          rw [h3 a h, n3, nI_eq (by omega) (by omega)] at x
          have : b = n := by omega
          subst this
          obtain ⟨c, c1, c2⟩ := y
          exact h4 m c hm (by omega) c1 c2
        · have hai : a < i := by omega
          rw [h3 a (by omega)] at x
          exact h2 m hm (hcl a b m hai (by omega) hb hm x y)
end
end
