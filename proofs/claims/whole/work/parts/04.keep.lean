/-! what stores keep -/
section
variable {D V K B : Nat → Int32} {P L C S T : Nat → Option Nat} {F : Nat → Int64} {cu : Option Nat}
theorem gw_O_f (h : gw_O D P K C S T F) {o n t : Nat} (hn : n < 10) (hC : C o = some t) (hk : gw_kd P K t n ≠ 4) (x : Int64) : gw_O D P K C S T (gw_u F (10 * o + n) x) := by
  refine ⟨h.1, h.2.1, fun p m r hp hm hr => ⟨(h.2.2.1 p m r hp hm hr).1, fun hk2 => ?_⟩, h.2.2.2⟩
  by_cases e : 10 * p + m = 10 * o + n
  · have e1 : p = o := by omega
    have e2 : m = n := by omega
    subst e1 e2
    rw [hC] at hr
    cases hr
    exact absurd hk2 hk
  · rw [gw_un e]; exact (h.2.2.1 p m r hp hm hr).2 hk2
theorem gw_O_g (h : gw_O D P K C S T F) {o n t : Nat} (hn : n < 10) (hC : C o = some t) (hk : gw_kd P K t n = 4) (x : Option Nat) (hx : ∀ z, x = some z → z < 32 ∧ z / 16 = o / 16 ∧ C z ≠ none) : gw_O D P K C S (gw_u T (10 * o + n) x) F := by
  refine ⟨h.1, h.2.1, fun p m r hp hm hr => ⟨fun hk2 => ?_, (h.2.2.1 p m r hp hm hr).2⟩, fun p m z hp hm hc hz => ?_⟩
  · by_cases e : 10 * p + m = 10 * o + n
    · have e1 : p = o := by omega
      have e2 : m = n := by omega
      subst e1 e2
      rw [hC] at hr
      cases hr
      exact absurd hk hk2
    · rw [gw_un e]; exact (h.2.2.1 p m r hp hm hr).1 hk2
  · by_cases e : 10 * p + m = 10 * o + n
    · have e1 : p = o := by omega
      rw [e, gw_us] at hz
      rw [e1]
      exact hx z hz
    · rw [gw_un e] at hz; exact h.2.2.2 p m z hp hm hc hz
theorem gw_O_s (h : gw_O D P K C S T F) (lo hi : Nat) : gw_O D P K C (gw_fg S lo hi none) T F := by
  refine ⟨h.1, fun o q ho hq => ?_, h.2.2.1, h.2.2.2⟩
  by_cases e : lo ≤ o ∧ o < hi
  · rw [gw_fg_i e] at hq; exact absurd hq (by simp)
  · rw [gw_fg_o e] at hq; exact h.2.1 o q ho hq
theorem gx_s_z {a : Nat → Int32} (h : gx_s S a) {s : Nat} (hs : s < 2) : gx_s (gw_fg S (16 * s) (16 * s + 16) none) (gw_fi a (32 * s) (32 * s + 16) (-1)) := fun p hp => by
  by_cases e : 16 * s ≤ p ∧ p < 16 * s + 16
  · rw [gw_fg_i e, gw_fi_i (by unfold gw_d; omega)]; rfl
  · rw [gw_fg_o e, gw_fi_o (by unfold gw_d; omega)]; exact h p hp
theorem gy_s_z {a : Nat → Int32} (h : gy_s S a) {s : Nat} : gy_s (gw_fg S (16 * s) (16 * s + 16) none) (gw_fi a (16 * s) (16 * s + 16) (-1)) := fun p hp => by
  by_cases e : 16 * s ≤ p ∧ p < 16 * s + 16
  · rw [gw_fg_i e, gw_fi_i e]; rfl
  · rw [gw_fg_o e, gw_fi_o e]; exact h p hp
/-- a new object -/
theorem gw_O_new (h : gw_O D P K C S T F) {o t : Nat} (ho : o < 32) (hf : C o = none) (hv : gw_v D (o / 16) (some t)) : gw_O D P K (gw_u C o (some t)) (gw_u S o none) (gw_fg T (10 * o) (10 * o + 10) none) (gw_fg F (10 * o) (10 * o + 10) 0) := by
  have nn : ∀ q, C q ≠ none → gw_u C o (some t) q ≠ none := fun q hq => by
    by_cases e : q = o
    · rw [e, gw_us]; simp
    · rw [gw_un e]; exact hq
  refine ⟨fun p hp => ?_, fun p q hp hq => ?_, fun p m r hp hm hr => ?_, fun p m z hp hm hc hz => ?_⟩
  · by_cases e : p = o
    · rw [e, gw_us]; exact hv
    · rw [gw_un e]; exact h.1 p hp
  · by_cases e : p = o
    · rw [e, gw_us] at hq; exact absurd hq (by simp)
    · rw [gw_un e] at hq
      obtain ⟨a, b, c, d⟩ := h.2.1 p q hp hq
      exact ⟨a, b, nn p c, nn q d⟩
  · by_cases e : p = o
    · exact ⟨fun _ => gw_fg_i (by omega), fun _ => gw_fg_i (by omega)⟩
    · rw [gw_fg_o (by omega), gw_fg_o (by omega)]
      rw [gw_un e] at hr
      exact h.2.2.1 p m r hp hm hr
  · by_cases e : p = o
    · rw [gw_fg_i (by omega)] at hz; exact absurd hz (by simp)
    · rw [gw_fg_o (by omega)] at hz
      rw [gw_un e] at hc
      obtain ⟨a, b, c⟩ := h.2.2.2 p m z hp hm hc hz
      exact ⟨a, b, nn z c⟩
theorem gy_v_new {a : Nat → Int64} (h : gy_v P K C T F a) {o t : Nat} : gy_v P K (gw_u C o (some t)) (gw_fg T (10 * o) (10 * o + 10) none) (gw_fg F (10 * o) (10 * o + 10) 0) (gw_cv P K t a o 0) := fun p m r hp hm hr => by
  by_cases e : p = o
  · subst e
    rw [gw_us] at hr
    cases hr
    rw [gw_fg_i (by omega), gw_fg_i (by omega)]
    unfold gw_cv
    have n1 : 10 * p + 0 ≤ 10 * p + m ∧ 10 * p + m < 10 * p + 10 := by omega
    rw [if_pos n1, show 10 * p + m - 10 * p = m by omega]
    rfl
  · rw [gw_un e] at hr
    rw [gw_fg_o (by omega), gw_fg_o (by omega)]
    unfold gw_cv
    have n1 : ¬ (10 * o + 0 ≤ 10 * p + m ∧ 10 * p + m < 10 * o + 10) := by omega
    rw [if_neg n1]
    exact h p m r hp hm hr
/-! a type defined -/
theorem gw_an_u (hC : gw_C D K P L) {t s : Nat} {x : Option Nat} (h0 : D t = 0) : ∀ k o, gw_v D s o → gw_an (gw_u P t x) k o = gw_an P k o := by
  intro k
  induction k with
  | zero => intro o _; rfl
  | succ k ih =>
    intro o ho
    show (gw_an (gw_u P t x) k o).bind (gw_u P t x) = (gw_an P k o).bind P
    rw [ih o ho]
    have := gw_v_an hC k o ho
    cases e : gw_an P k o with
    | none => rfl
    | some a =>
      rw [e] at this
      have h1 := (this a rfl).2.2
      show gw_u P t x a = P a
      exact gw_un (fun z => h1 (by rw [z]; exact h0))
theorem gw_kf_d (hC : gw_C D K P L) {t s n : Nat} {x : Option Nat} (h0 : D t = 0) : ∀ k o, gw_v D s o → gw_kf (gw_u P t x) K n k o = gw_kf P K n k o := by
  intro k
  induction k with
  | zero => intro o _; rfl
  | succ k ih =>
    intro o ho
    cases o with
    | none => rfl
    | some a =>
      have h1 := (ho a rfl).2.2
      show (if K (10 * a + n) = -1 then gw_kf (gw_u P t x) K n k (gw_u P t x a) else K (10 * a + n)) = (if K (10 * a + n) = -1 then gw_kf P K n k (P a) else K (10 * a + n))
      rw [gw_un (fun z => h1 (by rw [z]; exact h0)), ih _ (gw_v_P hC ho)]
theorem gw_kd_d (hC : gw_C D K P L) {t s n e : Nat} {x : Option Nat} (h0 : D t = 0) (h : gw_v D s (some e)) : gw_kd (gw_u P t x) K e n = gw_kd P K e n := gw_kf_d hC h0 3 _ h
theorem gw_v_u {s t : Nat} {o : Option Nat} (h : gw_v D s o) : gw_v (upd D t 1) s o := fun a ha => by
  obtain ⟨h1, h2, h3⟩ := h a ha
  refine ⟨h1, h2, ?_⟩
  by_cases e : a = t
  · rw [e, pk_us]; decide
  · rw [pk_un e]; exact h3
theorem gw_C_def (hC : gw_C D K P L) {s t : Nat} {x : Option Nat} (hs : s < 2) (ht : t < 12) (hts : t / 6 = s) (h0 : D t = 0) (hx : gw_v D s x) : gw_C (upd D t 1) K (gw_u P t x) (gw_u L s (some t)) := by
  have hD : ∀ a, upd D t 1 a ≠ 0 → a ≠ t → D a ≠ 0 := fun a h e => by rw [pk_un e] at h; exact h
  have hK0 := hC.2.2.1 t ht h0
  refine ⟨fun a ha hd p hp => ?_, hC.2.1, fun a ha hd n hn => ?_, fun a ha hd e n hi hn hk => ?_, fun s' a hs' ha => ?_, hC.2.2.2.2.2⟩
  · by_cases e : a = t
    · rw [e, gw_us] at hp
      obtain ⟨h1, h2, h3⟩ := hx p hp
      have hpt : p ≠ t := fun z => h3 (by rw [z]; exact h0)
      refine ⟨h1, by omega, by rw [pk_un hpt]; exact h3, ?_⟩
      rw [e, hts, gw_us]
      intro z
      injection z with z
      exact hpt z.symm
    · rw [gw_un e] at hp
      have hda := hD a hd e
      obtain ⟨h1, h2, h3, h4⟩ := hC.1 a ha hda p hp
      have hpt : p ≠ t := fun z => h3 (by rw [z]; exact h0)
      refine ⟨h1, h2, by rw [pk_un hpt]; exact h3, ?_⟩
      by_cases e2 : a / 6 = s
      · rw [e2, gw_us]
        intro z
        injection z with z
        exact hpt z.symm
      · rw [gw_un e2]; exact h4
  · by_cases e : a = t
    · rw [e, pk_us] at hd; exact absurd hd (by decide)
    · rw [pk_un e] at hd; exact hC.2.2.1 a ha hd n hn
  · by_cases ea : a = t
    · subst ea
      obtain ⟨k, hk3, hk4⟩ := hi
      cases k with
      | zero => injection hk4 with hk4; rw [← hk4] at hk; exact absurd (hK0 n hn) hk
      | succ k =>
        rw [gw_an_s, gw_us] at hk4
        cases x with
        | none => rw [gw_an_n] at hk4; exact absurd hk4 (by simp)
        | some p =>
          obtain ⟨h1, h2, h3⟩ := hx p rfl
          rw [gw_an_u hC h0 k _ hx] at hk4
          have h5 := hC.2.2.2.1 p h1 h3 e n ⟨k, by omega, hk4⟩ hn hk
          show gw_kf _ K n 3 (some a) = _
          have e1 : gw_kf (gw_u P a (some p)) K n 3 (some a) = if K (10 * a + n) = -1 then gw_kf (gw_u P a (some p)) K n 2 (gw_u P a (some p) a) else K (10 * a + n) := rfl
          rw [e1, if_pos (hK0 n hn), gw_us, gw_kf_d hC h0 2 _ hx]
          -- the parent's own kind stands among its first two
          have key : ∀ k o, gw_v D s o → gw_an P k o = some e → ∀ m, k < m → (∀ j, j < k → ∀ b, gw_an P j o = some b → K (10 * b + n) = -1) → gw_kf P K n m o = K (10 * e + n) := by
            intro k
            induction k with
            | zero =>
              intro o ho hh m hm _
              have hh' : o = some e := hh
              subst hh'
              cases m with
              | zero => omega
              | succ m => show (if _ then _ else _) = _; rw [if_neg hk]
            | succ k ih =>
              intro o ho hh m hm hall
              cases o with
              | none => rw [gw_an_n] at hh; exact absurd hh (by simp)
              | some b =>
                cases m with
                | zero => omega
                | succ m =>
                  show (if _ then _ else _) = _
                  rw [if_pos (hall 0 (by omega) b rfl)]
                  rw [gw_an_s] at hh
                  exact ih (P b) (gw_v_P hC ho) hh m (by omega) (fun j hj c hc => hall (j + 1) (by omega) c (by rw [gw_an_s]; exact hc))
          -- below level k nothing of that name, or it is the same kind
          by_cases hall : ∀ j, j < k → ∀ b, gw_an P j (some p) = some b → K (10 * b + n) = -1
          · exact key k (some p) hx hk4 2 (by omega) hall
          · -- some earlier one: then it is the kind
            have : ∃ j, j < k ∧ ∃ b, gw_an P j (some p) = some b ∧ ¬ K (10 * b + n) = -1 := by
              apply Classical.byContradiction
              intro hno
              apply hall
              intro j hj b hb
              apply Classical.byContradiction
              intro hnb
              exact hno ⟨j, hj, b, hb, hnb⟩
            obtain ⟨j, hj, b, hb, hnb⟩ := this
            have hk1 : k = 1 := by omega
            have hj0 : j = 0 := by omega
            subst hj0
            injection hb with hb
            subst hb
            have h6 := hC.2.2.2.1 p h1 h3 p n ⟨0, by omega, rfl⟩ hn hnb
            show (if _ then _ else _) = _
            rw [if_neg hnb, ← h6, h5]
    · have hda := hD a hd ea
      have hva : gw_v D (a / 6) (some a) := gw_v_mk ha rfl hda
      obtain ⟨k, hk3, hk4⟩ := hi
      rw [gw_an_u hC h0 k _ hva] at hk4
      rw [gw_kd_d hC h0 hva]
      exact hC.2.2.2.1 a ha hda e n ⟨k, hk3, hk4⟩ hn hk
  · by_cases e : s' = s
    · rw [e, gw_us] at ha
      injection ha with ha
      subst ha
      exact ⟨ht, by omega, by rw [pk_us]; decide⟩
    · rw [gw_un e] at ha
      obtain ⟨h1, h2, h3⟩ := hC.2.2.2.2.1 s' a hs' ha
      refine ⟨h1, h2, ?_⟩
      by_cases e2 : a = t
      · rw [e2, pk_us]; decide
      · rw [pk_un e2]; exact h3
theorem gw_O_def (hC : gw_C D K P L) (h : gw_O D P K C S T F) {t : Nat} {x : Option Nat} (h0 : D t = 0) : gw_O (upd D t 1) (gw_u P t x) K C S T F := by
  refine ⟨fun o ho => gw_v_u (h.1 o ho), h.2.1, fun o n r ho hn hr => ?_, h.2.2.2⟩
  have := h.1 o ho
  rw [hr] at this
  rw [gw_kd_d hC h0 this]
  exact h.2.2.1 o n r ho hn hr
theorem gy_v_def (hC : gw_C D K P L) (h : gw_O D P K C S T F) {a : Nat → Int64} (hy : gy_v P K C T F a) {t : Nat} {x : Option Nat} (h0 : D t = 0) : gy_v (gw_u P t x) K C T F a := fun o n r ho hn hr => by
  have := h.1 o ho
  rw [hr] at this
  rw [gw_kd_d hC h0 this]
  exact hy o n r ho hn hr
/-! a field added to the latest type -/
theorem gw_kf_f (hC : gw_C D K P L) {t n m : Nat} {x : Int32} (ht : t < 12) (hn : n < 10) (hm : m < 10) (hL : L (t / 6) = some t) {s : Nat} : ∀ k o, gw_v D s o → o ≠ some t → gw_kf P (upd K (10 * t + n) x) m k o = gw_kf P K m k o := by
  intro k
  induction k with
  | zero => intro o _ _; rfl
  | succ k ih =>
    intro o ho hne
    cases o with
    | none => rfl
    | some a =>
      have hat : a ≠ t := fun z => hne (by rw [z])
      obtain ⟨h1, h2, h3⟩ := ho a rfl
      have hP : P a ≠ some t := fun z => by
        obtain ⟨_, p2, _, p4⟩ := hC.1 a h1 h3 t z
        rw [← p2] at p4
        exact p4 hL
      show (if upd K (10 * t + n) x (10 * a + m) = -1 then gw_kf P (upd K (10 * t + n) x) m k (P a) else upd K (10 * t + n) x (10 * a + m)) = (if K (10 * a + m) = -1 then gw_kf P K m k (P a) else K (10 * a + m))
      rw [pk_un (by omega), ih _ (gw_v_P hC ho) hP]
theorem gw_kd_f (hC : gw_C D K P L) {t n m e : Nat} {x : Int32} (ht : t < 12) (hn : n < 10) (hm : m < 10) (hL : L (t / 6) = some t) {s : Nat} (ho : gw_v D s (some e)) (he : e ≠ t) : gw_kd P (upd K (10 * t + n) x) e m = gw_kd P K e m := gw_kf_f hC ht hn hm hL 3 _ ho (fun z => by injection z with z; exact he z)
theorem gw_ct_o {t a n : Nat} {x : Int32} (hn : n < 10) : ∀ m, m ≤ 10 → a ≠ t → gw_ct (upd K (10 * t + n) x) a m = gw_ct K a m := by
  intro m
  induction m with
  | zero => intro _ _; rfl
  | succ m ih => intro h1 h2; show gw_ct _ a m + _ = gw_ct _ a m + _; rw [ih (by omega) h2, pk_un (by omega)]
theorem gw_ct_s {t n : Nat} {x : Int32} (hx : ¬ x = -1) (h0 : K (10 * t + n) = -1) : ∀ m, gw_ct (upd K (10 * t + n) x) t m = gw_ct K t m + (if n < m then 1 else 0) := by
  intro m
  induction m with
  | zero => rfl
  | succ m ih =>
    show gw_ct _ t m + _ = gw_ct _ t m + _ + _
    rw [ih]
    by_cases e : m = n
    · subst e
      rw [pk_us, if_neg hx, if_pos h0, if_neg (by omega), if_pos (by omega)]
    · rw [pk_un (by omega)]
      by_cases e2 : n < m
      · rw [if_pos e2, if_pos (show n < m + 1 by omega)]; omega
      · rw [if_neg e2, if_neg (show ¬ n < m + 1 by omega)]; omega
theorem gw_kd_0 {t n : Nat} (h : gw_kd P K t n = -1) : K (10 * t + n) = -1 := by
  apply Classical.byContradiction
  intro hn
  have : gw_kd P K t n = if K (10 * t + n) = -1 then gw_kf P K n 2 (P t) else K (10 * t + n) := rfl
  rw [this, if_neg hn] at h
  exact hn h
theorem gw_C_fld (hC : gw_C D K P L) {t n j : Nat} (ht : t < 12) (hn : n < 10) (hj : j ≤ 4) (hL : L (t / 6) = some t) (hk0 : gw_kd P K t n = -1) (hct : gw_ct K t 10 < 4) : gw_C D (upd K (10 * t + n) (nI j)) P L := by
  have hD := (hC.2.2.2.2.1 (t / 6) t (by omega) hL).2.2
  have hK0 := gw_kd_0 hk0
  refine ⟨hC.1, fun i hi hk => ?_, fun a ha hd m hm => ?_, fun a ha hd e m hi hm hk => ?_, hC.2.2.2.2.1, fun a ha => ?_⟩
  · by_cases e : i = 10 * t + n
    · rw [e, pk_us]; exact ⟨j, hj, rfl⟩
    · rw [pk_un e] at hk ⊢; exact hC.2.1 i hi hk
  · have : a ≠ t := fun z => hD (by rw [← z]; exact hd)
    rw [pk_un (by omega)]
    exact hC.2.2.1 a ha hd m hm
  · have hva : gw_v D (a / 6) (some a) := gw_v_mk ha rfl hd
    have hPt : ∀ b, gw_v D (b / 6) (some b) → P b ≠ some t := fun b hb z => by
      obtain ⟨_, p2, _, p4⟩ := hC.1 b (hb b rfl).1 (hb b rfl).2.2 t z
      rw [← p2] at p4
      exact p4 hL
    by_cases ea : a = t
    · subst ea
      have e1 : gw_kd P (upd K (10 * a + n) (nI j)) a m = if upd K (10 * a + n) (nI j) (10 * a + m) = -1 then gw_kf P (upd K (10 * a + n) (nI j)) m 2 (P a) else upd K (10 * a + n) (nI j) (10 * a + m) := rfl
      have e2 : gw_kd P K a m = if K (10 * a + m) = -1 then gw_kf P K m 2 (P a) else K (10 * a + m) := rfl
      have e3 := gw_kf_f (n := n) (m := m) (x := nI j) hC ha hn hm hL 2 (P a) (gw_v_P hC hva) (hPt a hva)
      by_cases ee : e = a
      · subst ee
        rw [e1, if_neg hk]
      · have hev := gw_v_in hC hva hi
        rw [pk_un (by omega)] at hk ⊢
        have h5 := hC.2.2.2.1 a ha hd e m hi hm hk
        by_cases em : m = n
        · subst em; rw [h5] at hk0; exact absurd hk0 hk
        · rw [e1, pk_un (by omega), e3, ← e2]; exact h5
    · have hne : e ≠ t := fun z => by
        obtain ⟨k, _, hk4⟩ := hi
        cases k with
        | zero => injection hk4 with hk4; exact ea (hk4.trans z)
        | succ k =>
          have hvk := gw_v_an hC k _ hva
          cases hb : gw_an P k (some a) with
          | none => rw [gw_an_bn hb] at hk4; exact absurd hk4 (by simp)
          | some b =>
            rw [gw_an_b hb, z] at hk4
            rw [hb] at hvk
            obtain ⟨q1, q2, q3⟩ := hvk b rfl
            exact hPt b (gw_v_mk q1 rfl q3) hk4
      rw [pk_un (by omega)] at hk ⊢
      rw [gw_kd_f hC ht hn hm hL hva ea]
      exact hC.2.2.2.1 a ha hd e m hi hm hk
  · by_cases e : a = t
    · subst e
      rw [gw_ct_s (gw_nm (by omega)) hK0, if_pos hn]
      omega
    · rw [gw_ct_o hn 10 (by omega) e]; exact hC.2.2.2.2.2 a ha
theorem gw_O_fld (hC : gw_C D K P L) (h : gw_O D P K C S T F) {t n : Nat} {x : Int32} (ht : t < 12) (hn : n < 10) (hL : L (t / 6) = some t) (hno : ∀ o, o < 32 → C o ≠ some t) : gw_O D P (upd K (10 * t + n) x) C S T F := by
  refine ⟨h.1, h.2.1, fun o m r ho hm hr => ?_, h.2.2.2⟩
  have := h.1 o ho
  rw [hr] at this
  rw [gw_kd_f hC ht hn hm hL this (fun z => hno o ho (by rw [hr, z]))]
  exact h.2.2.1 o m r ho hm hr
theorem gy_v_fld (hC : gw_C D K P L) (h : gw_O D P K C S T F) {a : Nat → Int64} (hy : gy_v P K C T F a) {t n : Nat} {x : Int32} (ht : t < 12) (hn : n < 10) (hL : L (t / 6) = some t) (hno : ∀ o, o < 32 → C o ≠ some t) : gy_v P (upd K (10 * t + n) x) C T F a := fun o m r ho hm hr => by
  have := h.1 o ho
  rw [hr] at this
  rw [gw_kd_f hC ht hn hm hL this (fun z => hno o ho (by rw [hr, z]))]
  exact hy o m r ho hm hr
end
