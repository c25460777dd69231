section
/-! base: numbers, codes of 'none or an index', stores, bits -/
theorem pk_us {f : Nat → Int32} {k : Nat} {x : Int32} : upd f k x k = x := if_pos rfl
theorem pk_un {f : Nat → Int32} {k j : Nat} {x : Int32} (h : j ≠ k) : upd f k x j = f j := if_neg h
theorem pk_uLs {f : Nat → Int64} {k : Nat} {x : Int64} : vp_updL f k x k = x := if_pos rfl
theorem pk_uLn {f : Nat → Int64} {k j : Nat} {x : Int64} (h : j ≠ k) : vp_updL f k x j = f j := if_neg h
theorem pk_sub {a b : Nat} (h : b ≤ a) : nI a - nI b = nI (a - b) := by
  obtain ⟨c, rfl⟩ : ∃ c, a = c + b := ⟨a - b, by omega⟩
  rw [← nI_add, Int32.add_sub_cancel, Nat.add_sub_cancel]
theorem pk_m1 (n : Nat) : nI (n + 1) + (-1) = nI n := by
  rw [← nI_1, Int32.add_assoc, show (1 : Int32) + (-1) = 0 from rfl, Int32.add_zero]
theorem pk_mul (a b : Nat) : nI a * nI b = nI (a * b) := (Int32.ofNat_mul a b).symm
theorem pk_div {a d : Nat} (ha : a < 2 ^ 31) (h0 : 0 < d) (hd : d < 2 ^ 31) : nI a / nI d = nI (a / d) := by
  apply Int32.toInt_inj.mp
  rw [lg_idiv_nonneg (by rw [nI_toInt ha]; omega) (by rw [nI_toInt hd]; omega), nI_toInt ha, nI_toInt hd, nI_toInt (Nat.lt_of_le_of_lt (Nat.div_le_self a d) ha)]
  first | rfl | exact (Int.natCast_ediv _ _).symm
theorem pk_rem {a d : Nat} (ha : a < 2 ^ 31) (h0 : 0 < d) (hd : d < 2 ^ 31) : nI a - nI a / nI d * nI d = nI (a % d) := by
  rw [pk_div ha h0 hd, pk_mul, pk_sub (Nat.div_mul_le_self a d)]
  exact congrArg nI (by have := Nat.div_add_mod' a d; omega)
theorem pk_ix (x : Int32) {n : Nat} (hn : n < 2 ^ 31) : x < 0 ∨ nI n ≤ x ∨ ∃ j : Nat, j < n ∧ x = nI j := by
  by_cases h : x < 0
  · exact Or.inl h
  · obtain ⟨j, hj, rfl⟩ := nI_of h
    by_cases h2 : j < n
    · exact Or.inr (Or.inr ⟨j, h2, rfl⟩)
    · exact Or.inr (Or.inl (nI_le (by omega) hj))
theorem pk_le {x y : Int32} {A B : Prop} (a b : Nat) (f : a ≤ b → A) (g : b < a → B) (hx : x = nI a := by rfl) (hy : y = nI b := by rfl) (ha : a < 2 ^ 31 := by omega) (hb : b < 2 ^ 31 := by omega) : (x ≤ y → A) ∧ (¬ x ≤ y → B) := by
  subst hx hy
  rw [nI_leI ha hb]
  exact ⟨f, fun z => g (by omega)⟩
theorem pk_lt {x y : Int32} {A B : Prop} (a b : Nat) (f : a < b → A) (g : b ≤ a → B) (hx : x = nI a := by rfl) (hy : y = nI b := by rfl) (ha : a < 2 ^ 31 := by omega) (hb : b < 2 ^ 31 := by omega) : (x < y → A) ∧ (¬ x < y → B) := by
  subst hx hy
  rw [nI_ltI ha hb]
  exact ⟨f, fun z => g (by omega)⟩
theorem pk_eq {x y : Int32} {A B : Prop} (a b : Nat) (f : a = b → A) (g : a ≠ b → B) (hx : x = nI a := by rfl) (hy : y = nI b := by rfl) (ha : a < 2 ^ 31 := by omega) (hb : b < 2 ^ 31 := by omega) : (x = y → A) ∧ (¬ x = y → B) := by
  subst hx hy
  rw [nI_eq ha hb]
  exact ⟨f, g⟩
theorem pk_in {x : Int32} (n N : Nat) (h : n < N) (hx : x = nI n := by rfl) (hN : N < 2 ^ 31 := by omega) : vp_in x N := by
  subst hx
  exact vp_in_nI h hN
theorem pk_cl {x : Int32} (n : Nat) (hx : x = nI n := by rfl) (h : n < 2 ^ 31 := by omega) : x.toNatClampNeg = n := by
  subst hx
  exact nI_clamp h
theorem ek_if {c d A B : Prop} (e : c ↔ d) (f : d → A) (g : ¬ d → B) : (c → A) ∧ (¬ c → B) :=
  ⟨fun z => f (e.mp z), fun z => g (fun y => z (e.mpr y))⟩
def bt (x : Int32) (i : Nat) : Bool := x.toBitVec.getLsbD i
theorem b_or (x y : Int32) (i : Nat) : bt (x ||| y) i = (bt x i || bt y i) := by unfold bt; rw [Int32.toBitVec_or, BitVec.getLsbD_or]
theorem b_and (x y : Int32) (i : Nat) : bt (x &&& y) i = (bt x i && bt y i) := by unfold bt; rw [Int32.toBitVec_and, BitVec.getLsbD_and]
theorem b_xor (x y : Int32) (i : Nat) : bt (x ^^^ y) i = (bt x i ^^ bt y i) := by unfold bt; rw [Int32.toBitVec_xor, BitVec.getLsbD_xor]
theorem b_m1 : ∀ i, i < 32 → bt (-1) i = true := by decide +kernel
theorem b_0 (i : Nat) : bt 0 i = false := BitVec.getLsbD_zero
theorem s_l : ∀ n, n < 32 → ((nI n &&& 31).toBitVec.smod 32).toNat = n := by decide +kernel
theorem b_shl (n : Nat) (hn : n < 32) (x : Int32) {i : Nat} (hi : i < 32) : bt (x <<< (nI n &&& 31)) i = (decide (n ≤ i) && bt x (i - n)) := by
  unfold bt
  rw [Int32.toBitVec_shiftLeft]
  show (x.toBitVec <<< ((nI n &&& 31).toBitVec.smod 32).toNat).getLsbD i = _
  rw [s_l n hn, BitVec.getLsbD_shiftLeft]
  rcases Nat.lt_or_ge i n with h | h
  · simp [h, Nat.not_le.mpr h]
  · simp [hi, h, Nat.not_lt.mpr h]
theorem b_sshr (n : Nat) (hn : n < 32) (x : Int32) {i : Nat} (hi : i < 32) : bt (x >>> (nI n &&& 31)) i = if n + i < 32 then bt x (n + i) else bt x 31 := by
  unfold bt
  rw [Int32.toBitVec_shiftRight]
  show (x.toBitVec.sshiftRight ((nI n &&& 31).toBitVec.smod 32).toNat).getLsbD i = _
  rw [s_l n hn, BitVec.getLsbD_sshiftRight, BitVec.msb_eq_getLsbD_last]
  simp [hi]
/-- the ID of object o -/
def gw_d (o : Nat) : Nat := o + o / 16 * 16
def gw_o : Option Nat → Int32
  | none => -1
  | some n => nI n
def gw_c : Option Nat → Int32
  | none => -1
  | some n => nI (n % 6)
def gw_g : Option Nat → Int32
  | none => -1
  | some n => nI (gw_d n)
theorem gw_nm {n : Nat} (h : n < 2 ^ 31) : ¬ nI n = -1 := fun e => by
  have := nI_pos' h
  rw [e] at this
  exact absurd this (by decide)
theorem gw_p0 {n : Nat} (h : n < 2 ^ 31) : ¬ nI n < 0 := nI_pos h
theorem gw_dlt {o : Nat} (h : o < 32) : gw_d o < 48 := by unfold gw_d; omega
theorem gw_dinj {a b : Nat} (h : gw_d a = gw_d b) : a = b := by unfold gw_d at h; omega
theorem gw_d1 {s n : Nat} (hn : n < 16) : gw_d (16 * s + n) = 32 * s + n := by unfold gw_d; omega
theorem gw_dd {o : Nat} : gw_d o / 32 = o / 16 := by unfold gw_d; omega
theorem gw_dm {o : Nat} : gw_d o % 32 = o % 16 := by unfold gw_d; omega
/-! arithmetic, as both sides print it -/
theorem gw_e1 (s c : Nat) : nI s * 6 + nI c = nI (6 * s + c) := by
  have h : nI s * nI 6 + nI c = nI (6 * s + c) := by rw [pk_mul, nI_add]; exact congrArg nI (by omega)
  exact h
theorem gw_e2 (s c : Nat) : 6 * nI s + nI c = nI (6 * s + c) := by
  have h : nI 6 * nI s + nI c = nI (6 * s + c) := by rw [pk_mul, nI_add]
  exact h
theorem gw_e3 (s c : Nat) : nI s * 10 + nI c = nI (10 * s + c) := by
  have h : nI s * nI 10 + nI c = nI (10 * s + c) := by rw [pk_mul, nI_add]; exact congrArg nI (by omega)
  exact h
theorem gw_e4 (s c n : Nat) : 60 * nI s + 10 * nI c + nI n = nI (10 * (6 * s + c) + n) := by
  have h : nI 60 * nI s + nI 10 * nI c + nI n = nI (10 * (6 * s + c) + n) := by rw [pk_mul, pk_mul, nI_add, nI_add]; exact congrArg nI (by omega)
  exact h
theorem gw_e5 (s c : Nat) : nI s * 32 + nI c = nI (32 * s + c) := by
  have h : nI s * nI 32 + nI c = nI (32 * s + c) := by rw [pk_mul, nI_add]; exact congrArg nI (by omega)
  exact h
theorem gw_e6 (s : Nat) : 16 * nI s = nI (16 * s) := by
  have h : nI 16 * nI s = nI (16 * s) := pk_mul _ _
  exact h
theorem gw_e6a (s c : Nat) : 16 * nI s + nI c = nI (16 * s + c) := by rw [gw_e6, nI_add]
theorem gw_e6b (s : Nat) : 16 * nI s + 16 = nI (16 * s + 16) := by
  have h : 16 * nI s + nI 16 = nI (16 * s + 16) := gw_e6a s 16
  exact h
theorem gw_e7 (s c : Nat) : 10 * nI s + nI c = nI (10 * s + c) := by
  have h : nI 10 * nI s + nI c = nI (10 * s + c) := by rw [pk_mul, nI_add]
  exact h
theorem gw_m6 {a : Nat} (h : a < 2 ^ 31) : nI a - nI a / 6 * 6 = nI (a % 6) := pk_rem (d := 6) h (by omega) (by omega)
theorem gw_m10 {a : Nat} (h : a < 2 ^ 31) : nI a - nI a / 10 * 10 = nI (a % 10) := pk_rem (d := 10) h (by omega) (by omega)
theorem gw_m16 {a : Nat} (h : a < 2 ^ 31) : nI a - nI a / 16 * 16 = nI (a % 16) := pk_rem (d := 16) h (by omega) (by omega)
theorem gw_m32 {a : Nat} (h : a < 2 ^ 31) : nI a - nI a / 32 * 32 = nI (a % 32) := pk_rem (d := 32) h (by omega) (by omega)
theorem gw_q10 {a : Nat} (h : a < 2 ^ 31) : nI a / 10 = nI (a / 10) := pk_div (d := 10) h (by omega) (by omega)
theorem gw_q16 {a : Nat} (h : a < 2 ^ 31) : nI a / 16 = nI (a / 16) := pk_div (d := 16) h (by omega) (by omega)
theorem gw_q32 {a : Nat} (h : a < 2 ^ 31) : nI a / 32 = nI (a / 32) := pk_div (d := 32) h (by omega) (by omega)
theorem gw_s1 {s : Nat} (h : s ≤ 1) : 1 - nI s = nI (1 - s) := pk_sub (a := 1) h
theorem gw_s2 {s : Nat} (h : s ≤ 2) : 2 - nI s = nI (2 - s) := pk_sub (a := 2) h
theorem gw_id {a : Nat} (h : a < 2 ^ 20) : nI a / 16 * 32 + (nI a - nI a / 16 * 16) = nI (gw_d a) := by
  rw [gw_m16 (by omega), gw_q16 (by omega), gw_e5]
  exact congrArg nI (by unfold gw_d; omega)
theorem gw_ob {a : Nat} (h : a < 2 ^ 20) : nI a / 32 * 16 + (nI a - nI a / 32 * 32) = nI (16 * (a / 32) + a % 32) := by
  rw [gw_m32 (by omega), gw_q32 (by omega)]
  have h : nI (a / 32) * nI 16 + nI (a % 32) = nI (16 * (a / 32) + a % 32) := by rw [pk_mul, nI_add]; exact congrArg nI (by omega)
  exact h
theorem gw_n1 : vp_nar .boolean 1 = 1 := by decide
theorem gw_n0 : vp_nar .boolean 0 = 0 := by decide
theorem gw_6 : ¬ (6 : Int32) = 0 := by decide
theorem gw_10 : ¬ (10 : Int32) = 0 := by decide
theorem gw_16 : ¬ (16 : Int32) = 0 := by decide
theorem gw_32 : ¬ (32 : Int32) = 0 := by decide
/-! an array given by its values: a fill of lo .. hi - 1 -/
def gw_fi (a : Nat → Int32) (lo hi : Nat) (v : Int32) : Nat → Int32 := fun i => if lo ≤ i ∧ i < hi then v else a i
theorem gw_fi_e {a : Nat → Int32} {lo hi : Nat} {v : Int32} (h : hi ≤ lo) : gw_fi a lo hi v = a := funext fun i => if_neg (by omega)
theorem gw_fi_s {a : Nat → Int32} {lo hi : Nat} {v : Int32} (h : lo < hi) : gw_fi (upd a lo v) (lo + 1) hi v = gw_fi a lo hi v := funext fun i => by
  unfold gw_fi upd
  by_cases h1 : i = lo
  · rw [if_neg (by omega), if_pos h1, if_pos (by omega)]
  · by_cases h2 : lo + 1 ≤ i ∧ i < hi
    · rw [if_pos h2, if_pos (by omega)]
    · rw [if_neg h2, if_neg h1, if_neg (by omega)]
theorem gw_fi_i {a : Nat → Int32} {lo hi i : Nat} {v : Int32} (h : lo ≤ i ∧ i < hi) : gw_fi a lo hi v i = v := if_pos h
theorem gw_fi_o {a : Nat → Int32} {lo hi i : Nat} {v : Int32} (h : ¬ (lo ≤ i ∧ i < hi)) : gw_fi a lo hi v i = a i := if_neg h
def gw_fL (a : Nat → Int64) (lo hi : Nat) (v : Int64) : Nat → Int64 := fun i => if lo ≤ i ∧ i < hi then v else a i
theorem gw_fL_e {a : Nat → Int64} {lo hi : Nat} {v : Int64} (h : hi ≤ lo) : gw_fL a lo hi v = a := funext fun i => if_neg (by omega)
theorem gw_fL_s {a : Nat → Int64} {lo hi : Nat} {v : Int64} (h : lo < hi) : gw_fL (vp_updL a lo v) (lo + 1) hi v = gw_fL a lo hi v := funext fun i => by
  unfold gw_fL vp_updL
  by_cases h1 : i = lo
  · rw [if_neg (by omega), if_pos h1, if_pos (by omega)]
  · by_cases h2 : lo + 1 ≤ i ∧ i < hi
    · rw [if_pos h2, if_pos (by omega)]
    · rw [if_neg h2, if_neg h1, if_neg (by omega)]
theorem gw_fL_i {a : Nat → Int64} {lo hi i : Nat} {v : Int64} (h : lo ≤ i ∧ i < hi) : gw_fL a lo hi v i = v := if_pos h
theorem gw_fL_o {a : Nat → Int64} {lo hi i : Nat} {v : Int64} (h : ¬ (lo ≤ i ∧ i < hi)) : gw_fL a lo hi v i = a i := if_neg h
/-- a pure store -/
def gw_u {α : Type} (f : Nat → α) (k : Nat) (x : α) : Nat → α := fun j => if j = k then x else f j
theorem gw_us {α : Type} {f : Nat → α} {k : Nat} {x : α} : gw_u f k x k = x := if_pos rfl
theorem gw_un {α : Type} {f : Nat → α} {k j : Nat} {x : α} (h : j ≠ k) : gw_u f k x j = f j := if_neg h
/-! bits -/
theorem gw_b1 : ∀ i, i < 32 → bt 1 i = decide (i = 0) := by decide +kernel
theorem gw_bit (x : Int32) (n : Nat) (hn : n < 32) : ((x >>> (nI n &&& 31)) &&& 1) = if bt x n = true then 1 else 0 := by
  have h : ∀ i, i < 32 → bt ((x >>> (nI n &&& 31)) &&& 1) i = bt (if bt x n = true then 1 else 0) i := by
    intro i hi
    rw [b_and, b_sshr n hn x hi, gw_b1 i hi]
    by_cases h0 : i = 0
    · subst h0
      rw [if_pos (by omega), Nat.add_zero]
      by_cases hb : bt x n = true
      · rw [if_pos hb, hb, gw_b1 0 hi]; rfl
      · rw [if_neg hb, b_0]; cases hx : bt x n
        · rfl
        · exact absurd hx hb
    · rw [decide_eq_false h0, Bool.and_false]
      by_cases hb : bt x n = true
      · rw [if_pos hb, gw_b1 i hi, decide_eq_false h0]
      · rw [if_neg hb, b_0]
  exact Int32.toBitVec_inj.mp (BitVec.eq_of_getLsbD_eq (fun i hi => h i hi))
theorem gw_bit1 {x : Int32} {n : Nat} (hn : n < 32) : ((x >>> (nI n &&& 31)) &&& 1) = 1 ↔ bt x n = true := by
  rw [gw_bit x n hn]
  by_cases hb : bt x n = true
  · rw [if_pos hb]; exact ⟨fun _ => hb, fun _ => rfl⟩
  · rw [if_neg hb]; exact ⟨fun e => absurd e (by decide), fun e => absurd e hb⟩
theorem gw_bit0 {x : Int32} {n : Nat} (hn : n < 32) : ((x >>> (nI n &&& 31)) &&& 1) = 0 ↔ ¬ bt x n = true := by
  rw [gw_bit x n hn]
  by_cases hb : bt x n = true
  · rw [if_pos hb]; exact ⟨fun e => absurd e (by decide), fun e => absurd hb e⟩
  · rw [if_neg hb]; exact ⟨fun _ => hb, fun _ => rfl⟩
theorem gw_bs {n i : Nat} (hn : n < 32) (hi : i < 32) : bt ((1 : Int32) <<< (nI n &&& 31)) i = true ↔ i = n := by
  rw [b_shl n hn _ hi, gw_b1 _ (by omega), Bool.and_eq_true, decide_eq_true_eq, decide_eq_true_eq]
  omega
theorem gw_bor {x : Int32} {n i : Nat} (hn : n < 32) (hi : i < 32) : bt (x ||| ((1 : Int32) <<< (nI n &&& 31))) i = true ↔ bt x i = true ∨ i = n := by
  rw [b_or, Bool.or_eq_true, gw_bs hn hi]
theorem gw_bcl {x : Int32} {n i : Nat} (hn : n < 32) (hi : i < 32) : bt (x &&& (((1 : Int32) <<< (nI n &&& 31)) ^^^ (-1))) i = true ↔ bt x i = true ∧ i ≠ n := by
  rw [b_and, b_xor, b_m1 i hi, Bool.and_eq_true]
  have := gw_bs (n := n) (i := i) hn hi
  cases hb : bt ((1 : Int32) <<< (nI n &&& 31)) i
  · rw [hb] at this
    exact ⟨fun h => ⟨h.1, fun e => absurd (this.mpr e) (by decide)⟩, fun h => ⟨h.1, rfl⟩⟩
  · have e := this.mp hb
    exact ⟨fun h => absurd h.2 (by decide), fun h => absurd e h.2⟩
end
section
/-! classes: chains, kinds; each side's walks over them -/
section
def gw_an (P : Nat → Option Nat) : Nat → Option Nat → Option Nat
  | 0, o => o
  | k + 1, o => (gw_an P k o).bind P
def gw_in (P : Nat → Option Nat) (t e : Nat) : Prop := ∃ k, k < 3 ∧ gw_an P k (some t) = some e
def gw_kf (P : Nat → Option Nat) (K : Nat → Int32) (n : Nat) : Nat → Option Nat → Int32
  | 0, _ => -1
  | _ + 1, none => -1
  | k + 1, some t => if K (10 * t + n) = -1 then gw_kf P K n k (P t) else K (10 * t + n)
def gw_kd (P : Nat → Option Nat) (K : Nat → Int32) (t n : Nat) : Int32 := gw_kf P K n 3 (some t)
theorem gw_an_n {P : Nat → Option Nat} : ∀ k, gw_an P k none = none := by
  intro k
  induction k with
  | zero => rfl
  | succ k ih => show (gw_an P k none).bind P = none; rw [ih]; rfl
theorem gw_an_s {P : Nat → Option Nat} {t : Nat} : ∀ k, gw_an P (k + 1) (some t) = gw_an P k (P t) := by
  intro k
  induction k with
  | zero => rfl
  | succ k ih => show (gw_an P (k + 1) (some t)).bind P = _; rw [ih]; rfl
theorem gw_an_b {P : Nat → Option Nat} {t a k : Nat} (h : gw_an P k (some t) = some a) : gw_an P (k + 1) (some t) = P a := by
  show (gw_an P k (some t)).bind P = _; rw [h]; rfl
theorem gw_an_bn {P : Nat → Option Nat} {t k : Nat} (h : gw_an P k (some t) = none) : gw_an P (k + 1) (some t) = none := by
  show (gw_an P k (some t)).bind P = _; rw [h]; rfl
/-- how many fields of their own -/
def gw_ct (K : Nat → Int32) (t : Nat) : Nat → Nat
  | 0 => 0
  | m + 1 => gw_ct K t m + (if K (10 * t + m) = -1 then 0 else 1)
/-- what always holds of the classes -/
def gw_C (D K : Nat → Int32) (P L : Nat → Option Nat) : Prop :=
  (∀ t, t < 12 → D t ≠ 0 → ∀ p, P t = some p → p < 12 ∧ p / 6 = t / 6 ∧ D p ≠ 0 ∧ L (t / 6) ≠ some p) ∧
  (∀ i, i < 120 → ¬ K i = -1 → ∃ n, n ≤ 4 ∧ K i = nI n) ∧
  (∀ t, t < 12 → D t = 0 → ∀ n, n < 10 → K (10 * t + n) = -1) ∧
  (∀ t, t < 12 → D t ≠ 0 → ∀ e n, gw_in P t e → n < 10 → ¬ K (10 * e + n) = -1 → gw_kd P K t n = K (10 * e + n)) ∧
  (∀ s t, s < 2 → L s = some t → t < 12 ∧ t / 6 = s ∧ D t ≠ 0) ∧
  (∀ t, t < 12 → gw_ct K t 10 ≤ 4)
/-- a type of side s -/
def gw_v (D : Nat → Int32) (s : Nat) (o : Option Nat) : Prop := ∀ t, o = some t → t < 12 ∧ t / 6 = s ∧ D t ≠ 0
variable {D K : Nat → Int32} {P L : Nat → Option Nat}
theorem gw_v_P (hC : gw_C D K P L) {s t : Nat} (h : gw_v D s (some t)) : gw_v D s (P t) := fun p hp => by
  obtain ⟨h1, h2, h3⟩ := h t rfl
  obtain ⟨a, b, c, _⟩ := hC.1 t h1 h3 p hp
  exact ⟨a, by omega, c⟩
theorem gw_v_an (hC : gw_C D K P L) {s : Nat} : ∀ k o, gw_v D s o → gw_v D s (gw_an P k o) := by
  intro k
  induction k with
  | zero => intro o h; exact h
  | succ k ih =>
    intro o h
    have := ih o h
    show gw_v D s ((gw_an P k o).bind P)
    cases e : gw_an P k o with
    | none => intro t ht; exact absurd ht (by simp)
    | some a => rw [e] at this; exact gw_v_P hC this
theorem gw_v_in (hC : gw_C D K P L) {s t e : Nat} (h : gw_v D s (some t)) (hi : gw_in P t e) : gw_v D s (some e) := by
  obtain ⟨k, _, hk⟩ := hi
  rw [← hk]
  exact gw_v_an hC k _ h
theorem gw_v_mk {s t : Nat} (h1 : t < 12) (h2 : t / 6 = s) (h3 : D t ≠ 0) : gw_v D s (some t) := fun a ha => by
  cases ha
  exact ⟨h1, h2, h3⟩
theorem gw_kf_n {n : Nat} : ∀ k, gw_kf P K n k none = -1
  | 0 => rfl
  | _ + 1 => rfl
theorem gw_kf_r (hC : gw_C D K P L) {s n : Nat} (hn : n < 10) : ∀ k o, gw_v D s o → ¬ gw_kf P K n k o = -1 → ∃ m, m ≤ 4 ∧ gw_kf P K n k o = nI m := by
  intro k
  induction k with
  | zero => intro o _ h; exact absurd rfl h
  | succ k ih =>
    intro o ho h
    cases o with
    | none => exact absurd rfl h
    | some t =>
      have e : gw_kf P K n (k + 1) (some t) = if K (10 * t + n) = -1 then gw_kf P K n k (P t) else K (10 * t + n) := rfl
      rw [e] at h ⊢
      by_cases hk : K (10 * t + n) = -1
      · rw [if_pos hk] at h ⊢
        exact ih _ (gw_v_P hC ho) h
      · rw [if_neg hk]
        obtain ⟨h1, _, _⟩ := ho t rfl
        exact hC.2.1 _ (by omega) hk
theorem gw_kd_r (hC : gw_C D K P L) {s t n : Nat} (h : gw_v D s (some t)) (hn : n < 10) : gw_kd P K t n = -1 ∨ ∃ m, m ≤ 4 ∧ gw_kd P K t n = nI m := by
  by_cases hk : gw_kd P K t n = -1
  · exact Or.inl hk
  · exact Or.inr (gw_kf_r hC hn 3 _ h hk)
/-! the component -/
def gx_C (D : Nat → Int32) (P L : Nat → Option Nat) (xpt xlt : Nat → Int32) : Prop :=
  (∀ t, t < 12 → D t ≠ 0 → xpt t = gw_o (P t)) ∧ (∀ s, s < 2 → xlt s = gw_o (L s))
def gy_C (D : Nat → Int32) (P L : Nat → Option Nat) (ypa yla : Nat → Int32) : Prop :=
  (∀ t, t < 12 → D t ≠ 0 → ypa t = gw_c (P t)) ∧ (∀ s, s < 2 → yla s = gw_c (L s))
section
variable {xcu xar xrc xlc : Int32} {xde xpt xve xok xlt xty xpi : Nat → Int32} {xnu : Nat → Int64} {xtg xse xso xnf xrn xre xrl xrd xll xlr : Nat → Int32}
theorem gx_anc (hC : gw_C D K P L) (hx : gx_C D P L xpt xlt) {post : Int32 → Prop} {s : Nat} : ∀ d i g o, i + d = g → g < 100 → gw_v D s o → post (gw_o (gw_an P d o)) → wX_ancestor_5 post (nI g) xcu xar xrc xlc xde xpt xve xok xlt xty xpi xnu xtg xse xso xnf xrn xre xrl xrd xll xlr (d + 1) (gw_o o) (nI i) := by
  intro d
  induction d with
  | zero => intro i g o h1 h2 _ hp; exact br_t (nI_le (by omega) (by omega)) hp
  | succ d ih =>
    intro i g o h1 h2 hv hp
    refine br_f (nI_ge (by omega) (by omega)) ?_
    cases o with
    | none => exact br_t rfl (by rw [gw_an_n] at hp; exact hp)
    | some t =>
      obtain ⟨a, _, c⟩ := hv t rfl
      refine br_f (gw_nm (by omega)) ⟨vp_in_nI a (by omega), nm_r (e' := gw_o (P t)) (by rw [show gw_o (some t) = nI t from rfl, nI_clamp (by omega)]; exact hx.1 t a c) (nm_r (nI_1 i) (ih (i + 1) g (P t) (by omega) h2 (gw_v_P hC hv) (by rw [← gw_an_s]; exact hp)))⟩
theorem gx_ancestor (hC : gw_C D K P L) (hx : gx_C D P L xpt xlt) {post : Int32 → Prop} {s t k : Nat} (hk : k < 100) (hv : gw_v D s (some t)) (hp : post (gw_o (gw_an P k (some t)))) : wpX_ancestor post (xcu, xar, xrc, xlc, xde, xpt, xve, xok, xlt, xty, xpi, xnu, xtg, xse, xso, xnf, xrn, xre, xrl, xrd, xll, xlr) (nI t) (nI k) :=
  ⟨k + 1, gx_anc hC hx k 0 k (some t) (by omega) hk hv hp⟩
theorem gx_kin (hC : gw_C D xok P L) (hx : gx_C D P L xpt xlt) {post : Int32 → Prop} {s n : Nat} (hn : n < 10) : ∀ d i o, i + d = 3 → gw_v D s o → post (gw_kf P xok n d o) → wX_kindInChain_5 post (nI n) xcu xar xrc xlc xde xpt xve xok xlt xty xpi xnu xtg xse xso xnf xrn xre xrl xrd xll xlr (d + 1) (gw_o o) (nI i) := by
  intro d
  induction d with
  | zero => intro i o h1 _ hp; exact br_t (nI_le (a := 3) (by omega) (by omega)) hp
  | succ d ih =>
    intro i o h1 hv hp
    refine br_f (nI_ge (b := 3) (by omega) (by omega)) ?_
    cases o with
    | none => exact br_t rfl hp
    | some t =>
      obtain ⟨a, _, c⟩ := hv t rfl
      have e : gw_o (some t) * 10 + nI n = nI (10 * t + n) := gw_e3 t n
      have hp' : post (if xok (10 * t + n) = -1 then gw_kf P xok n d (P t) else xok (10 * t + n)) := hp
      refine br_f (gw_nm (by omega)) ⟨by rw [e]; exact vp_in_nI (by omega) (by omega), nm_r (e' := xok (10 * t + n)) (by rw [e, nI_clamp (by omega)]) ?_⟩
      by_cases hk : xok (10 * t + n) = -1
      · rw [if_pos hk] at hp'
        exact br_t hk ⟨vp_in_nI a (by omega), nm_r (e' := gw_o (P t)) (by rw [show gw_o (some t) = nI t from rfl, nI_clamp (by omega)]; exact hx.1 t a c) (nm_r (nI_1 i) (ih (i + 1) (P t) (by omega) (gw_v_P hC hv) hp'))⟩
      · rw [if_neg hk] at hp'
        exact br_f hk hp'
theorem gx_kind (hC : gw_C D xok P L) (hx : gx_C D P L xpt xlt) {post : Int32 → Prop} {s t n : Nat} (hn : n < 10) (hv : gw_v D s (some t)) (hp : post (gw_kd P xok t n)) : wpX_kindInChain post (xcu, xar, xrc, xlc, xde, xpt, xve, xok, xlt, xty, xpi, xnu, xtg, xse, xso, xnf, xrn, xre, xrl, xrd, xll, xlr) (nI t) (nI n) :=
  ⟨4, gx_kin hC hx hn 3 0 (some t) (by omega) hv hp⟩
theorem gx_nam (hC : gw_C D K P L) (hx : gx_C D P L xpt xlt) {post : Int32 → Prop} {s e f : Nat} (he : e < 100) (hf : f = 6 * s + e % 6) : ∀ d i o, i + d = 3 → gw_v D s o → ((∃ k, k < d ∧ gw_an P k o = some f) → post (nI f)) → ((¬ ∃ k, k < d ∧ gw_an P k o = some f) → post (-1)) → wX_namesake_5 post (nI e) xcu xar xrc xlc xde xpt xve xok xlt xty xpi xnu xtg xse xso xnf xrn xre xrl xrd xll xlr (d + 1) (gw_o o) (nI i) := by
  intro d
  induction d with
  | zero => intro i o h1 _ _ hp; exact br_t (nI_le (a := 3) (by omega) (by omega)) (hp (fun ⟨k, hk, _⟩ => by omega))
  | succ d ih =>
    intro i o h1 hv hp hq
    refine br_f (nI_ge (b := 3) (by omega) (by omega)) ?_
    cases o with
    | none => exact br_t rfl (hq (fun ⟨k, _, hk⟩ => by rw [gw_an_n] at hk; exact absurd hk (by simp)))
    | some t =>
      obtain ⟨a, b, c⟩ := hv t rfl
      have e1 : gw_o (some t) - gw_o (some t) / 6 * 6 = nI (t % 6) := gw_m6 (by omega)
      have e2 : nI e - nI e / 6 * 6 = nI (e % 6) := gw_m6 (by omega)
      refine br_f (gw_nm (by omega)) ⟨gw_6, gw_6, ek_if (d := t % 6 = e % 6) (by rw [e1, e2, nI_eq (by omega) (by omega)]) (fun h => ?_) (fun h => ?_)⟩
      · have hf' : t = f := by omega
        rw [← hf'] at hp
        exact hp ⟨0, by omega, rfl⟩
      · refine ⟨vp_in_nI a (by omega), nm_r (e' := gw_o (P t)) (by rw [show gw_o (some t) = nI t from rfl, nI_clamp (by omega)]; exact hx.1 t a c) (nm_r (nI_1 i) (ih (i + 1) (P t) (by omega) (gw_v_P hC hv) (fun ⟨k, h1, h2⟩ => hp ⟨k + 1, by omega, by rw [gw_an_s]; exact h2⟩) (fun hn => hq (fun ⟨k, h1, h2⟩ => ?_))))⟩
        cases k with
        | zero =>
          have h3 : some t = some f := h2
          injection h3 with h3
          omega
        | succ k => rw [gw_an_s] at h2; exact hn ⟨k, by omega, h2⟩
theorem gx_namesake (hC : gw_C D K P L) (hx : gx_C D P L xpt xlt) {post : Int32 → Prop} {s t e f : Nat} (he : e < 100) (hf : f = 6 * s + e % 6) (hv : gw_v D s (some t)) (h1 : gw_in P t f → post (nI f)) (h2 : ¬ gw_in P t f → post (-1)) : wpX_namesake post (xcu, xar, xrc, xlc, xde, xpt, xve, xok, xlt, xty, xpi, xnu, xtg, xse, xso, xnf, xrn, xre, xrl, xrd, xll, xlr) (nI t) (nI e) :=
  ⟨4, gx_nam hC hx he hf 3 0 (some t) (by omega) hv h1 h2⟩
end
/-! the reference -/
section
variable {ycu ydp ylm : Int32} {yde yve ypa yow yla ycl ypr ypi yar : Nat → Int32} {yva : Nat → Int64} {yfr yma ydo yro : Nat → Int32}
theorem gy_cha (hC : gw_C D K P L) (hy : gy_C D P L ypa yla) {post : Int32 → Prop} {s : Nat} : ∀ d i g o, i + d = g → g < 100 → gw_v D s o → post (gw_c (gw_an P d o)) → wY_chain_6 post (nI s) (nI g) ycu ydp ylm yde yve ypa yow yla ycl ypr ypi yar yva yfr yma ydo yro (d + 1) (gw_c o) (nI i) := by
  intro d
  induction d with
  | zero => intro i g o h1 h2 _ hp; exact br_t (nI_le (by omega) (by omega)) hp
  | succ d ih =>
    intro i g o h1 h2 hv hp
    refine br_f (nI_ge (by omega) (by omega)) ?_
    cases o with
    | none => exact br_t (by decide) (by rw [gw_an_n] at hp; exact hp)
    | some t =>
      obtain ⟨a, b, c⟩ := hv t rfl
      have e : 6 * nI s + gw_c (some t) = nI t := by rw [show gw_c (some t) = nI (t % 6) from rfl, gw_e2]; exact congrArg nI (by omega)
      refine br_f (gw_p0 (by omega)) ⟨by rw [e]; exact vp_in_nI a (by omega), nm_r (e' := gw_c (P t)) (by rw [e, nI_clamp (by omega)]; exact hy.1 t a c) (nm_r (nI_1 i) (ih (i + 1) g (P t) (by omega) h2 (gw_v_P hC hv) (by rw [← gw_an_s]; exact hp)))⟩
theorem gy_chain (hC : gw_C D K P L) (hy : gy_C D P L ypa yla) {post : Int32 → Prop} {s c k : Nat} (hk : k < 100) (hc : c < 6) (hv : gw_v D s (some (6 * s + c))) (hp : post (gw_c (gw_an P k (some (6 * s + c))))) : wpY_chain post (ycu, ydp, ylm, yde, yve, ypa, yow, yla, ycl, ypr, ypi, yar, yva, yfr, yma, ydo, yro) (nI s) (nI c) (nI k) :=
  ⟨k + 1, by
    have := gy_cha (post := post) (ycu := ycu) (ydp := ydp) (ylm := ylm) (yde := yde) (yve := yve) (yow := yow) (ycl := ycl) (ypr := ypr) (ypi := ypi) (yar := yar) (yva := yva) (yfr := yfr) (yma := yma) (ydo := ydo) (yro := yro) hC hy k 0 k (some (6 * s + c)) (by omega) hk hv hp
    rw [show gw_c (some (6 * s + c)) = nI c from congrArg nI (by omega)] at this
    exact this⟩
theorem gy_own {post : Int32 → Prop} {s c n : Nat} (hs : s < 2) (hc : c < 6) (hn : n < 10) (hp : post (yow (10 * (6 * s + c) + n))) : wpY_ownKind post (ycu, ydp, ylm, yde, yve, ypa, yow, yla, ycl, ypr, ypi, yar, yva, yfr, yma, ydo, yro) (nI s) (nI c) (nI n) := by
  have e := gw_e4 s c n
  refine ⟨by rw [e]; exact vp_in_nI (by omega) (by omega), ?_⟩
  rw [e, nI_clamp (by omega)]
  exact hp
theorem gy_inC (hC : gw_C D K P L) (hy : gy_C D P L ypa yla) {post : Int32 → Prop} {s c e f : Nat} (hs : s < 2) (hc : c < 6) (he : e < 100) (hf : f = 6 * s + e % 6) (hv : gw_v D s (some (6 * s + c))) : ∀ d i, i + d = 3 → ((∃ k, i ≤ k ∧ k < 3 ∧ gw_an P k (some (6 * s + c)) = some f) → post 1) → ((¬ ∃ k, i ≤ k ∧ k < 3 ∧ gw_an P k (some (6 * s + c)) = some f) → post 0) → wY_inChain_3 post (nI s) (nI c) (nI (e % 6)) ycu ydp ylm yde yve ypa yow yla ycl ypr ypi yar yva yfr yma ydo yro (d + 1) (nI i) := by
  intro d
  induction d with
  | zero => intro i h1 _ hq; exact br_t (nI_le (a := 3) (by omega) (by omega)) (hq (fun ⟨k, a, b, _⟩ => by omega))
  | succ d ih =>
    intro i h1 hp hq
    refine br_f (nI_ge (b := 3) (by omega) (by omega)) (br_f (gw_p0 (by omega)) (gy_chain hC hy (k := i) (by omega) hc hv ?_))
    have hva := gw_v_an hC i _ hv
    refine ek_if (d := gw_an P i (some (6 * s + c)) = some f) ?_ (fun h => hp ⟨i, by omega, by omega, h⟩) (fun h => nm_r (nI_1 i) (ih (i + 1) (by omega) (fun ⟨k, a, b, g⟩ => hp ⟨k, by omega, b, g⟩) (fun hn => hq (fun ⟨k, a, b, g⟩ => ?_))))
    · cases hk : gw_an P i (some (6 * s + c)) with
      | none => exact ⟨fun z => absurd z.symm (gw_nm (by omega)), fun z => absurd z (by simp)⟩
      | some a =>
        obtain ⟨h2, h3, _⟩ := hva a hk
        show nI (a % 6) = nI (e % 6) ↔ _
        rw [nI_eq (by omega) (by omega), Option.some.injEq]
        omega
    · rcases Nat.eq_or_lt_of_le a with h3 | h3
      · rw [← h3] at g; exact h g
      · exact hn ⟨k, h3, b, g⟩
theorem gy_inN {post : Int32 → Prop} {x1 x2 : Int32} (hq : post 0) : ∀ d i, i + d = 3 → wY_inChain_3 post x1 x2 (-1) ycu ydp ylm yde yve ypa yow yla ycl ypr ypi yar yva yfr yma ydo yro (d + 1) (nI i) := by
  intro d
  induction d with
  | zero => intro i h1; exact br_t (nI_le (a := 3) (by omega) (by omega)) hq
  | succ d ih =>
    intro i h1
    exact br_f (nI_ge (b := 3) (by omega) (by omega)) (br_t (by decide) (nm_r (nI_1 i) (ih (i + 1) (by omega))))
theorem gy_inChain (hC : gw_C D K P L) (hy : gy_C D P L ypa yla) {post : Int32 → Prop} {s c e f : Nat} (hs : s < 2) (hc : c < 6) (he : e < 100) (hf : f = 6 * s + e % 6) (hv : gw_v D s (some (6 * s + c))) (h1 : gw_in P (6 * s + c) f → post 1) (h2 : ¬ gw_in P (6 * s + c) f → post 0) : wpY_inChain post (ycu, ydp, ylm, yde, yve, ypa, yow, yla, ycl, ypr, ypi, yar, yva, yfr, yma, ydo, yro) (nI s) (nI c) (nI (e % 6)) :=
  ⟨4, gy_inC hC hy hs hc he hf hv 3 0 (by omega) (fun ⟨k, _, a, b⟩ => h1 ⟨k, a, b⟩) (fun h => h2 (fun ⟨k, a, b⟩ => h ⟨k, by omega, a, b⟩))⟩
theorem gy_inNone {post : Int32 → Prop} {x1 x2 : Int32} (h2 : post 0) : wpY_inChain post (ycu, ydp, ylm, yde, yve, ypa, yow, yla, ycl, ypr, ypi, yar, yva, yfr, yma, ydo, yro) x1 x2 (-1) := ⟨4, gy_inN h2 3 0 (by omega)⟩
theorem gy_kin (hC : gw_C D yow P L) (hy : gy_C D P L ypa yla) {post : Int32 → Prop} {s c n : Nat} (hs : s < 2) (hc : c < 6) (hn : n < 10) (hv : gw_v D s (some (6 * s + c))) : ∀ d i, i + d = 3 → post (gw_kf P yow n d (gw_an P i (some (6 * s + c)))) → wY_kind_15 post (nI s) (nI c) (nI n) ycu ydp ylm yde yve ypa yow yla ycl ypr ypi yar yva yfr yma ydo yro (d + 1) (nI i) := by
  intro d
  induction d with
  | zero => intro i h1 hp; exact br_t (nI_le (a := 3) (by omega) (by omega)) hp
  | succ d ih =>
    intro i h1 hp
    refine br_f (nI_ge (b := 3) (by omega) (by omega)) (gy_chain hC hy (k := i) (by omega) hc hv ?_)
    have hva := gw_v_an hC i _ hv
    cases hk : gw_an P i (some (6 * s + c)) with
    | none =>
      rw [hk] at hp
      exact br_t (by decide) (nm_r (nI_1 i) (ih (i + 1) (by omega) (by rw [gw_an_bn hk, gw_kf_n]; exact hp)))
    | some a =>
      rw [hk] at hp hva
      obtain ⟨h2, h3, h4⟩ := hva a rfl
      have ea : 6 * s + a % 6 = a := by omega
      have hp' : post (if yow (10 * a + n) = -1 then gw_kf P yow n d (P a) else yow (10 * a + n)) := hp
      refine br_f (gw_p0 (by omega)) (gy_own hs (by omega) hn ?_)
      rw [ea]
      by_cases h5 : yow (10 * a + n) = -1
      · rw [if_pos h5] at hp'
        exact br_t (by rw [h5]; decide) (nm_r (nI_1 i) (ih (i + 1) (by omega) (by rw [gw_an_b hk]; exact hp')))
      · rw [if_neg h5] at hp'
        obtain ⟨m, hm, em⟩ := hC.2.1 _ (by omega) h5
        exact br_f (by rw [em]; exact gw_p0 (by omega)) (gy_own hs (by omega) hn (by rw [ea]; exact hp'))
theorem gy_kind (hC : gw_C D yow P L) (hy : gy_C D P L ypa yla) {post : Int32 → Prop} {s c n : Nat} (hs : s < 2) (hc : c < 6) (hn : n < 10) (hv : gw_v D s (some (6 * s + c))) (hp : post (gw_kd P yow (6 * s + c) n)) : wpY_kind post (ycu, ydp, ylm, yde, yve, ypa, yow, yla, ycl, ypr, ypi, yar, yva, yfr, yma, ydo, yro) (nI s) (nI c) (nI n) :=
  br_f (gw_p0 (by omega)) (br_t (nI_le (b := 9) (by omega) (by omega)) ⟨4, gy_kin hC hy hs hc hn hv 3 0 (by omega) hp⟩)
theorem gy_kindN {post : Int32 → Prop} {x1 x2 p : Int32} (h : p < 0 ∨ nI 10 ≤ p) (hp : post (-1)) : wpY_kind post (ycu, ydp, ylm, yde, yve, ypa, yow, yla, ycl, ypr, ypi, yar, yva, yfr, yma, ydo, yro) x1 x2 p := by
  by_cases h0 : p < 0
  · exact br_t h0 hp
  · refine br_f h0 (br_f (fun h9 => ?_) hp)
    obtain ⟨j, hj, rfl⟩ := nI_of h0
    have h9' : nI j ≤ nI 9 := h9
    rw [nI_leI hj (by omega)] at h9'
    rcases h with h | h
    · exact h0 h
    · rw [nI_leI (by omega) hj] at h; omega
end
end
end
section
/-! objects: what both states hold of them; lookups -/
section
def gw_O (D : Nat → Int32) (P : Nat → Option Nat) (K : Nat → Int32) (C S T : Nat → Option Nat) (F : Nat → Int64) : Prop :=
  (∀ o, o < 32 → gw_v D (o / 16) (C o)) ∧
  (∀ o q, o < 32 → S o = some q → q < 32 ∧ q / 16 ≠ o / 16 ∧ C o ≠ none ∧ C q ≠ none) ∧
  (∀ o n t, o < 32 → n < 10 → C o = some t → (gw_kd P K t n ≠ 4 → T (10 * o + n) = none) ∧ (gw_kd P K t n = 4 → F (10 * o + n) = 0)) ∧
  (∀ o n z, o < 32 → n < 10 → C o ≠ none → T (10 * o + n) = some z → z < 32 ∧ z / 16 = o / 16 ∧ C z ≠ none)
def gx_t (C : Nat → Option Nat) (a : Nat → Int32) : Prop := (∀ o, o < 32 → a (gw_d o) = gw_o (C o)) ∧ ∀ i, 16 ≤ i → i < 32 → a i = -1
def gx_b (B : Nat → Int32) (a : Nat → Int32) : Prop := ∀ o, o < 32 → a (gw_d o) = B o
def gx_s (S : Nat → Option Nat) (a : Nat → Int32) : Prop := ∀ o, o < 32 → a (gw_d o) = gw_g (S o)
def gx_f (F : Nat → Int64) (a : Nat → Int64) : Prop := ∀ o n, o < 32 → n < 10 → a (10 * gw_d o + n) = F (10 * o + n)
def gx_g (T : Nat → Option Nat) (a : Nat → Int32) : Prop := ∀ o n, o < 32 → n < 10 → a (10 * gw_d o + n) = gw_g (T (10 * o + n))
def gy_t (C : Nat → Option Nat) (a : Nat → Int32) : Prop := ∀ o, o < 32 → a o = gw_c (C o)
def gy_s (S : Nat → Option Nat) (a : Nat → Int32) : Prop := ∀ o, o < 32 → a o = gw_o (S o)
def gy_b (B : Nat → Int32) (a : Nat → Int32) : Prop := ∀ o, o < 32 → a o = B o
def gy_v (P : Nat → Option Nat) (K : Nat → Int32) (C T : Nat → Option Nat) (F : Nat → Int64) (a : Nat → Int64) : Prop :=
  ∀ o n t, o < 32 → n < 10 → C o = some t → a (10 * o + n) = if gw_kd P K t n = 4 then (gw_o (T (10 * o + n))).toInt64 else F (10 * o + n)
def gx_R (D V K : Nat → Int32) (P L C S T : Nat → Option Nat) (B : Nat → Int32) (F : Nat → Int64) (cu : Option Nat) (u : SX) : Prop := match u with
  | (xcu, xar, xrc, xlc, xde, xpt, xve, xok, xlt, xty, xpi, xnu, xtg, xse, xso, xnf, xrn, xre, xrl, xrd, xll, xlr) => xde = D ∧ xve = V ∧ xok = K ∧ gx_C D P L xpt xlt ∧ gx_t C xty ∧ gx_b B xpi ∧ gx_f F xnu ∧ gx_g T xtg ∧ gx_s S xse ∧ xcu = gw_g cu
def gy_R (D V K : Nat → Int32) (P L C S T : Nat → Option Nat) (B : Nat → Int32) (F : Nat → Int64) (cu : Option Nat) (v : SY) : Prop := match v with
  | (ycu, ydp, ylm, yde, yve, ypa, yow, yla, ycl, ypr, ypi, yar, yva, yfr, yma, ydo, yro) => yde = D ∧ yve = V ∧ yow = K ∧ gy_C D P L ypa yla ∧ gy_t C ycl ∧ gy_b B ypi ∧ gy_v P K C T F yva ∧ gy_s S ypr ∧ ycu = gw_g cu
/-- the two states are pictures of one and the same classes and objects -/
def i_Rel (_ : Nat) (u : SX) (v : SY) : Prop :=
  ∃ D V K P L C S T B F cu, gw_C D K P L ∧ gw_O D P K C S T F ∧ gx_R D V K P L C S T B F cu u ∧ gy_R D V K P L C S T B F cu v
theorem i_up {k : Nat} {u : SX} {v : SY} (h : i_Rel k u v) : i_Rel (k + 5) u v := h
def gw_fg {α : Type} (a : Nat → α) (lo hi : Nat) (v : α) : Nat → α := fun i => if lo ≤ i ∧ i < hi then v else a i
theorem gw_fg_i {α : Type} {a : Nat → α} {lo hi i : Nat} {v : α} (h : lo ≤ i ∧ i < hi) : gw_fg a lo hi v i = v := if_pos h
theorem gw_fg_o {α : Type} {a : Nat → α} {lo hi i : Nat} {v : α} (h : ¬ (lo ≤ i ∧ i < hi)) : gw_fg a lo hi v i = a i := if_neg h
variable {D V K B : Nat → Int32} {P L C S T : Nat → Option Nat} {F : Nat → Int64} {cu : Option Nat}
/-! stores -/
theorem gx_t_u {a : Nat → Int32} (h : gx_t C a) {o : Nat} (ho : o < 32) (x : Option Nat) : gx_t (gw_u C o x) (upd a (gw_d o) (gw_o x)) := by
  refine ⟨fun p hp => ?_, fun i h1 h2 => ?_⟩
  · by_cases e : p = o
    · subst e; rw [pk_us, gw_us]
    · rw [pk_un (fun z => e (gw_dinj z)), gw_un e]; exact h.1 p hp
  · rw [pk_un (by unfold gw_d; omega)]; exact h.2 i h1 h2
theorem gx_b_u {a : Nat → Int32} (h : gx_b B a) {o : Nat} (x : Int32) : gx_b (gw_u B o x) (upd a (gw_d o) x) := fun p hp => by
  by_cases e : p = o
  · subst e; rw [pk_us, gw_us]
  · rw [pk_un (fun z => e (gw_dinj z)), gw_un e]; exact h p hp
theorem gx_s_u {a : Nat → Int32} (h : gx_s S a) {o : Nat} (x : Option Nat) : gx_s (gw_u S o x) (upd a (gw_d o) (gw_g x)) := fun p hp => by
  by_cases e : p = o
  · subst e; rw [pk_us, gw_us]
  · rw [pk_un (fun z => e (gw_dinj z)), gw_un e]; exact h p hp
theorem gx_f_u {a : Nat → Int64} (h : gx_f F a) {o n : Nat} (hn : n < 10) (x : Int64) : gx_f (gw_u F (10 * o + n) x) (vp_updL a (10 * gw_d o + n) x) := fun p m hp hm => by
  by_cases e : 10 * p + m = 10 * o + n
  · rw [e, gw_us, show 10 * gw_d p + m = 10 * gw_d o + n by unfold gw_d; omega, pk_uLs]
  · rw [gw_un e, pk_uLn (by unfold gw_d; omega)]; exact h p m hp hm
theorem gx_g_u {a : Nat → Int32} (h : gx_g T a) {o n : Nat} (hn : n < 10) (x : Option Nat) : gx_g (gw_u T (10 * o + n) x) (upd a (10 * gw_d o + n) (gw_g x)) := fun p m hp hm => by
  by_cases e : 10 * p + m = 10 * o + n
  · rw [e, gw_us, show 10 * gw_d p + m = 10 * gw_d o + n by unfold gw_d; omega, pk_us]
  · rw [gw_un e, pk_un (by unfold gw_d; omega)]; exact h p m hp hm
theorem gx_f_z {a : Nat → Int64} (h : gx_f F a) {o : Nat} (x : Int64) : gx_f (gw_fg F (10 * o) (10 * o + 10) x) (gw_fL a (10 * gw_d o) (10 * gw_d o + 10) x) := fun p m hp hm => by
  by_cases e : p = o
  · rw [gw_fg_i (by omega), gw_fL_i (by rw [e]; omega)]
  · rw [gw_fg_o (by omega), gw_fL_o (by unfold gw_d; omega)]; exact h p m hp hm
theorem gx_g_z {a : Nat → Int32} (h : gx_g T a) {o : Nat} (x : Option Nat) : gx_g (gw_fg T (10 * o) (10 * o + 10) x) (gw_fi a (10 * gw_d o) (10 * gw_d o + 10) (gw_g x)) := fun p m hp hm => by
  by_cases e : p = o
  · rw [gw_fg_i (by omega), gw_fi_i (by rw [e]; omega)]
  · rw [gw_fg_o (by omega), gw_fi_o (by unfold gw_d; omega)]; exact h p m hp hm
theorem gy_t_u {a : Nat → Int32} (h : gy_t C a) {o : Nat} (x : Option Nat) : gy_t (gw_u C o x) (upd a o (gw_c x)) := fun p hp => by
  by_cases e : p = o
  · subst e; rw [pk_us, gw_us]
  · rw [pk_un e, gw_un e]; exact h p hp
theorem gy_s_u {a : Nat → Int32} (h : gy_s S a) {o : Nat} (x : Option Nat) : gy_s (gw_u S o x) (upd a o (gw_o x)) := fun p hp => by
  by_cases e : p = o
  · subst e; rw [pk_us, gw_us]
  · rw [pk_un e, gw_un e]; exact h p hp
theorem gy_b_u {a : Nat → Int32} (h : gy_b B a) {o : Nat} (x : Int32) : gy_b (gw_u B o x) (upd a o x) := fun p hp => by
  by_cases e : p = o
  · subst e; rw [pk_us, gw_us]
  · rw [pk_un e, gw_un e]; exact h p hp
/-- a number or a target stored -/
theorem gy_v_f {a : Nat → Int64} (h : gy_v P K C T F a) {o n t : Nat} (hn : n < 10) (hC : C o = some t) (hk : gw_kd P K t n ≠ 4) (x : Int64) : gy_v P K C T (gw_u F (10 * o + n) x) (vp_updL a (10 * o + n) x) := fun p m r hp hm hr => by
  by_cases e : 10 * p + m = 10 * o + n
  · have e1 : p = o := by omega
    have e2 : m = n := by omega
    subst e1 e2
    rw [hC] at hr
    cases hr
    rw [gw_us, pk_uLs, if_neg hk]
  · rw [gw_un e, pk_uLn e]; exact h p m r hp hm hr
theorem gy_v_g {a : Nat → Int64} (h : gy_v P K C T F a) {o n t : Nat} (hn : n < 10) (hC : C o = some t) (hk : gw_kd P K t n = 4) (x : Option Nat) : gy_v P K C (gw_u T (10 * o + n) x) F (vp_updL a (10 * o + n) (gw_o x).toInt64) := fun p m r hp hm hr => by
  by_cases e : 10 * p + m = 10 * o + n
  · have e1 : p = o := by omega
    have e2 : m = n := by omega
    subst e1 e2
    rw [hC] at hr
    cases hr
    rw [gw_us, pk_uLs, if_pos hk]
  · rw [gw_un e, pk_uLn e]; exact h p m r hp hm hr
/-! objects by their ID -/
theorem gw_obj (C : Nat → Option Nat) (x : Int32) : (∃ o t, o < 32 ∧ C o = some t ∧ x = nI (gw_d o)) ∨ (∀ o t, o < 32 → C o = some t → x ≠ nI (gw_d o)) := by
  by_cases h : ∃ o t, o < 32 ∧ C o = some t ∧ x = nI (gw_d o)
  · exact Or.inl h
  · exact Or.inr (fun o t a b c => h ⟨o, t, a, b, c⟩)
theorem gw_nam (x : Int32) : (∃ n, n < 10 ∧ x = nI n) ∨ (x < 0 ∨ nI 10 ≤ x) := by
  rcases pk_ix x (n := 10) (by omega) with h | h | h
  · exact Or.inr (Or.inl h)
  · exact Or.inr (Or.inr h)
  · exact Or.inl h
theorem gw_sid (x : Int32) : (∃ s, s < 2 ∧ x = nI s) ∨ (x < 0 ∨ nI 2 ≤ x) := by
  rcases pk_ix x (n := 2) (by omega) with h | h | h
  · exact Or.inr (Or.inl h)
  · exact Or.inr (Or.inr h)
  · exact Or.inl h
theorem gw_cls (x : Int32) : (∃ s, s < 6 ∧ x = nI s) ∨ (x < 0 ∨ nI 6 ≤ x) := by
  rcases pk_ix x (n := 6) (by omega) with h | h | h
  · exact Or.inr (Or.inl h)
  · exact Or.inr (Or.inr h)
  · exact Or.inl h
/-- which object is to be made next -/
def gw_ff (C : Nat → Option Nat) : Nat → Nat → Option Nat
  | 0, _ => none
  | d + 1, o => match C o with
    | none => some o
    | some _ => gw_ff C d (o + 1)
def gw_fr (C : Nat → Option Nat) (s : Nat) : Option Nat := gw_ff C 16 (16 * s)
theorem gw_ff_p : ∀ d o q, gw_ff C d o = some q → o ≤ q ∧ q < o + d ∧ C q = none := by
  intro d
  induction d with
  | zero => intro o q h; exact absurd h (by simp [gw_ff])
  | succ d ih =>
    intro o q h
    unfold gw_ff at h
    cases hc : C o with
    | none => rw [hc] at h; injection h with h; subst h; exact ⟨by omega, by omega, hc⟩
    | some t => rw [hc] at h; obtain ⟨a, b, c⟩ := ih (o + 1) q h; exact ⟨by omega, by omega, c⟩
theorem gw_fr_p {s q : Nat} (h : gw_fr C s = some q) : 16 * s ≤ q ∧ q < 16 * s + 16 ∧ C q = none := gw_ff_p 16 _ q h
/-! the component's lookups -/
section
variable {xcu xar xrc xlc : Int32} {xde xpt xve xok xlt xty xpi : Nat → Int32} {xnu : Nat → Int64} {xtg xse xso xnf xrn xre xrl xrd xll xlr : Nat → Int32}
theorem gx_isSide1 {post : Int32 → Prop} {u : SX} {s : Nat} (hs : s < 2) (hp : post 1) : wpX_isSide post u (nI s) := by
  obtain ⟨xcu, xar, xrc, xlc, xde, xpt, xve, xok, xlt, xty, xpi, xnu, xtg, xse, xso, xnf, xrn, xre, xrl, xrd, xll, xlr⟩ := u
  exact br_f (gw_p0 (by omega)) (br_f (nI_ge (b := 2) hs (by omega)) hp)
theorem gx_isSide0 {post : Int32 → Prop} {u : SX} {p : Int32} (h : p < 0 ∨ nI 2 ≤ p) (hp : post 0) : wpX_isSide post u p := by
  obtain ⟨xcu, xar, xrc, xlc, xde, xpt, xve, xok, xlt, xty, xpi, xnu, xtg, xse, xso, xnf, xrn, xre, xrl, xrd, xll, xlr⟩ := u
  exact br_c (fun _ => hp) (fun h0 => br_c (fun _ => hp) (fun h2 => (h.elim h0 h2).elim))
theorem gx_name1 {post : Int32 → Prop} {u : SX} {s : Nat} (hs : s < 10) (hp : post 1) : wpX_isFieldName post u (nI s) := by
  obtain ⟨xcu, xar, xrc, xlc, xde, xpt, xve, xok, xlt, xty, xpi, xnu, xtg, xse, xso, xnf, xrn, xre, xrl, xrd, xll, xlr⟩ := u
  exact br_f (gw_p0 (by omega)) (br_f (nI_ge (b := 10) hs (by omega)) hp)
theorem gx_name0 {post : Int32 → Prop} {u : SX} {p : Int32} (h : p < 0 ∨ nI 10 ≤ p) (hp : post 0) : wpX_isFieldName post u p := by
  obtain ⟨xcu, xar, xrc, xlc, xde, xpt, xve, xok, xlt, xty, xpi, xnu, xtg, xse, xso, xnf, xrn, xre, xrl, xrd, xll, xlr⟩ := u
  exact br_c (fun _ => hp) (fun h0 => br_c (fun _ => hp) (fun h2 => (h.elim h0 h2).elim))
theorem gx_class {post : Int32 → Prop} {s c : Nat} (hs : s < 2) (hc : c < 6) (h0 : xde (6 * s + c) = 0 → post 0) (h1 : ¬ xde (6 * s + c) = 0 → post 1) : wpX_isClass post (xcu, xar, xrc, xlc, xde, xpt, xve, xok, xlt, xty, xpi, xnu, xtg, xse, xso, xnf, xrn, xre, xrl, xrd, xll, xlr) (nI s) (nI c) := by
  have e := gw_e1 s c
  refine br_f (gw_p0 (by omega)) (br_f (nI_ge (b := 6) hc (by omega)) ⟨by rw [e]; exact vp_in_nI (by omega) (by omega), ?_⟩)
  rw [e, nI_clamp (by omega)]
  exact ⟨h0, h1⟩
theorem gx_class0 {post : Int32 → Prop} {u : SX} {q p : Int32} (h : p < 0 ∨ nI 6 ≤ p) (hp : post 0) : wpX_isClass post u q p := by
  obtain ⟨xcu, xar, xrc, xlc, xde, xpt, xve, xok, xlt, xty, xpi, xnu, xtg, xse, xso, xnf, xrn, xre, xrl, xrd, xll, xlr⟩ := u
  exact br_c (fun _ => hp) (fun h0 => br_c (fun _ => hp) (fun h2 => (h.elim h0 h2).elim))
theorem gx_obj1 (ht : gx_t C xty) {post : Int32 → Prop} {o t : Nat} (ho : o < 32) (hC : C o = some t) (h12 : t < 12) (hp : post 1) : wpX_isObject post (xcu, xar, xrc, xlc, xde, xpt, xve, xok, xlt, xty, xpi, xnu, xtg, xse, xso, xnf, xrn, xre, xrl, xrd, xll, xlr) (nI (gw_d o)) := by
  have hd := gw_dlt ho
  refine br_f (gw_p0 (by omega)) (br_f (nI_ge (b := 48) hd (by omega)) ⟨vp_in_nI hd (by omega), br_f ?_ hp⟩)
  rw [nI_clamp (by omega), ht.1 o ho, hC]
  exact gw_nm (by omega)
theorem gx_obj0 (ht : gx_t C xty) {post : Int32 → Prop} {p : Int32} (h : ∀ o t, o < 32 → C o = some t → p ≠ nI (gw_d o)) (hp : post 0) : wpX_isObject post (xcu, xar, xrc, xlc, xde, xpt, xve, xok, xlt, xty, xpi, xnu, xtg, xse, xso, xnf, xrn, xre, xrl, xrd, xll, xlr) p := by
  refine br_c (fun _ => hp) (fun h0 => br_c (fun _ => hp) (fun h1 => ?_))
  obtain ⟨j, hj, rfl⟩ := nI_of h0
  have h48 : j < 48 := by
    rcases Nat.lt_or_ge j 48 with z | z
    · exact z
    · exact absurd (nI_le (a := 48) z hj) h1
  refine ⟨vp_in_nI h48 (by omega), br_t ?_ hp⟩
  rw [nI_clamp hj]
  by_cases hm : 16 ≤ j ∧ j < 32
  · exact ht.2 j hm.1 hm.2
  · have ed : gw_d (j - j / 32 * 16) = j := by unfold gw_d; omega
    have := ht.1 (j - j / 32 * 16) (by omega)
    rw [ed] at this
    rw [this]
    cases hc : C (j - j / 32 * 16) with
    | none => rfl
    | some t => exact absurd (congrArg nI ed.symm) (h _ t (by omega) hc)
theorem gx_hasNum (hC : gw_C D xok P L) (hx : gx_C D P L xpt xlt) (ht : gx_t C xty) {post : Int32 → Prop} {o t n : Nat} (ho : o < 32) (hCo : C o = some t) (hv : gw_v D (o / 16) (some t)) (hn : n < 10) (h0 : gw_kd P xok t n = -1 ∨ gw_kd P xok t n = 4 → post 0) (h1 : gw_kd P xok t n ≠ -1 → gw_kd P xok t n ≠ 4 → post 1) : wpX_hasNumber post (xcu, xar, xrc, xlc, xde, xpt, xve, xok, xlt, xty, xpi, xnu, xtg, xse, xso, xnf, xrn, xre, xrl, xrd, xll, xlr) (nI (gw_d o)) (nI n) := by
  have h12 := (hv t rfl).1
  have hd := gw_dlt ho
  unfold wpX_hasNumber; dsimp only
  refine gx_obj1 ht ho hCo h12 (br_f (by decide) (gx_name1 hn (br_f (by decide) ⟨vp_in_nI hd (by omega), ?_⟩)))
  rw [nI_clamp (by omega), ht.1 o ho, hCo]
  exact gx_kind hC hx hn hv (br_c (fun h => h0 (Or.inl h)) (fun h => br_c (fun g => h0 (Or.inr g)) (fun g => h1 h g)))
theorem gx_hasNum0 (ht : gx_t C xty) {post : Int32 → Prop} {p q : Int32} (h : ∀ o t, o < 32 → C o = some t → p ≠ nI (gw_d o)) (hp : post 0) : wpX_hasNumber post (xcu, xar, xrc, xlc, xde, xpt, xve, xok, xlt, xty, xpi, xnu, xtg, xse, xso, xnf, xrn, xre, xrl, xrd, xll, xlr) p q := by
  unfold wpX_hasNumber; dsimp only
  exact gx_obj0 ht h (br_t rfl hp)
theorem gx_hasNumN (ht : gx_t C xty) {post : Int32 → Prop} {o t : Nat} {q : Int32} (ho : o < 32) (hC : C o = some t) (h12 : t < 12) (h : q < 0 ∨ nI 10 ≤ q) (hp : post 0) : wpX_hasNumber post (xcu, xar, xrc, xlc, xde, xpt, xve, xok, xlt, xty, xpi, xnu, xtg, xse, xso, xnf, xrn, xre, xrl, xrd, xll, xlr) (nI (gw_d o)) q := by
  unfold wpX_hasNumber; dsimp only
  exact gx_obj1 ht ho hC h12 (br_f (by decide) (gx_name0 h (br_t rfl hp)))
theorem gx_hasRef (hC : gw_C D xok P L) (hx : gx_C D P L xpt xlt) (ht : gx_t C xty) {post : Int32 → Prop} {o t n : Nat} (ho : o < 32) (hCo : C o = some t) (hv : gw_v D (o / 16) (some t)) (hn : n < 10) (h0 : gw_kd P xok t n ≠ 4 → post 0) (h1 : gw_kd P xok t n = 4 → post 1) : wpX_hasReference post (xcu, xar, xrc, xlc, xde, xpt, xve, xok, xlt, xty, xpi, xnu, xtg, xse, xso, xnf, xrn, xre, xrl, xrd, xll, xlr) (nI (gw_d o)) (nI n) := by
  have h12 := (hv t rfl).1
  have hd := gw_dlt ho
  unfold wpX_hasReference; dsimp only
  refine gx_obj1 ht ho hCo h12 (br_f (by decide) (gx_name1 hn (br_f (by decide) ⟨vp_in_nI hd (by omega), ?_⟩)))
  rw [nI_clamp (by omega), ht.1 o ho, hCo]
  exact gx_kind hC hx hn hv (br_c h1 h0)
theorem gx_hasRef0 (ht : gx_t C xty) {post : Int32 → Prop} {p q : Int32} (h : ∀ o t, o < 32 → C o = some t → p ≠ nI (gw_d o)) (hp : post 0) : wpX_hasReference post (xcu, xar, xrc, xlc, xde, xpt, xve, xok, xlt, xty, xpi, xnu, xtg, xse, xso, xnf, xrn, xre, xrl, xrd, xll, xlr) p q := by
  unfold wpX_hasReference; dsimp only
  exact gx_obj0 ht h (br_t rfl hp)
theorem gx_hasRefN (ht : gx_t C xty) {post : Int32 → Prop} {o t : Nat} {q : Int32} (ho : o < 32) (hC : C o = some t) (h12 : t < 12) (h : q < 0 ∨ nI 10 ≤ q) (hp : post 0) : wpX_hasReference post (xcu, xar, xrc, xlc, xde, xpt, xve, xok, xlt, xty, xpi, xnu, xtg, xse, xso, xnf, xrn, xre, xrl, xrd, xll, xlr) (nI (gw_d o)) q := by
  unfold wpX_hasReference; dsimp only
  exact gx_obj1 ht ho hC h12 (br_f (by decide) (gx_name0 h (br_t rfl hp)))
theorem gx_lf (hv : ∀ o, o < 32 → gw_v D (o / 16) (C o)) (ht : gx_t C xty) {post : Int32 → Prop} {s : Nat} (hs : s < 2) : ∀ d j, j + d = 16 → post (gw_g (gw_ff C d (16 * s + j))) → wX_leastFree_2 post (nI s) xcu xar xrc xlc xde xpt xve xok xlt xty xpi xnu xtg xse xso xnf xrn xre xrl xrd xll xlr (d + 1) (nI j) := by
  intro d
  induction d with
  | zero => intro j h1 hp; exact br_t (nI_le (a := 16) (by omega) (by omega)) hp
  | succ d ih =>
    intro j h1 hp
    have e := gw_e5 s j
    have ed : gw_d (16 * s + j) = 32 * s + j := gw_d1 (by omega)
    refine br_f (nI_ge (b := 16) (by omega) (by omega)) ⟨by rw [e]; exact vp_in_nI (by omega) (by omega), ?_⟩
    rw [e, nI_clamp (by omega), ← ed, ht.1 _ (by omega)]
    unfold gw_ff at hp
    cases hc : C (16 * s + j) with
    | none => rw [hc] at hp; exact br_t rfl hp
    | some t =>
      rw [hc] at hp
      have := hv (16 * s + j) (by omega) t hc
      exact br_f (gw_nm (by omega)) (nm_r (nI_1 j) (ih (j + 1) (by omega) hp))
theorem gx_free (hv : ∀ o, o < 32 → gw_v D (o / 16) (C o)) (ht : gx_t C xty) {post : Int32 → Prop} {s : Nat} (hs : s < 2) (hp : post (gw_g (gw_fr C s))) : wpX_leastFree post (xcu, xar, xrc, xlc, xde, xpt, xve, xok, xlt, xty, xpi, xnu, xtg, xse, xso, xnf, xrn, xre, xrl, xrd, xll, xlr) (nI s) :=
  ⟨17, gx_lf hv ht hs 16 0 (by omega) hp⟩
theorem gx_pl {post : SX → Prop} {q : Nat} (hq : q < 48) : ∀ d j xnu xtg, j + d = 10 → post (xcu, xar, xrc, xlc, xde, xpt, xve, xok, xlt, xty, xpi, gw_fL xnu (10 * q + j) (10 * q + 10) 0, gw_fi xtg (10 * q + j) (10 * q + 10) (-1), xse, xso, xnf, xrn, xre, xrl, xrd, xll, xlr) → wX_placeObject_23 post (nI q) xcu xar xrc xlc (d + 1) (nI j) xde xpt xve xok xlt xty xpi xnu xtg xse xso xnf xrn xre xrl xrd xll xlr := by
  intro d
  induction d with
  | zero =>
    intro j xnu xtg h1 hp
    rw [gw_fL_e (by omega), gw_fi_e (by omega)] at hp
    exact br_t (nI_le (a := 10) (by omega) (by omega)) hp
  | succ d ih =>
    intro j xnu xtg h1 hp
    have e := gw_e3 q j
    have e2 : (nI q * 10 + nI j).toNatClampNeg = 10 * q + j := by rw [e, nI_clamp (by omega)]
    have hi : vp_in (nI q * 10 + nI j) 480 := by rw [e]; exact vp_in_nI (by omega) (by omega)
    refine br_f (nI_ge (b := 10) (by omega) (by omega)) ⟨hi, nm_r (by rw [e2]) ⟨hi, nm_r (by rw [e2]) (nm_r (nI_1 j) (ih (j + 1) _ _ (by omega) ?_))⟩⟩
    rw [show 10 * q + (j + 1) = 10 * q + j + 1 from rfl, gw_fL_s (by omega), gw_fi_s (by omega)]
    exact hp
theorem gx_place {post : SX → Prop} {q : Nat} {x : Int32} (hq : q < 48) (hp : post (xcu, xar, xrc, xlc, xde, xpt, xve, xok, xlt, upd xty q x, upd xpi q 0, gw_fL xnu (10 * q) (10 * q + 10) 0, gw_fi xtg (10 * q) (10 * q + 10) (-1), upd xse q (-1), xso, xnf, xrn, xre, xrl, xrd, xll, xlr)) : wpX_placeObject post (xcu, xar, xrc, xlc, xde, xpt, xve, xok, xlt, xty, xpi, xnu, xtg, xse, xso, xnf, xrn, xre, xrl, xrd, xll, xlr) (nI q) x := by
  have hi : vp_in (nI q) 48 := vp_in_nI hq (by omega)
  have e : (nI q).toNatClampNeg = q := nI_clamp (by omega)
  exact ⟨hi, nm_r (by rw [e]) ⟨hi, nm_r (by rw [e, gw_n0]) ⟨hi, nm_r (by rw [e]) ⟨11, gx_pl hq 10 0 _ _ (by omega) hp⟩⟩⟩⟩
theorem gx_em {post : SX → Prop} {s : Nat} (hs : s < 2) : ∀ d j xse, j + d = 16 → post (xcu, xar, xrc, xlc, xde, xpt, xve, xok, xlt, xty, xpi, xnu, xtg, gw_fi xse (32 * s + j) (32 * s + 16) (-1), xso, xnf, xrn, xre, xrl, xrd, xll, xlr) → wX_emptySession_2 post (nI s) xcu xar xrc xlc (d + 1) (nI j) xde xpt xve xok xlt xty xpi xnu xtg xse xso xnf xrn xre xrl xrd xll xlr := by
  intro d
  induction d with
  | zero =>
    intro j xse h1 hp
    rw [gw_fi_e (by omega)] at hp
    exact br_t (nI_le (a := 16) (by omega) (by omega)) hp
  | succ d ih =>
    intro j xse h1 hp
    have e := gw_e5 s j
    refine br_f (nI_ge (b := 16) (by omega) (by omega)) ⟨by rw [e]; exact vp_in_nI (by omega) (by omega), nm_r (by rw [e, nI_clamp (by omega)]) (nm_r (nI_1 j) (ih (j + 1) _ (by omega) ?_))⟩
    rw [show 32 * s + (j + 1) = 32 * s + j + 1 from rfl, gw_fi_s (by omega)]
    exact hp
theorem gx_empty {post : SX → Prop} {s : Nat} (hs : s < 2) (hp : post (xcu, xar, xrc, xlc, xde, xpt, xve, xok, xlt, xty, xpi, xnu, xtg, gw_fi xse (32 * s) (32 * s + 16) (-1), xso, xnf, xrn, xre, xrl, xrd, xll, xlr)) : wpX_emptySession post (xcu, xar, xrc, xlc, xde, xpt, xve, xok, xlt, xty, xpi, xnu, xtg, xse, xso, xnf, xrn, xre, xrl, xrd, xll, xlr) (nI s) :=
  ⟨17, gx_em hs 16 0 _ (by omega) hp⟩
end
/-! the reference's lookups -/
section
variable {ycu ydp ylm : Int32} {yde yve ypa yow yla ycl ypr ypi yar : Nat → Int32} {yva : Nat → Int64} {yfr yma ydo yro : Nat → Int32}
theorem gy_side1 {post : Int32 → Prop} {u : SY} {s : Nat} (hs : s < 2) (hp : post 1) : wpY_side post u (nI s) := by
  obtain ⟨ycu, ydp, ylm, yde, yve, ypa, yow, yla, ycl, ypr, ypi, yar, yva, yfr, yma, ydo, yro⟩ := u
  by_cases h : s = 0
  · subst h; exact br_t rfl hp
  · have : s = 1 := by omega
    subst this
    exact br_f (by decide) (br_t rfl hp)
theorem gy_side0 {post : Int32 → Prop} {u : SY} {p : Int32} (h : p < 0 ∨ nI 2 ≤ p) (hp : post 0) : wpY_side post u p := by
  obtain ⟨ycu, ydp, ylm, yde, yve, ypa, yow, yla, ycl, ypr, ypi, yar, yva, yfr, yma, ydo, yro⟩ := u
  exact br_f (fun e => by subst e; exact absurd h (by decide)) (br_f (fun e => by subst e; exact absurd h (by decide)) hp)
theorem gy_obj1 (ht : gy_t C ycl) {post : Int32 → Prop} {o t : Nat} (ho : o < 32) (hC : C o = some t) (hp : post (nI o)) : wpY_object post (ycu, ydp, ylm, yde, yve, ypa, yow, yla, ycl, ypr, ypi, yar, yva, yfr, yma, ydo, yro) (nI (gw_d o)) := by
  have hd := gw_dlt ho
  have e1 : nI (gw_d o) - nI (gw_d o) / 32 * 32 = nI (o % 16) := by rw [gw_m32 (by omega), gw_dm]
  have e2 : nI (gw_d o) / 32 * 16 + (nI (gw_d o) - nI (gw_d o) / 32 * 32) = nI o := by rw [gw_ob (by omega)]; exact congrArg nI (by unfold gw_d; omega)
  refine br_f (gw_p0 (by omega)) (br_f (nI_nlt (b := 47) (a := 47) (by omega) (by omega) |> fun _ => ?_) ⟨gw_32, br_t ?_ ⟨gw_32, gw_32, nm_r e2 ⟨vp_in_nI ho (by omega), br_t ?_ hp⟩⟩⟩)
  · exact nI_nlt (a := 47) (b := gw_d o) (by omega) (by omega)
  · rw [e1]; exact nI_le (b := 15) (by omega) (by omega)
  · rw [nI_clamp (by omega), ht o ho, hC]; exact nI_pos' (by omega)
theorem gy_obj0 (ht : gy_t C ycl) {post : Int32 → Prop} {p : Int32} (h : ∀ o t, o < 32 → C o = some t → p ≠ nI (gw_d o)) (hp : post (-1)) : wpY_object post (ycu, ydp, ylm, yde, yve, ypa, yow, yla, ycl, ypr, ypi, yar, yva, yfr, yma, ydo, yro) p := by
  refine br_c (fun _ => hp) (fun h0 => br_c (fun _ => hp) (fun h1 => ?_))
  obtain ⟨j, hj, rfl⟩ := nI_of h0
  have h48 : j < 48 := by
    rcases Nat.lt_or_ge j 48 with z | z
    · exact z
    · exact absurd (nI_lt (a := 47) (b := j) (by omega) hj) h1
  have e1 : nI j - nI j / 32 * 32 = nI (j % 32) := gw_m32 (by omega)
  refine ⟨gw_32, br_c (fun h2 => ⟨gw_32, gw_32, nm_r (gw_ob (by omega)) ?_⟩) (fun _ => hp)⟩
  rw [e1] at h2
  have h3 : nI (j % 32) ≤ nI 15 := h2
  rw [nI_leI (by omega) (by omega)] at h3
  refine ⟨vp_in_nI (by omega) (by omega), br_f ?_ hp⟩
  rw [nI_clamp (by omega), ht _ (by omega)]
  cases hc : C (16 * (j / 32) + j % 32) with
  | none => decide
  | some t => exact absurd (congrArg nI (by unfold gw_d; omega)) (h _ t (by omega) hc)
theorem gy_m1 {post : Int32 → Prop} {u : SY} (hp : post (-1)) : wpY_object post u (-1) := by
  obtain ⟨ycu, ydp, ylm, yde, yve, ypa, yow, yla, ycl, ypr, ypi, yar, yva, yfr, yma, ydo, yro⟩ := u
  exact br_t (by decide) hp
theorem gy_id {post : Int32 → Prop} {u : SY} {o : Nat} (ho : o < 32) (hp : post (nI (gw_d o))) : wpY_id post u (nI o) := by
  obtain ⟨ycu, ydp, ylm, yde, yve, ypa, yow, yla, ycl, ypr, ypi, yar, yva, yfr, yma, ydo, yro⟩ := u
  refine ⟨gw_16, gw_16, ?_⟩
  rw [gw_id (by omega)]
  exact hp
theorem gy_kindOf (hC : gw_C D yow P L) (hy : gy_C D P L ypa yla) (ht : gy_t C ycl) {post : Int32 → Prop} {o t n : Nat} (ho : o < 32) (hCo : C o = some t) (hv : gw_v D (o / 16) (some t)) (hn : n < 10) (hp : post (gw_kd P yow t n)) : wpY_kindOf post (ycu, ydp, ylm, yde, yve, ypa, yow, yla, ycl, ypr, ypi, yar, yva, yfr, yma, ydo, yro) (nI o) (nI n) := by
  obtain ⟨h1, h2, _⟩ := hv t rfl
  have et : 6 * (o / 16) + t % 6 = t := by omega
  refine br_t (nI_pos' (by omega)) ⟨gw_16, vp_in_nI ho (by omega), ?_⟩
  rw [nI_clamp (by omega), ht o ho, hCo, gw_q16 (by omega)]
  exact gy_kind hC hy (by omega) (by omega) hn (by rw [et]; exact hv) (by rw [et]; exact hp)
theorem gy_kindOf0 {post : Int32 → Prop} {u : SY} {q : Int32} (hp : post (-1)) : wpY_kindOf post u (-1) q := by
  obtain ⟨ycu, ydp, ylm, yde, yve, ypa, yow, yla, ycl, ypr, ypi, yar, yva, yfr, yma, ydo, yro⟩ := u
  exact br_f (by decide) hp
theorem gy_kindOfN {post : Int32 → Prop} {o : Nat} {q : Int32} (ho : o < 32) (h : q < 0 ∨ nI 10 ≤ q) (hp : post (-1)) : wpY_kindOf post (ycu, ydp, ylm, yde, yve, ypa, yow, yla, ycl, ypr, ypi, yar, yva, yfr, yma, ydo, yro) (nI o) q :=
  br_t (nI_pos' (by omega)) ⟨gw_16, vp_in_nI ho (by omega), gy_kindN h hp⟩
theorem gy_lf (hv : ∀ o, o < 32 → gw_v D (o / 16) (C o)) (ht : gy_t C ycl) {post : Int32 → Prop} {s : Nat} (hs : s < 2) : ∀ d j, j + d = 16 → post (gw_o (gw_ff C d (16 * s + j))) → wY_free_5 post (nI s) ycu ydp ylm yde yve ypa yow yla ycl ypr ypi yar yva yfr yma ydo yro (d + 1) (nI (16 * s + j)) := by
  intro d
  have e16 := gw_e6b s
  induction d with
  | zero => intro j h1 hp; exact br_t (by rw [e16]; exact nI_le (by omega) (by omega)) hp
  | succ d ih =>
    intro j h1 hp
    refine br_f (by rw [e16]; exact nI_ge (by omega) (by omega)) ⟨vp_in_nI (by omega) (by omega), ?_⟩
    rw [nI_clamp (by omega), ht _ (by omega)]
    unfold gw_ff at hp
    cases hc : C (16 * s + j) with
    | none => rw [hc] at hp; exact br_f (by decide) hp
    | some t =>
      rw [hc] at hp
      exact br_t (nI_pos' (by omega)) (nm_r (nI_1 _) (ih (j + 1) (by omega) hp))
theorem gy_free (hv : ∀ o, o < 32 → gw_v D (o / 16) (C o)) (ht : gy_t C ycl) {post : Int32 → Prop} {s : Nat} (hs : s < 2) (hp : post (gw_o (gw_fr C s))) : wpY_free post (ycu, ydp, ylm, yde, yve, ypa, yow, yla, ycl, ypr, ypi, yar, yva, yfr, yma, ydo, yro) (nI s) :=
  nm_r (gw_e6 s) ⟨17, gy_lf hv ht hs 16 0 (by omega) hp⟩
/-- the values of a new object -/
def gw_cv (P : Nat → Option Nat) (K : Nat → Int32) (t : Nat) (a : Nat → Int64) (o j : Nat) : Nat → Int64 := fun i => if 10 * o + j ≤ i ∧ i < 10 * o + 10 then (if gw_kd P K t (i - 10 * o) = 4 then -1 else 0) else a i
theorem gw_cv_e {t o : Nat} {a : Nat → Int64} : gw_cv P K t a o 10 = a := funext fun i => if_neg (by omega)
theorem gw_cv_s {t o j : Nat} {a : Nat → Int64} (hj : j < 10) : gw_cv P K t (vp_updL a (10 * o + j) (if gw_kd P K t j = 4 then -1 else 0)) o (j + 1) = gw_cv P K t a o j := funext fun i => by
  unfold gw_cv vp_updL
  by_cases h1 : i = 10 * o + j
  · have n1 : ¬ (10 * o + (j + 1) ≤ i ∧ i < 10 * o + 10) := by omega
    have n2 : 10 * o + j ≤ i ∧ i < 10 * o + 10 := by omega
    rw [if_neg n1, if_pos h1, if_pos n2, h1, show 10 * o + j - 10 * o = j by omega]
  · by_cases h2 : 10 * o + (j + 1) ≤ i ∧ i < 10 * o + 10
    · have n2 : 10 * o + j ≤ i ∧ i < 10 * o + 10 := by omega
      rw [if_pos h2, if_pos n2]
    · have n2 : ¬ (10 * o + j ≤ i ∧ i < 10 * o + 10) := by omega
      rw [if_neg h2, if_neg h1, if_neg n2]
theorem gy_cr (hC : gw_C D yow P L) (hy : gy_C D P L ypa yla) {post : SY → Prop} {o t : Nat} (ho : o < 32) (hv : gw_v D (o / 16) (some t)) : ∀ d j yva, j + d = 10 → post (ycu, ydp, ylm, yde, yve, ypa, yow, yla, ycl, ypr, ypi, yar, gw_cv P yow t yva o j, yfr, yma, ydo, yro) → wY_create_23 post (nI o) (nI (t % 6)) ycu ydp ylm (d + 1) (nI j) yde yve ypa yow yla ycl ypr ypi yar yva yfr yma ydo yro := by
  intro d
  obtain ⟨h1, h2, _⟩ := hv t rfl
  have et : 6 * (o / 16) + t % 6 = t := by omega
  induction d with
  | zero =>
    intro j yva hj hp
    have : j = 10 := by omega
    subst this
    rw [gw_cv_e] at hp
    exact br_t (nI_le (a := 10) (by omega) (by omega)) hp
  | succ d ih =>
    intro j yva hj hp
    have e := gw_e7 o j
    have hi : vp_in (10 * nI o + nI j) 320 := by rw [e]; exact vp_in_nI (by omega) (by omega)
    have e2 : (10 * nI o + nI j).toNatClampNeg = 10 * o + j := by rw [e, nI_clamp (by omega)]
    refine br_f (nI_ge (b := 10) (by omega) (by omega)) ⟨gw_16, ?_⟩
    rw [gw_q16 (by omega)]
    refine gy_kind hC hy (by omega) (by omega) (by omega) (by rw [et]; exact hv) ?_
    rw [et, ← gw_cv_s (by omega)] at *
    by_cases hk : gw_kd P yow t j = 4
    · rw [if_pos hk] at hp
      exact br_t hk ⟨hi, nm_r (by rw [e2]) (nm_r (nI_1 j) (ih (j + 1) _ (by omega) hp))⟩
    · rw [if_neg hk] at hp
      exact br_f hk ⟨hi, nm_r (by rw [e2]) (nm_r (nI_1 j) (ih (j + 1) _ (by omega) hp))⟩
theorem gy_create (hC : gw_C D yow P L) (hy : gy_C D P L ypa yla) {post : SY → Prop} {o t : Nat} (ho : o < 32) (hv : gw_v D (o / 16) (some t)) (hp : post (ycu, ydp, ylm, yde, yve, ypa, yow, yla, upd ycl o (nI (t % 6)), upd ypr o (-1), upd ypi o 0, yar, gw_cv P yow t yva o 0, yfr, yma, ydo, yro)) : wpY_create post (ycu, ydp, ylm, yde, yve, ypa, yow, yla, ycl, ypr, ypi, yar, yva, yfr, yma, ydo, yro) (nI o) (nI (t % 6)) := by
  have hi : vp_in (nI o) 32 := vp_in_nI ho (by omega)
  have e : (nI o).toNatClampNeg = o := nI_clamp (by omega)
  exact ⟨hi, nm_r (by rw [e]) ⟨hi, nm_r (by rw [e, gw_n0]) ⟨hi, nm_r (by rw [e]) ⟨11, gy_cr hC hy ho hv 10 0 _ (by omega) hp⟩⟩⟩⟩
theorem gy_em {post : SY → Prop} {s : Nat} (hs : s < 2) : ∀ d j ypr, j + d = 16 → post (ycu, ydp, ylm, yde, yve, ypa, yow, yla, ycl, gw_fi ypr (16 * s + j) (16 * s + 16) (-1), ypi, yar, yva, yfr, yma, ydo, yro) → wY_empty_5 post (nI s) ycu ydp ylm (d + 1) (nI (16 * s + j)) yde yve ypa yow yla ycl ypr ypi yar yva yfr yma ydo yro := by
  intro d
  have e16 := gw_e6b s
  induction d with
  | zero =>
    intro j ypr h1 hp
    rw [gw_fi_e (by omega)] at hp
    exact br_t (by rw [e16]; exact nI_le (by omega) (by omega)) hp
  | succ d ih =>
    intro j ypr h1 hp
    refine br_f (by rw [e16]; exact nI_ge (by omega) (by omega)) ⟨vp_in_nI (by omega) (by omega), nm_r (by rw [nI_clamp (by omega)]) (nm_r (nI_1 _) (ih (j + 1) _ (by omega) ?_))⟩
    rw [show 16 * s + (j + 1) = 16 * s + j + 1 from rfl, gw_fi_s (by omega)]
    exact hp
theorem gy_empty {post : SY → Prop} {s : Nat} (hs : s < 2) (hp : post (ycu, ydp, ylm, yde, yve, ypa, yow, yla, ycl, gw_fi ypr (16 * s) (16 * s + 16) (-1), ypi, yar, yva, yfr, yma, ydo, yro)) : wpY_empty post (ycu, ydp, ylm, yde, yve, ypa, yow, yla, ycl, ypr, ypi, yar, yva, yfr, yma, ydo, yro) (nI s) :=
  nm_r (gw_e6 s) ⟨17, gy_em hs 16 0 _ (by omega) hp⟩
end
end
end
section
/-! what stores keep -/
section
variable {D V K B : Nat → Int32} {P L C S T : Nat → Option Nat} {F : Nat → Int64} {cu : Option Nat}
theorem gw_O_f (h : gw_O D P K C S T F) {o n t : Nat} (hn : n < 10) (hC : C o = some t) (hk : gw_kd P K t n ≠ 4) (x : Int64) : gw_O D P K C S T (gw_u F (10 * o + n) x) := by
  refine ⟨h.1, h.2.1, fun p m r hp hm hr => ⟨(h.2.2.1 p m r hp hm hr).1, fun hk2 => ?_⟩, h.2.2.2⟩
  by_cases e : 10 * p + m = 10 * o + n
  · have e1 : p = o := by omega
    have e2 : m = n := by omega
    subst e1 e2
    rw [hC] at hr
    cases hr
    exact absurd hk2 hk
  · rw [gw_un e]; exact (h.2.2.1 p m r hp hm hr).2 hk2
theorem gw_O_g (h : gw_O D P K C S T F) {o n t : Nat} (hn : n < 10) (hC : C o = some t) (hk : gw_kd P K t n = 4) (x : Option Nat) (hx : ∀ z, x = some z → z < 32 ∧ z / 16 = o / 16 ∧ C z ≠ none) : gw_O D P K C S (gw_u T (10 * o + n) x) F := by
  refine ⟨h.1, h.2.1, fun p m r hp hm hr => ⟨fun hk2 => ?_, (h.2.2.1 p m r hp hm hr).2⟩, fun p m z hp hm hc hz => ?_⟩
  · by_cases e : 10 * p + m = 10 * o + n
    · have e1 : p = o := by omega
      have e2 : m = n := by omega
      subst e1 e2
      rw [hC] at hr
      cases hr
      exact absurd hk hk2
    · rw [gw_un e]; exact (h.2.2.1 p m r hp hm hr).1 hk2
  · by_cases e : 10 * p + m = 10 * o + n
    · have e1 : p = o := by omega
      rw [e, gw_us] at hz
      rw [e1]
      exact hx z hz
    · rw [gw_un e] at hz; exact h.2.2.2 p m z hp hm hc hz
theorem gw_O_s (h : gw_O D P K C S T F) (lo hi : Nat) : gw_O D P K C (gw_fg S lo hi none) T F := by
  refine ⟨h.1, fun o q ho hq => ?_, h.2.2.1, h.2.2.2⟩
  by_cases e : lo ≤ o ∧ o < hi
  · rw [gw_fg_i e] at hq; exact absurd hq (by simp)
  · rw [gw_fg_o e] at hq; exact h.2.1 o q ho hq
theorem gx_s_z {a : Nat → Int32} (h : gx_s S a) {s : Nat} (hs : s < 2) : gx_s (gw_fg S (16 * s) (16 * s + 16) none) (gw_fi a (32 * s) (32 * s + 16) (-1)) := fun p hp => by
  by_cases e : 16 * s ≤ p ∧ p < 16 * s + 16
  · rw [gw_fg_i e, gw_fi_i (by unfold gw_d; omega)]; rfl
  · rw [gw_fg_o e, gw_fi_o (by unfold gw_d; omega)]; exact h p hp
theorem gy_s_z {a : Nat → Int32} (h : gy_s S a) {s : Nat} : gy_s (gw_fg S (16 * s) (16 * s + 16) none) (gw_fi a (16 * s) (16 * s + 16) (-1)) := fun p hp => by
  by_cases e : 16 * s ≤ p ∧ p < 16 * s + 16
  · rw [gw_fg_i e, gw_fi_i e]; rfl
  · rw [gw_fg_o e, gw_fi_o e]; exact h p hp
/-- a new object -/
theorem gw_O_new (h : gw_O D P K C S T F) {o t : Nat} (ho : o < 32) (hf : C o = none) (hv : gw_v D (o / 16) (some t)) : gw_O D P K (gw_u C o (some t)) (gw_u S o none) (gw_fg T (10 * o) (10 * o + 10) none) (gw_fg F (10 * o) (10 * o + 10) 0) := by
  have nn : ∀ q, C q ≠ none → gw_u C o (some t) q ≠ none := fun q hq => by
    by_cases e : q = o
    · rw [e, gw_us]; simp
    · rw [gw_un e]; exact hq
  refine ⟨fun p hp => ?_, fun p q hp hq => ?_, fun p m r hp hm hr => ?_, fun p m z hp hm hc hz => ?_⟩
  · by_cases e : p = o
    · rw [e, gw_us]; exact hv
    · rw [gw_un e]; exact h.1 p hp
  · by_cases e : p = o
    · rw [e, gw_us] at hq; exact absurd hq (by simp)
    · rw [gw_un e] at hq
      obtain ⟨a, b, c, d⟩ := h.2.1 p q hp hq
      exact ⟨a, b, nn p c, nn q d⟩
  · by_cases e : p = o
    · exact ⟨fun _ => gw_fg_i (by omega), fun _ => gw_fg_i (by omega)⟩
    · rw [gw_fg_o (by omega), gw_fg_o (by omega)]
      rw [gw_un e] at hr
      exact h.2.2.1 p m r hp hm hr
  · by_cases e : p = o
    · rw [gw_fg_i (by omega)] at hz; exact absurd hz (by simp)
    · rw [gw_fg_o (by omega)] at hz
      rw [gw_un e] at hc
      obtain ⟨a, b, c⟩ := h.2.2.2 p m z hp hm hc hz
      exact ⟨a, b, nn z c⟩
theorem gy_v_new {a : Nat → Int64} (h : gy_v P K C T F a) {o t : Nat} : gy_v P K (gw_u C o (some t)) (gw_fg T (10 * o) (10 * o + 10) none) (gw_fg F (10 * o) (10 * o + 10) 0) (gw_cv P K t a o 0) := fun p m r hp hm hr => by
  by_cases e : p = o
  · subst e
    rw [gw_us] at hr
    cases hr
    rw [gw_fg_i (by omega), gw_fg_i (by omega)]
    unfold gw_cv
    have n1 : 10 * p + 0 ≤ 10 * p + m ∧ 10 * p + m < 10 * p + 10 := by omega
    rw [if_pos n1, show 10 * p + m - 10 * p = m by omega]
    rfl
  · rw [gw_un e] at hr
    rw [gw_fg_o (by omega), gw_fg_o (by omega)]
    unfold gw_cv
    have n1 : ¬ (10 * o + 0 ≤ 10 * p + m ∧ 10 * p + m < 10 * o + 10) := by omega
    rw [if_neg n1]
    exact h p m r hp hm hr
/-! a type defined -/
theorem gw_an_u (hC : gw_C D K P L) {t s : Nat} {x : Option Nat} (h0 : D t = 0) : ∀ k o, gw_v D s o → gw_an (gw_u P t x) k o = gw_an P k o := by
  intro k
  induction k with
  | zero => intro o _; rfl
  | succ k ih =>
    intro o ho
    show (gw_an (gw_u P t x) k o).bind (gw_u P t x) = (gw_an P k o).bind P
    rw [ih o ho]
    have := gw_v_an hC k o ho
    cases e : gw_an P k o with
    | none => rfl
    | some a =>
      rw [e] at this
      have h1 := (this a rfl).2.2
      show gw_u P t x a = P a
      exact gw_un (fun z => h1 (by rw [z]; exact h0))
theorem gw_kf_d (hC : gw_C D K P L) {t s n : Nat} {x : Option Nat} (h0 : D t = 0) : ∀ k o, gw_v D s o → gw_kf (gw_u P t x) K n k o = gw_kf P K n k o := by
  intro k
  induction k with
  | zero => intro o _; rfl
  | succ k ih =>
    intro o ho
    cases o with
    | none => rfl
    | some a =>
      have h1 := (ho a rfl).2.2
      show (if K (10 * a + n) = -1 then gw_kf (gw_u P t x) K n k (gw_u P t x a) else K (10 * a + n)) = (if K (10 * a + n) = -1 then gw_kf P K n k (P a) else K (10 * a + n))
      rw [gw_un (fun z => h1 (by rw [z]; exact h0)), ih _ (gw_v_P hC ho)]
theorem gw_kd_d (hC : gw_C D K P L) {t s n e : Nat} {x : Option Nat} (h0 : D t = 0) (h : gw_v D s (some e)) : gw_kd (gw_u P t x) K e n = gw_kd P K e n := gw_kf_d hC h0 3 _ h
theorem gw_v_u {s t : Nat} {o : Option Nat} (h : gw_v D s o) : gw_v (upd D t 1) s o := fun a ha => by
  obtain ⟨h1, h2, h3⟩ := h a ha
  refine ⟨h1, h2, ?_⟩
  by_cases e : a = t
  · rw [e, pk_us]; decide
  · rw [pk_un e]; exact h3
theorem gw_C_def (hC : gw_C D K P L) {s t : Nat} {x : Option Nat} (hs : s < 2) (ht : t < 12) (hts : t / 6 = s) (h0 : D t = 0) (hx : gw_v D s x) : gw_C (upd D t 1) K (gw_u P t x) (gw_u L s (some t)) := by
  have hD : ∀ a, upd D t 1 a ≠ 0 → a ≠ t → D a ≠ 0 := fun a h e => by rw [pk_un e] at h; exact h
  have hK0 := hC.2.2.1 t ht h0
  refine ⟨fun a ha hd p hp => ?_, hC.2.1, fun a ha hd n hn => ?_, fun a ha hd e n hi hn hk => ?_, fun s' a hs' ha => ?_, hC.2.2.2.2.2⟩
  · by_cases e : a = t
    · rw [e, gw_us] at hp
      obtain ⟨h1, h2, h3⟩ := hx p hp
      have hpt : p ≠ t := fun z => h3 (by rw [z]; exact h0)
      refine ⟨h1, by omega, by rw [pk_un hpt]; exact h3, ?_⟩
      rw [e, hts, gw_us]
      intro z
      injection z with z
      exact hpt z.symm
    · rw [gw_un e] at hp
      have hda := hD a hd e
      obtain ⟨h1, h2, h3, h4⟩ := hC.1 a ha hda p hp
      have hpt : p ≠ t := fun z => h3 (by rw [z]; exact h0)
      refine ⟨h1, h2, by rw [pk_un hpt]; exact h3, ?_⟩
      by_cases e2 : a / 6 = s
      · rw [e2, gw_us]
        intro z
        injection z with z
        exact hpt z.symm
      · rw [gw_un e2]; exact h4
  · by_cases e : a = t
    · rw [e, pk_us] at hd; exact absurd hd (by decide)
    · rw [pk_un e] at hd; exact hC.2.2.1 a ha hd n hn
  · by_cases ea : a = t
    · subst ea
      obtain ⟨k, hk3, hk4⟩ := hi
      cases k with
      | zero => injection hk4 with hk4; rw [← hk4] at hk; exact absurd (hK0 n hn) hk
      | succ k =>
        rw [gw_an_s, gw_us] at hk4
        cases x with
        | none => rw [gw_an_n] at hk4; exact absurd hk4 (by simp)
        | some p =>
          obtain ⟨h1, h2, h3⟩ := hx p rfl
          rw [gw_an_u hC h0 k _ hx] at hk4
          have h5 := hC.2.2.2.1 p h1 h3 e n ⟨k, by omega, hk4⟩ hn hk
          show gw_kf _ K n 3 (some a) = _
          have e1 : gw_kf (gw_u P a (some p)) K n 3 (some a) = if K (10 * a + n) = -1 then gw_kf (gw_u P a (some p)) K n 2 (gw_u P a (some p) a) else K (10 * a + n) := rfl
          rw [e1, if_pos (hK0 n hn), gw_us, gw_kf_d hC h0 2 _ hx]
          -- the parent's own kind stands among its first two
          have key : ∀ k o, gw_v D s o → gw_an P k o = some e → ∀ m, k < m → (∀ j, j < k → ∀ b, gw_an P j o = some b → K (10 * b + n) = -1) → gw_kf P K n m o = K (10 * e + n) := by
            intro k
            induction k with
            | zero =>
              intro o ho hh m hm _
              have hh' : o = some e := hh
              subst hh'
              cases m with
              | zero => omega
              | succ m => show (if _ then _ else _) = _; rw [if_neg hk]
            | succ k ih =>
              intro o ho hh m hm hall
              cases o with
              | none => rw [gw_an_n] at hh; exact absurd hh (by simp)
              | some b =>
                cases m with
                | zero => omega
                | succ m =>
                  show (if _ then _ else _) = _
                  rw [if_pos (hall 0 (by omega) b rfl)]
                  rw [gw_an_s] at hh
                  exact ih (P b) (gw_v_P hC ho) hh m (by omega) (fun j hj c hc => hall (j + 1) (by omega) c (by rw [gw_an_s]; exact hc))
          -- below level k nothing of that name, or it is the same kind
          by_cases hall : ∀ j, j < k → ∀ b, gw_an P j (some p) = some b → K (10 * b + n) = -1
          · exact key k (some p) hx hk4 2 (by omega) hall
          · -- some earlier one: then it is the kind
            have : ∃ j, j < k ∧ ∃ b, gw_an P j (some p) = some b ∧ ¬ K (10 * b + n) = -1 := by
              apply Classical.byContradiction
              intro hno
              apply hall
              intro j hj b hb
              apply Classical.byContradiction
              intro hnb
              exact hno ⟨j, hj, b, hb, hnb⟩
            obtain ⟨j, hj, b, hb, hnb⟩ := this
            have hk1 : k = 1 := by omega
            have hj0 : j = 0 := by omega
            subst hj0
            injection hb with hb
            subst hb
            have h6 := hC.2.2.2.1 p h1 h3 p n ⟨0, by omega, rfl⟩ hn hnb
            show (if _ then _ else _) = _
            rw [if_neg hnb, ← h6, h5]
    · have hda := hD a hd ea
      have hva : gw_v D (a / 6) (some a) := gw_v_mk ha rfl hda
      obtain ⟨k, hk3, hk4⟩ := hi
      rw [gw_an_u hC h0 k _ hva] at hk4
      rw [gw_kd_d hC h0 hva]
      exact hC.2.2.2.1 a ha hda e n ⟨k, hk3, hk4⟩ hn hk
  · by_cases e : s' = s
    · rw [e, gw_us] at ha
      injection ha with ha
      subst ha
      exact ⟨ht, by omega, by rw [pk_us]; decide⟩
    · rw [gw_un e] at ha
      obtain ⟨h1, h2, h3⟩ := hC.2.2.2.2.1 s' a hs' ha
      refine ⟨h1, h2, ?_⟩
      by_cases e2 : a = t
      · rw [e2, pk_us]; decide
      · rw [pk_un e2]; exact h3
theorem gw_O_def (hC : gw_C D K P L) (h : gw_O D P K C S T F) {t : Nat} {x : Option Nat} (h0 : D t = 0) : gw_O (upd D t 1) (gw_u P t x) K C S T F := by
  refine ⟨fun o ho => gw_v_u (h.1 o ho), h.2.1, fun o n r ho hn hr => ?_, h.2.2.2⟩
  have := h.1 o ho
  rw [hr] at this
  rw [gw_kd_d hC h0 this]
  exact h.2.2.1 o n r ho hn hr
theorem gy_v_def (hC : gw_C D K P L) (h : gw_O D P K C S T F) {a : Nat → Int64} (hy : gy_v P K C T F a) {t : Nat} {x : Option Nat} (h0 : D t = 0) : gy_v (gw_u P t x) K C T F a := fun o n r ho hn hr => by
  have := h.1 o ho
  rw [hr] at this
  rw [gw_kd_d hC h0 this]
  exact hy o n r ho hn hr
/-! a field added to the latest type -/
theorem gw_kf_f (hC : gw_C D K P L) {t n m : Nat} {x : Int32} (ht : t < 12) (hn : n < 10) (hm : m < 10) (hL : L (t / 6) = some t) {s : Nat} : ∀ k o, gw_v D s o → o ≠ some t → gw_kf P (upd K (10 * t + n) x) m k o = gw_kf P K m k o := by
  intro k
  induction k with
  | zero => intro o _ _; rfl
  | succ k ih =>
    intro o ho hne
    cases o with
    | none => rfl
    | some a =>
      have hat : a ≠ t := fun z => hne (by rw [z])
      obtain ⟨h1, h2, h3⟩ := ho a rfl
      have hP : P a ≠ some t := fun z => by
        obtain ⟨_, p2, _, p4⟩ := hC.1 a h1 h3 t z
        rw [← p2] at p4
        exact p4 hL
      show (if upd K (10 * t + n) x (10 * a + m) = -1 then gw_kf P (upd K (10 * t + n) x) m k (P a) else upd K (10 * t + n) x (10 * a + m)) = (if K (10 * a + m) = -1 then gw_kf P K m k (P a) else K (10 * a + m))
      rw [pk_un (by omega), ih _ (gw_v_P hC ho) hP]
theorem gw_kd_f (hC : gw_C D K P L) {t n m e : Nat} {x : Int32} (ht : t < 12) (hn : n < 10) (hm : m < 10) (hL : L (t / 6) = some t) {s : Nat} (ho : gw_v D s (some e)) (he : e ≠ t) : gw_kd P (upd K (10 * t + n) x) e m = gw_kd P K e m := gw_kf_f hC ht hn hm hL 3 _ ho (fun z => by injection z with z; exact he z)
theorem gw_ct_o {t a n : Nat} {x : Int32} (hn : n < 10) : ∀ m, m ≤ 10 → a ≠ t → gw_ct (upd K (10 * t + n) x) a m = gw_ct K a m := by
  intro m
  induction m with
  | zero => intro _ _; rfl
  | succ m ih => intro h1 h2; show gw_ct _ a m + _ = gw_ct _ a m + _; rw [ih (by omega) h2, pk_un (by omega)]
theorem gw_ct_s {t n : Nat} {x : Int32} (hx : ¬ x = -1) (h0 : K (10 * t + n) = -1) : ∀ m, gw_ct (upd K (10 * t + n) x) t m = gw_ct K t m + (if n < m then 1 else 0) := by
  intro m
  induction m with
  | zero => rfl
  | succ m ih =>
    show gw_ct _ t m + _ = gw_ct _ t m + _ + _
    rw [ih]
    by_cases e : m = n
    · subst e
      rw [pk_us, if_neg hx, if_pos h0, if_neg (by omega), if_pos (by omega)]
    · rw [pk_un (by omega)]
      by_cases e2 : n < m
      · rw [if_pos e2, if_pos (show n < m + 1 by omega)]; omega
      · rw [if_neg e2, if_neg (show ¬ n < m + 1 by omega)]; omega
theorem gw_kd_0 {t n : Nat} (h : gw_kd P K t n = -1) : K (10 * t + n) = -1 := by
  apply Classical.byContradiction
  intro hn
  have : gw_kd P K t n = if K (10 * t + n) = -1 then gw_kf P K n 2 (P t) else K (10 * t + n) := rfl
  rw [this, if_neg hn] at h
  exact hn h
theorem gw_C_fld (hC : gw_C D K P L) {t n j : Nat} (ht : t < 12) (hn : n < 10) (hj : j ≤ 4) (hL : L (t / 6) = some t) (hk0 : gw_kd P K t n = -1) (hct : gw_ct K t 10 < 4) : gw_C D (upd K (10 * t + n) (nI j)) P L := by
  have hD := (hC.2.2.2.2.1 (t / 6) t (by omega) hL).2.2
  have hK0 := gw_kd_0 hk0
  refine ⟨hC.1, fun i hi hk => ?_, fun a ha hd m hm => ?_, fun a ha hd e m hi hm hk => ?_, hC.2.2.2.2.1, fun a ha => ?_⟩
  · by_cases e : i = 10 * t + n
    · rw [e, pk_us]; exact ⟨j, hj, rfl⟩
    · rw [pk_un e] at hk ⊢; exact hC.2.1 i hi hk
  · have : a ≠ t := fun z => hD (by rw [← z]; exact hd)
    rw [pk_un (by omega)]
    exact hC.2.2.1 a ha hd m hm
  · have hva : gw_v D (a / 6) (some a) := gw_v_mk ha rfl hd
    have hPt : ∀ b, gw_v D (b / 6) (some b) → P b ≠ some t := fun b hb z => by
      obtain ⟨_, p2, _, p4⟩ := hC.1 b (hb b rfl).1 (hb b rfl).2.2 t z
      rw [← p2] at p4
      exact p4 hL
    by_cases ea : a = t
    · subst ea
      have e1 : gw_kd P (upd K (10 * a + n) (nI j)) a m = if upd K (10 * a + n) (nI j) (10 * a + m) = -1 then gw_kf P (upd K (10 * a + n) (nI j)) m 2 (P a) else upd K (10 * a + n) (nI j) (10 * a + m) := rfl
      have e2 : gw_kd P K a m = if K (10 * a + m) = -1 then gw_kf P K m 2 (P a) else K (10 * a + m) := rfl
      have e3 := gw_kf_f (n := n) (m := m) (x := nI j) hC ha hn hm hL 2 (P a) (gw_v_P hC hva) (hPt a hva)
      by_cases ee : e = a
      · subst ee
        rw [e1, if_neg hk]
      · have hev := gw_v_in hC hva hi
        rw [pk_un (by omega)] at hk ⊢
        have h5 := hC.2.2.2.1 a ha hd e m hi hm hk
        by_cases em : m = n
        · subst em; rw [h5] at hk0; exact absurd hk0 hk
        · rw [e1, pk_un (by omega), e3, ← e2]; exact h5
    · have hne : e ≠ t := fun z => by
        obtain ⟨k, _, hk4⟩ := hi
        cases k with
        | zero => injection hk4 with hk4; exact ea (hk4.trans z)
        | succ k =>
          have hvk := gw_v_an hC k _ hva
          cases hb : gw_an P k (some a) with
          | none => rw [gw_an_bn hb] at hk4; exact absurd hk4 (by simp)
          | some b =>
            rw [gw_an_b hb, z] at hk4
            rw [hb] at hvk
            obtain ⟨q1, q2, q3⟩ := hvk b rfl
            exact hPt b (gw_v_mk q1 rfl q3) hk4
      rw [pk_un (by omega)] at hk ⊢
      rw [gw_kd_f hC ht hn hm hL hva ea]
      exact hC.2.2.2.1 a ha hd e m hi hm hk
  · by_cases e : a = t
    · subst e
      rw [gw_ct_s (gw_nm (by omega)) hK0, if_pos hn]
      omega
    · rw [gw_ct_o hn 10 (by omega) e]; exact hC.2.2.2.2.2 a ha
theorem gw_O_fld (hC : gw_C D K P L) (h : gw_O D P K C S T F) {t n : Nat} {x : Int32} (ht : t < 12) (hn : n < 10) (hL : L (t / 6) = some t) (hno : ∀ o, o < 32 → C o ≠ some t) : gw_O D P (upd K (10 * t + n) x) C S T F := by
  refine ⟨h.1, h.2.1, fun o m r ho hm hr => ?_, h.2.2.2⟩
  have := h.1 o ho
  rw [hr] at this
  rw [gw_kd_f hC ht hn hm hL this (fun z => hno o ho (by rw [hr, z]))]
  exact h.2.2.1 o m r ho hm hr
theorem gy_v_fld (hC : gw_C D K P L) (h : gw_O D P K C S T F) {a : Nat → Int64} (hy : gy_v P K C T F a) {t n : Nat} {x : Int32} (ht : t < 12) (hn : n < 10) (hL : L (t / 6) = some t) (hno : ∀ o, o < 32 → C o ≠ some t) : gy_v P (upd K (10 * t + n) x) C T F a := fun o m r ho hm hr => by
  have := h.1 o ho
  rw [hr] at this
  rw [gw_kd_f hC ht hn hm hL this (fun z => hno o ho (by rw [hr, z]))]
  exact hy o m r ho hm hr
end
end
section
/-! the constructors and the methods without a great loop -/
section
section
variable {xcu xar xrc xlc : Int32} {xde xpt xve xok xlt xty xpi : Nat → Int32} {xnu : Nat → Int64} {xtg xse xso xnf xrn xre xrl xrd xll xlr : Nat → Int32}
theorem gx_i3 {post : SX → Prop} : ∀ d j xty xse, j + d = 48 → post (xcu, xar, xrc, xlc, xde, xpt, xve, xok, xlt, gw_fi xty j 48 (-1), xpi, xnu, xtg, gw_fi xse j 48 (-1), xso, xnf, xrn, xre, xrl, xrd, xll, xlr) → wX_init_215 post xcu xar xrc xlc (d + 1) (nI j) xde xpt xve xok xlt xty xpi xnu xtg xse xso xnf xrn xre xrl xrd xll xlr := by
  intro d
  induction d with
  | zero =>
    intro j xty xse h1 hp
    rw [gw_fi_e (by omega), gw_fi_e (by omega)] at hp
    exact br_t (nI_le (a := 48) (by omega) (by omega)) hp
  | succ d ih =>
    intro j xty xse h1 hp
    have hi : vp_in (nI j) 48 := vp_in_nI (by omega) (by omega)
    have e : (nI j).toNatClampNeg = j := nI_clamp (by omega)
    refine br_f (nI_ge (b := 48) (by omega) (by omega)) ⟨hi, nm_r (by rw [e]) ⟨hi, nm_r (by rw [e]) (nm_r (nI_1 j) (ih (j + 1) _ _ (by omega) ?_))⟩⟩
    rw [gw_fi_s (by omega), gw_fi_s (by omega)]
    exact hp
theorem gx_i2 {post : SX → Prop} : ∀ d j xok, j + d = 120 → (∃ n215, wX_init_215 post xcu xar xrc xlc n215 0 xde xpt xve (gw_fi xok j 120 (-1)) xlt xty xpi xnu xtg xse xso xnf xrn xre xrl xrd xll xlr) → wX_init_194 post xcu xar xrc xlc (d + 1) (nI j) xde xpt xve xok xlt xty xpi xnu xtg xse xso xnf xrn xre xrl xrd xll xlr := by
  intro d
  induction d with
  | zero =>
    intro j xok h1 hp
    rw [gw_fi_e (by omega)] at hp
    exact br_t (nI_le (a := 120) (by omega) (by omega)) hp
  | succ d ih =>
    intro j xok h1 hp
    refine br_f (nI_ge (b := 120) (by omega) (by omega)) ⟨vp_in_nI (by omega) (by omega), nm_r (by rw [nI_clamp (by omega)]) (nm_r (nI_1 j) (ih (j + 1) _ (by omega) ?_))⟩
    rw [gw_fi_s (by omega)]
    exact hp
theorem gx_i1 {post : SX → Prop} : ∀ d j xlt, j + d = 2 → (∃ n194, wX_init_194 post xcu xar xrc xlc n194 0 xde xpt xve xok (gw_fi xlt j 2 (-1)) xty xpi xnu xtg xse xso xnf xrn xre xrl xrd xll xlr) → wX_init_174 post xcu xar xrc xlc (d + 1) (nI j) xde xpt xve xok xlt xty xpi xnu xtg xse xso xnf xrn xre xrl xrd xll xlr := by
  intro d
  induction d with
  | zero =>
    intro j xlt h1 hp
    rw [gw_fi_e (by omega)] at hp
    exact br_t (nI_le (a := 2) (by omega) (by omega)) hp
  | succ d ih =>
    intro j xlt h1 hp
    refine br_f (nI_ge (b := 2) (by omega) (by omega)) ⟨vp_in_nI (by omega) (by omega), nm_r (by rw [nI_clamp (by omega)]) (nm_r (nI_1 j) (ih (j + 1) _ (by omega) ?_))⟩
    rw [gw_fi_s (by omega)]
    exact hp
end
section
variable {ycu ydp ylm : Int32} {yde yve ypa yow yla ycl ypr ypi yar : Nat → Int32} {yva : Nat → Int64} {yfr yma ydo yro : Nat → Int32}
theorem gy_i2 {post : SY → Prop} : ∀ d j ycl ypr, j + d = 32 → post (-1, ydp, ylm, yde, yve, ypa, yow, upd (upd yla 0 (-1)) 1 (-1), gw_fi ycl j 32 (-1), gw_fi ypr j 32 (-1), ypi, yar, yva, yfr, yma, ydo, yro) → wY_init_139 post ycu ydp ylm (d + 1) (nI j) yde yve ypa yow yla ycl ypr ypi yar yva yfr yma ydo yro := by
  intro d
  induction d with
  | zero =>
    intro j ycl ypr h1 hp
    rw [gw_fi_e (by omega), gw_fi_e (by omega)] at hp
    exact br_t (nI_le (a := 32) (by omega) (by omega)) (nm_e (nm_e hp))
  | succ d ih =>
    intro j ycl ypr h1 hp
    have hi : vp_in (nI j) 32 := vp_in_nI (by omega) (by omega)
    have e : (nI j).toNatClampNeg = j := nI_clamp (by omega)
    refine br_f (nI_ge (b := 32) (by omega) (by omega)) ⟨hi, nm_r (by rw [e]) ⟨hi, nm_r (by rw [e]) (nm_r (nI_1 j) (ih (j + 1) _ _ (by omega) ?_))⟩⟩
    rw [gw_fi_s (by omega), gw_fi_s (by omega)]
    exact hp
theorem gy_i1 {post : SY → Prop} : ∀ d j yow, j + d = 120 → (∃ n139, wY_init_139 post ycu ydp ylm n139 0 yde yve ypa (gw_fi yow j 120 (-1)) yla ycl ypr ypi yar yva yfr yma ydo yro) → wY_init_118 post ycu ydp ylm (d + 1) (nI j) yde yve ypa yow yla ycl ypr ypi yar yva yfr yma ydo yro := by
  intro d
  induction d with
  | zero =>
    intro j yow h1 hp
    rw [gw_fi_e (by omega)] at hp
    exact br_t (nI_le (a := 120) (by omega) (by omega)) hp
  | succ d ih =>
    intro j yow h1 hp
    refine br_f (nI_ge (b := 120) (by omega) (by omega)) ⟨vp_in_nI (by omega) (by omega), nm_r (by rw [nI_clamp (by omega)]) (nm_r (nI_1 j) (ih (j + 1) _ (by omega) ?_))⟩
    rw [gw_fi_s (by omega)]
    exact hp
end
theorem gw_ct0 {K : Nat → Int32} {t : Nat} (h : ∀ i, i < 120 → K i = -1) (ht : t < 12) : ∀ m, m ≤ 10 → gw_ct K t m = 0 := by
  intro m
  induction m with
  | zero => intro _; rfl
  | succ m ih => intro hm; show gw_ct K t m + _ = 0; rw [ih (by omega), if_pos (h _ (by omega))]
theorem i_vc0 : wpX_init (fun u => wpY_init (fun v => i_Rel 0 u v)) := by
  refine ⟨3, gx_i1 2 0 _ rfl ⟨121, gx_i2 120 0 _ rfl ⟨49, gx_i3 48 0 _ _ rfl ⟨121, gy_i1 120 0 _ rfl ⟨33, gy_i2 32 0 _ _ rfl ?_⟩⟩⟩⟩⟩
  have hK : ∀ i, i < 120 → gw_fi (fun _ => 0) 0 120 (-1) i = -1 := fun i hi => gw_fi_i (by omega)
  refine ⟨fun _ => 0, fun _ => 0, gw_fi (fun _ => 0) 0 120 (-1), fun _ => none, fun _ => none, fun _ => none, fun _ => none, fun _ => some 0, fun _ => 0, fun _ => 0, none, ?_, ?_, ?_, ?_⟩
  · exact ⟨fun t _ h => absurd rfl h, fun i hi h => absurd (hK i hi) h, fun t ht _ n hn => hK _ (by omega), fun t _ h => absurd rfl h, fun s t _ h => absurd h (by simp), fun t ht => by rw [gw_ct0 hK ht 10 (by omega)]; omega⟩
  · exact ⟨fun o _ t h => absurd h (by simp), fun o q _ h => absurd h (by simp), fun o n t _ _ h => absurd h (by simp), fun o n z _ _ h => absurd rfl h⟩
  · refine ⟨rfl, rfl, rfl, ⟨fun t _ h => absurd rfl h, fun s hs => gw_fi_i (by omega)⟩, ⟨fun o ho => gw_fi_i (by unfold gw_d; omega), fun i _ h => gw_fi_i (by omega)⟩, fun o _ => rfl, fun o n _ _ => rfl, fun o n _ _ => rfl, fun o ho => gw_fi_i (by unfold gw_d; omega), rfl⟩
  · refine ⟨rfl, rfl, rfl, ⟨fun t _ h => absurd rfl h, fun s hs => ?_⟩, fun o ho => gw_fi_i (by omega), fun o _ => rfl, fun o n t _ _ h => absurd h (by simp), fun o ho => gw_fi_i (by omega), rfl⟩
    by_cases h : s = 1
    · rw [h]; rfl
    · have : s = 0 := by omega
      rw [this]; rfl
theorem i_vc_culprit {k : Nat} {u : SX} {v : SY} (I : i_Rel k u v) (hk : k + 5 ≤ 2560) : wpX_culprit (fun r => wpY_culprit (fun r' => r' = r ∧ i_Rel (k + 5) u v) v) u := by
  have I' := I
  obtain ⟨xcu, xar, xrc, xlc, xde, xpt, xve, xok, xlt, xty, xpi, xnu, xtg, xse, xso, xnf, xrn, xre, xrl, xrd, xll, xlr⟩ := u
  obtain ⟨ycu, ydp, ylm, yde, yve, ypa, yow, yla, ycl, ypr, ypi, yar, yva, yfr, yma, ydo, yro⟩ := v
  obtain ⟨D, V, K, P, L, C, S, T, B, F, cu, hC, hO, hX, hY⟩ := I
  obtain ⟨rfl, rfl, rfl, hxc, hxt, hxb, hxf, hxg, hxs, hxu⟩ := hX
  obtain ⟨rfl, rfl, rfl, hyc, hyt, hyb, hyv, hys, hyu⟩ := hY
  exact ⟨hyu.trans hxu.symm, I'⟩
theorem i_vc_num {k : Nat} {u : SX} {v : SY} (I : i_Rel k u v) (hk : k + 5 ≤ 2560) (v1 : Int32) (v2 : Int32) : wpX_num (fun r => wpY_num (fun r' => r' = r ∧ i_Rel (k + 5) u v) v v1 v2) u v1 v2 := by
  have I' := I
  obtain ⟨xcu, xar, xrc, xlc, xde, xpt, xve, xok, xlt, xty, xpi, xnu, xtg, xse, xso, xnf, xrn, xre, xrl, xrd, xll, xlr⟩ := u
  obtain ⟨ycu, ydp, ylm, yde, yve, ypa, yow, yla, ycl, ypr, ypi, yar, yva, yfr, yma, ydo, yro⟩ := v
  obtain ⟨D, V, K, P, L, C, S, T, B, F, cu, hC, hO, hX, hY⟩ := I
  obtain ⟨rfl, rfl, rfl, hxc, hxt, hxb, hxf, hxg, hxs, hxu⟩ := hX
  obtain ⟨rfl, rfl, rfl, hyc, hyt, hyb, hyv, hys, hyu⟩ := hY
  unfold wpX_num wpY_num; dsimp only
  rcases gw_obj C v1 with ⟨o, t, ho, hCo, rfl⟩ | hno
  · have hv := hO.1 o ho
    rw [hCo] at hv
    have hd := gw_dlt ho
    have h12 := (hv t rfl).1
    rcases gw_nam v2 with ⟨n, hn, rfl⟩ | hnn
    · refine gx_hasNum hC hxc hxt ho hCo hv hn (fun h => br_t rfl ?_) (fun h h' => br_f (by decide) ⟨by rw [gw_e3]; exact vp_in_nI (by omega) (by omega), ?_⟩)
      · refine gy_obj1 hyt ho hCo (gy_kindOf hC hyc hyt ho hCo hv hn ?_)
        rcases h with h | h
        · exact br_t (by rw [h]; decide) ⟨rfl, I'⟩
        · exact br_f (by rw [h]; decide) (br_t h ⟨rfl, I'⟩)
      · rw [gw_e3, nI_clamp (by omega), hxf o n ho hn]
        refine gy_obj1 hyt ho hCo (gy_kindOf hC hyc hyt ho hCo hv hn ?_)
        rcases gw_kd_r hC hv hn with e | ⟨m, hm, e⟩
        · exact absurd e h
        · refine br_f (by rw [e]; exact gw_p0 (by omega)) (br_f h' ⟨by rw [gw_e7]; exact vp_in_nI (by omega) (by omega), ?_, I'⟩)
          rw [gw_e7, nI_clamp (by omega), hyv o n t ho hn hCo, if_neg h']
    · exact gx_hasNumN hxt ho hCo h12 hnn (br_t rfl (gy_obj1 hyt ho hCo (gy_kindOfN ho hnn (br_t (by decide) ⟨rfl, I'⟩))))
  · exact gx_hasNum0 hxt hno (br_t rfl (gy_obj0 hyt hno (gy_kindOf0 (br_t (by decide) ⟨rfl, I'⟩))))
theorem i_vc_ref {k : Nat} {u : SX} {v : SY} (I : i_Rel k u v) (hk : k + 5 ≤ 2560) (v1 : Int32) (v2 : Int32) : wpX_ref (fun r => wpY_ref (fun r' => r' = r ∧ i_Rel (k + 5) u v) v v1 v2) u v1 v2 := by
  have I' := I
  obtain ⟨xcu, xar, xrc, xlc, xde, xpt, xve, xok, xlt, xty, xpi, xnu, xtg, xse, xso, xnf, xrn, xre, xrl, xrd, xll, xlr⟩ := u
  obtain ⟨ycu, ydp, ylm, yde, yve, ypa, yow, yla, ycl, ypr, ypi, yar, yva, yfr, yma, ydo, yro⟩ := v
  obtain ⟨D, V, K, P, L, C, S, T, B, F, cu, hC, hO, hX, hY⟩ := I
  obtain ⟨rfl, rfl, rfl, hxc, hxt, hxb, hxf, hxg, hxs, hxu⟩ := hX
  obtain ⟨rfl, rfl, rfl, hyc, hyt, hyb, hyv, hys, hyu⟩ := hY
  unfold wpX_ref wpY_ref; dsimp only
  rcases gw_obj C v1 with ⟨o, t, ho, hCo, rfl⟩ | hno
  · have hv := hO.1 o ho
    rw [hCo] at hv
    have hd := gw_dlt ho
    have h12 := (hv t rfl).1
    rcases gw_nam v2 with ⟨n, hn, rfl⟩ | hnn
    · refine gx_hasRef hC hxc hxt ho hCo hv hn (fun h => br_t rfl ?_) (fun h => br_f (by decide) ⟨by rw [gw_e3]; exact vp_in_nI (by omega) (by omega), ?_⟩)
      · exact gy_obj1 hyt ho hCo (gy_kindOf hC hyc hyt ho hCo hv hn (br_f h ⟨rfl, I'⟩))
      · rw [gw_e3, nI_clamp (by omega), hxg o n ho hn]
        refine gy_obj1 hyt ho hCo (gy_kindOf hC hyc hyt ho hCo hv hn (br_t h ⟨by rw [gw_e7]; exact vp_in_nI (by omega) (by omega), ?_⟩))
        rw [gw_e7, nI_clamp (by omega), hyv o n t ho hn hCo, if_pos h]
        cases hT : T (10 * o + n) with
        | none => exact nm_e (br_f (by decide) ⟨rfl, I'⟩)
        | some z =>
          have hz := (hO.2.2.2 o n z ho hn (by rw [hCo]; simp) hT).1
          refine nm_r (e' := nI z) (by show (nI z).toInt64.toInt32 = _; rw [nI_l (by omega), lN_i]) (br_t (nI_pos' (by omega)) (gy_id hz ⟨rfl, I'⟩))
    · exact gx_hasRefN hxt ho hCo h12 hnn (br_t rfl (gy_obj1 hyt ho hCo (gy_kindOfN ho hnn (br_f (by decide) ⟨rfl, I'⟩))))
  · exact gx_hasRef0 hxt hno (br_t rfl (gy_obj0 hyt hno (gy_kindOf0 (br_f (by decide) ⟨rfl, I'⟩))))
theorem i_vc_look {k : Nat} {u : SX} {v : SY} (I : i_Rel k u v) (hk : k + 5 ≤ 2560) (v1 : Int32) : wpX_look (fun r => wpY_look (fun r' => r' = r ∧ i_Rel (k + 5) u v) v v1) u v1 := by
  have I' := I
  obtain ⟨xcu, xar, xrc, xlc, xde, xpt, xve, xok, xlt, xty, xpi, xnu, xtg, xse, xso, xnf, xrn, xre, xrl, xrd, xll, xlr⟩ := u
  obtain ⟨ycu, ydp, ylm, yde, yve, ypa, yow, yla, ycl, ypr, ypi, yar, yva, yfr, yma, ydo, yro⟩ := v
  obtain ⟨D, V, K, P, L, C, S, T, B, F, cu, hC, hO, hX, hY⟩ := I
  obtain ⟨rfl, rfl, rfl, hxc, hxt, hxb, hxf, hxg, hxs, hxu⟩ := hX
  obtain ⟨rfl, rfl, rfl, hyc, hyt, hyb, hyv, hys, hyu⟩ := hY
  unfold wpX_look wpY_look; dsimp only
  rcases gw_obj C v1 with ⟨o, t, ho, hCo, rfl⟩ | hno
  · have hv := hO.1 o ho
    rw [hCo] at hv
    have hd := gw_dlt ho
    have h12 := (hv t rfl).1
    have hi : vp_in (nI (gw_d o)) 48 := vp_in_nI hd (by omega)
    have e1 : xty (nI (gw_d o)).toNatClampNeg = nI t := by rw [nI_clamp (by omega), hxt.1 o ho, hCo]; rfl
    have e2 : xpi (nI (gw_d o)).toNatClampNeg = ypi (nI o).toNatClampNeg := by rw [nI_clamp (by omega), nI_clamp (by omega), hxb o ho, hyb o ho]
    have e3 : ycl (nI o).toNatClampNeg = nI (t % 6) := by rw [nI_clamp (by omega), hyt o ho, hCo]; rfl
    have hj : vp_in (nI o) 32 := vp_in_nI ho (by omega)
    refine gx_obj1 hxt ho hCo h12 (br_f (by decide) ⟨hi, br_c (fun h => ⟨hi, gw_6, ?_⟩) (fun h => ⟨hi, gw_6, ?_⟩)⟩)
    · rw [e2] at h
      exact gy_obj1 hyt ho hCo (br_t (nI_pos' (by omega)) ⟨hj, br_t h ⟨hj, by rw [e1, e3, gw_m6 (by omega)], I'⟩⟩)
    · rw [e2] at h
      exact gy_obj1 hyt ho hCo (br_t (nI_pos' (by omega)) ⟨hj, br_f h ⟨hj, by rw [e1, e3, gw_m6 (by omega)], I'⟩⟩)
  · exact gx_obj0 hxt hno (br_t rfl (gy_obj0 hyt hno (br_f (by decide) ⟨rfl, I'⟩)))
theorem i_vc_sent {k : Nat} {u : SX} {v : SY} (I : i_Rel k u v) (hk : k + 5 ≤ 2560) (v1 : Int32) : wpX_sent (fun r => wpY_sent (fun r' => r' = r ∧ i_Rel (k + 5) u v) v v1) u v1 := by
  have I' := I
  obtain ⟨xcu, xar, xrc, xlc, xde, xpt, xve, xok, xlt, xty, xpi, xnu, xtg, xse, xso, xnf, xrn, xre, xrl, xrd, xll, xlr⟩ := u
  obtain ⟨ycu, ydp, ylm, yde, yve, ypa, yow, yla, ycl, ypr, ypi, yar, yva, yfr, yma, ydo, yro⟩ := v
  obtain ⟨D, V, K, P, L, C, S, T, B, F, cu, hC, hO, hX, hY⟩ := I
  obtain ⟨rfl, rfl, rfl, hxc, hxt, hxb, hxf, hxg, hxs, hxu⟩ := hX
  obtain ⟨rfl, rfl, rfl, hyc, hyt, hyb, hyv, hys, hyu⟩ := hY
  unfold wpX_sent wpY_sent; dsimp only
  rcases gw_obj C v1 with ⟨o, t, ho, hCo, rfl⟩ | hno
  · have hv := hO.1 o ho
    rw [hCo] at hv
    have hd := gw_dlt ho
    have h12 := (hv t rfl).1
    have hj : vp_in (nI o) 32 := vp_in_nI ho (by omega)
    refine gx_obj1 hxt ho hCo h12 (br_f (by decide) ⟨vp_in_nI hd (by omega), gy_obj1 hyt ho hCo (br_f (gw_p0 (by omega)) ⟨hj, ?_⟩)⟩)
    rw [nI_clamp (by omega), nI_clamp (by omega), hxs o ho, hys o ho]
    cases hS : S o with
    | none => exact br_f (by decide) ⟨rfl, I'⟩
    | some q =>
      have hq := (hO.2.1 o q ho hS).1
      exact br_t (nI_pos' (by omega)) ⟨hj, gy_id hq ⟨rfl, I'⟩⟩
  · exact gx_obj0 hxt hno (br_t rfl (gy_obj0 hyt hno (br_t (by decide) ⟨rfl, I'⟩)))
theorem i_vc_pin {k : Nat} {u : SX} {v : SY} (I : i_Rel k u v) (hk : k + 5 ≤ 2560) (v1 : Int32) (v2 : Int32) : wpX_pin (fun r u' => wpY_pin (fun r' v' => r' = r ∧ i_Rel (k + 5) u' v') v v1 (lw_bz v2)) u v1 (lw_bz v2) := by
  have I' := I
  obtain ⟨xcu, xar, xrc, xlc, xde, xpt, xve, xok, xlt, xty, xpi, xnu, xtg, xse, xso, xnf, xrn, xre, xrl, xrd, xll, xlr⟩ := u
  obtain ⟨ycu, ydp, ylm, yde, yve, ypa, yow, yla, ycl, ypr, ypi, yar, yva, yfr, yma, ydo, yro⟩ := v
  obtain ⟨D, V, K, P, L, C, S, T, B, F, cu, hC, hO, hX, hY⟩ := I
  obtain ⟨rfl, rfl, rfl, hxc, hxt, hxb, hxf, hxg, hxs, hxu⟩ := hX
  obtain ⟨rfl, rfl, rfl, hyc, hyt, hyb, hyv, hys, hyu⟩ := hY
  unfold wpX_pin wpY_pin; dsimp only
  rcases gw_obj C v1 with ⟨o, t, ho, hCo, rfl⟩ | hno
  · have hv := hO.1 o ho
    rw [hCo] at hv
    have hd := gw_dlt ho
    have h12 := (hv t rfl).1
    refine gx_obj1 hxt ho hCo h12 (br_f (by decide) ⟨vp_in_nI hd (by omega), nm_r (by rw [nI_clamp (by omega)]) (gy_obj1 hyt ho hCo (br_t (nI_pos' (by omega)) ⟨vp_in_nI ho (by omega), nm_r (by rw [nI_clamp (by omega)]) ⟨rfl, ?_⟩⟩))⟩)
    exact ⟨yde, yve, yow, P, L, C, S, T, gw_u B o (vp_nar .boolean (lw_bz v2)), F, cu, hC, hO, ⟨rfl, rfl, rfl, hxc, hxt, gx_b_u hxb _, hxf, hxg, hxs, hxu⟩, ⟨rfl, rfl, rfl, hyc, hyt, gy_b_u hyb _, hyv, hys, hyu⟩⟩
  · exact gx_obj0 hxt hno (br_t rfl (gy_obj0 hyt hno (br_f (by decide) ⟨rfl, I'⟩)))
theorem i_vc_reset {k : Nat} {u : SX} {v : SY} (I : i_Rel k u v) (hk : k + 5 ≤ 2560) (v1 : Int32) : wpX_reset (fun r u' => wpY_reset (fun r' v' => r' = r ∧ i_Rel (k + 5) u' v') v v1) u v1 := by
  have I' := I
  obtain ⟨xcu, xar, xrc, xlc, xde, xpt, xve, xok, xlt, xty, xpi, xnu, xtg, xse, xso, xnf, xrn, xre, xrl, xrd, xll, xlr⟩ := u
  obtain ⟨ycu, ydp, ylm, yde, yve, ypa, yow, yla, ycl, ypr, ypi, yar, yva, yfr, yma, ydo, yro⟩ := v
  obtain ⟨D, V, K, P, L, C, S, T, B, F, cu, hC, hO, hX, hY⟩ := I
  obtain ⟨rfl, rfl, rfl, hxc, hxt, hxb, hxf, hxg, hxs, hxu⟩ := hX
  obtain ⟨rfl, rfl, rfl, hyc, hyt, hyb, hyv, hys, hyu⟩ := hY
  unfold wpX_reset wpY_reset; dsimp only
  rcases gw_sid v1 with ⟨s, hs, rfl⟩ | hno
  · refine gx_isSide1 hs (br_f (by decide) (gx_empty hs (gy_side1 hs (br_f (by decide) (gy_empty hs ⟨rfl, ?_⟩)))))
    exact ⟨yde, yve, yow, P, L, C, gw_fg S (16 * s) (16 * s + 16) none, T, B, F, cu, hC, gw_O_s hO _ _, ⟨rfl, rfl, rfl, hxc, hxt, hxb, hxf, hxg, gx_s_z hxs hs, hxu⟩, ⟨rfl, rfl, rfl, hyc, hyt, hyb, hyv, gy_s_z hys, hyu⟩⟩
  · exact gx_isSide0 hno (br_t rfl (gy_side0 hno (br_t rfl ⟨rfl, I'⟩)))
end
end
section
/-! set, link, make, define, field -/
section
theorem gx_cut {post : Int64 → Prop} {u : SX} {p0 : Int32} {p1 : Int64} (hp : post (if p0 = 0 then p1.toInt32.toInt8.toInt32.toInt64 else if p0 = 1 then p1.toInt32.toInt16.toInt32.toInt64 else if p0 = 2 then p1.toInt32.toInt64 else p1)) : wpX_cutTo post u p0 p1 := by
  obtain ⟨xcu, xar, xrc, xlc, xde, xpt, xve, xok, xlt, xty, xpi, xnu, xtg, xse, xso, xnf, xrn, xre, xrl, xrd, xll, xlr⟩ := u
  refine br_c (fun h => ?_) (fun h => br_c (fun h1 => ?_) (fun h1 => br_c (fun h2 => ?_) (fun h2 => ?_)))
  · rw [if_pos h] at hp; exact hp
  · rw [if_neg h, if_pos h1] at hp; exact hp
  · rw [if_neg h, if_neg h1, if_pos h2] at hp; exact hp
  · rw [if_neg h, if_neg h1, if_neg h2] at hp; exact hp
theorem i_vc_set {k : Nat} {u : SX} {v : SY} (I : i_Rel k u v) (hk : k + 5 ≤ 2560) (v1 : Int32) (v2 : Int32) (a2 : Int64) : wpX_set (fun r u' => wpY_set (fun r' v' => r' = r ∧ i_Rel (k + 5) u' v') v v1 v2 a2) u v1 v2 a2 := by
  have I' := I
  obtain ⟨xcu, xar, xrc, xlc, xde, xpt, xve, xok, xlt, xty, xpi, xnu, xtg, xse, xso, xnf, xrn, xre, xrl, xrd, xll, xlr⟩ := u
  obtain ⟨ycu, ydp, ylm, yde, yve, ypa, yow, yla, ycl, ypr, ypi, yar, yva, yfr, yma, ydo, yro⟩ := v
  obtain ⟨D, V, K, P, L, C, S, T, B, F, cu, hC, hO, hX, hY⟩ := I
  obtain ⟨rfl, rfl, rfl, hxc, hxt, hxb, hxf, hxg, hxs, hxu⟩ := hX
  obtain ⟨rfl, rfl, rfl, hyc, hyt, hyb, hyv, hys, hyu⟩ := hY
  unfold wpX_set wpY_set; dsimp only
  rcases gw_obj C v1 with ⟨o, t, ho, hCo, rfl⟩ | hno
  · have hv := hO.1 o ho
    rw [hCo] at hv
    have hd := gw_dlt ho
    have h12 := (hv t rfl).1
    rcases gw_nam v2 with ⟨n, hn, rfl⟩ | hnn
    · refine gx_hasNum hC hxc hxt ho hCo hv hn (fun h => br_t rfl ?_) (fun h h' => br_f (by decide) ⟨vp_in_nI hd (by omega), ?_⟩)
      · refine gy_obj1 hyt ho hCo (gy_kindOf hC hyc hyt ho hCo hv hn ?_)
        rcases h with h | h
        · exact br_t (by rw [h]; decide) ⟨rfl, I'⟩
        · exact br_f (by rw [h]; decide) (br_t h ⟨rfl, I'⟩)
      · rw [nI_clamp (by omega), hxt.1 o ho, hCo]
        refine gx_kind hC hxc hn hv (gx_cut ⟨by rw [gw_e3]; exact vp_in_nI (by omega) (by omega), nm_r (by rw [gw_e3, nI_clamp (by omega)]) ?_⟩)
        have fin : ∀ x : Int64, i_Rel (k + 5) (xcu, xar, xrc, xlc, yde, xpt, yve, yow, xlt, xty, xpi, vp_updL xnu (10 * gw_d o + n) x, xtg, xse, xso, xnf, xrn, xre, xrl, xrd, xll, xlr) (ycu, ydp, ylm, yde, yve, ypa, yow, yla, ycl, ypr, ypi, yar, vp_updL yva (10 * o + n) x, yfr, yma, ydo, yro) := fun x => ⟨yde, yve, yow, P, L, C, S, T, B, gw_u F (10 * o + n) x, cu, hC, gw_O_f hO hn hCo h' x, ⟨rfl, rfl, rfl, hxc, hxt, hxb, gx_f_u hxf hn x, hxg, hxs, hxu⟩, ⟨rfl, rfl, rfl, hyc, hyt, hyb, gy_v_f hyv hn hCo h' x, hys, hyu⟩⟩
        have hi : vp_in (10 * nI o + nI n) 320 := by rw [gw_e7]; exact vp_in_nI (by omega) (by omega)
        have e : (10 * nI o + nI n).toNatClampNeg = 10 * o + n := by rw [gw_e7, nI_clamp (by omega)]
        refine gy_obj1 hyt ho hCo (gy_kindOf hC hyc hyt ho hCo hv hn ?_)
        rcases gw_kd_r hC hv hn with e1 | ⟨m, hm, e1⟩
        · exact absurd e1 h
        · refine br_f (by rw [e1]; exact gw_p0 (by omega)) (br_f h' (br_c (fun h0 => ⟨hi, nm_r (by rw [e]) ⟨rfl, ?_⟩⟩) (fun h0 => br_c (fun h1 => ⟨hi, nm_r (by rw [e]) ⟨rfl, ?_⟩⟩) (fun h1 => br_c (fun h2 => ⟨hi, nm_r (by rw [e]) ⟨rfl, ?_⟩⟩) (fun h2 => ⟨hi, nm_r (by rw [e]) ⟨rfl, ?_⟩⟩)))))
          · rw [if_pos h0]; exact fin _
          · rw [if_neg h0, if_pos h1]; exact fin _
          · rw [if_neg h0, if_neg h1, if_pos h2]; exact fin _
          · rw [if_neg h0, if_neg h1, if_neg h2]; exact fin _
    · exact gx_hasNumN hxt ho hCo h12 hnn (br_t rfl (gy_obj1 hyt ho hCo (gy_kindOfN ho hnn (br_t (by decide) ⟨rfl, I'⟩))))
  · exact gx_hasNum0 hxt hno (br_t rfl (gy_obj0 hyt hno (gy_kindOf0 (br_t (by decide) ⟨rfl, I'⟩))))
theorem i_vc_link {k : Nat} {u : SX} {v : SY} (I : i_Rel k u v) (hk : k + 5 ≤ 2560) (v1 : Int32) (v2 : Int32) (v3 : Int32) : wpX_link (fun r u' => wpY_link (fun r' v' => r' = r ∧ i_Rel (k + 5) u' v') v v1 v2 v3) u v1 v2 v3 := by
  have I' := I
  obtain ⟨xcu, xar, xrc, xlc, xde, xpt, xve, xok, xlt, xty, xpi, xnu, xtg, xse, xso, xnf, xrn, xre, xrl, xrd, xll, xlr⟩ := u
  obtain ⟨ycu, ydp, ylm, yde, yve, ypa, yow, yla, ycl, ypr, ypi, yar, yva, yfr, yma, ydo, yro⟩ := v
  obtain ⟨D, V, K, P, L, C, S, T, B, F, cu, hC, hO, hX, hY⟩ := I
  obtain ⟨rfl, rfl, rfl, hxc, hxt, hxb, hxf, hxg, hxs, hxu⟩ := hX
  obtain ⟨rfl, rfl, rfl, hyc, hyt, hyb, hyv, hys, hyu⟩ := hY
  unfold wpX_link wpY_link; dsimp only
  have yob : ∀ (post : Int32 → Prop), (∀ x, post x) → wpY_object post (ycu, ydp, ylm, yde, yve, ypa, yow, yla, ycl, ypr, ypi, yar, yva, yfr, yma, ydo, yro) v3 := fun post hp => by
    rcases gw_obj C v3 with ⟨z, r, hz, hCz, rfl⟩ | hno
    · exact gy_obj1 hyt hz hCz (hp _)
    · exact gy_obj0 hyt hno (hp _)
  rcases gw_obj C v1 with ⟨o, t, ho, hCo, rfl⟩ | hno
  · have hv := hO.1 o ho
    rw [hCo] at hv
    have hd := gw_dlt ho
    have h12 := (hv t rfl).1
    rcases gw_nam v2 with ⟨n, hn, rfl⟩ | hnn
    · refine gx_hasRef hC hxc hxt ho hCo hv hn (fun h => br_t rfl (gy_obj1 hyt ho hCo (yob _ (fun x => gy_kindOf hC hyc hyt ho hCo hv hn (br_f h ⟨rfl, I'⟩))))) (fun h => br_f (by decide) ?_)
      have fin : ∀ x : Option Nat, (∀ z, x = some z → z < 32 ∧ z / 16 = o / 16 ∧ C z ≠ none) → i_Rel (k + 5) (xcu, xar, xrc, xlc, yde, xpt, yve, yow, xlt, xty, xpi, xnu, upd xtg (10 * gw_d o + n) (gw_g x), xse, xso, xnf, xrn, xre, xrl, xrd, xll, xlr) (ycu, ydp, ylm, yde, yve, ypa, yow, yla, ycl, ypr, ypi, yar, vp_updL yva (10 * o + n) (gw_o x).toInt64, yfr, yma, ydo, yro) := fun x hx => ⟨yde, yve, yow, P, L, C, S, gw_u T (10 * o + n) x, B, F, cu, hC, gw_O_g hO hn hCo h x hx, ⟨rfl, rfl, rfl, hxc, hxt, hxb, hxf, gx_g_u hxg hn x, hxs, hxu⟩, ⟨rfl, rfl, rfl, hyc, hyt, hyb, gy_v_g hyv hn hCo h x, hys, hyu⟩⟩
      have hi : vp_in (10 * nI o + nI n) 320 := by rw [gw_e7]; exact vp_in_nI (by omega) (by omega)
      have e : (10 * nI o + nI n).toNatClampNeg = 10 * o + n := by rw [gw_e7, nI_clamp (by omega)]
      have hi' : vp_in (nI (gw_d o) * 10 + nI n) 480 := by rw [gw_e3]; exact vp_in_nI (by omega) (by omega)
      have e' : (nI (gw_d o) * 10 + nI n).toNatClampNeg = 10 * gw_d o + n := by rw [gw_e3, nI_clamp (by omega)]
      by_cases h3 : v3 = -1
      · subst h3
        exact br_t rfl ⟨hi', nm_r (by rw [e']; rfl) (gy_obj1 hyt ho hCo (gy_m1 (gy_kindOf hC hyc hyt ho hCo hv hn (br_t h (br_t rfl ⟨hi, nm_r (by rw [e]; rfl) ⟨rfl, fin none (fun z hz => absurd hz (by simp))⟩⟩)))))⟩
      · refine br_f h3 ?_
        rcases gw_obj C v3 with ⟨z, r, hz, hCz, rfl⟩ | hno
        · have hvz := hO.1 z hz
          rw [hCz] at hvz
          have hdz := gw_dlt hz
          refine gx_obj1 hxt hz hCz (hvz r rfl).1 (br_f (by decide) ⟨gw_32, gw_32, ?_⟩)
          have q1 : (nI (gw_d z) / 32 = nI (gw_d o) / 32) ↔ z / 16 = o / 16 := by rw [gw_q32 (by omega), gw_q32 (by omega), nI_eq (by omega) (by omega), gw_dd, gw_dd]
          have q2 : (nI z / 16 = nI o / 16) ↔ z / 16 = o / 16 := by rw [gw_q16 (by omega), gw_q16 (by omega), nI_eq (by omega) (by omega)]
          refine ek_if q1 (fun hs => ⟨hi', nm_r (by rw [e']) ?_⟩) (fun hs => ?_)
          · exact gy_obj1 hyt ho hCo (gy_obj1 hyt hz hCz (gy_kindOf hC hyc hyt ho hCo hv hn (br_t h (br_f h3 (br_f (gw_p0 (by omega)) ⟨gw_16, gw_16, br_t (q2.mpr hs) ⟨hi, nm_r (by rw [e]; rfl) ⟨rfl, fin (some z) (fun a ha => by cases ha; exact ⟨hz, hs, by rw [hCz]; simp⟩)⟩⟩⟩)))))
          · exact gy_obj1 hyt ho hCo (gy_obj1 hyt hz hCz (gy_kindOf hC hyc hyt ho hCo hv hn (br_t h (br_f h3 (br_f (gw_p0 (by omega)) ⟨gw_16, gw_16, br_f (fun a => hs (q2.mp a)) ⟨rfl, I'⟩⟩)))))
        · exact gx_obj0 hxt hno (br_t rfl (gy_obj1 hyt ho hCo (gy_obj0 hyt hno (gy_kindOf hC hyc hyt ho hCo hv hn (br_t h (br_f h3 (br_t (by decide) ⟨rfl, I'⟩)))))))
    · exact gx_hasRefN hxt ho hCo h12 hnn (br_t rfl (gy_obj1 hyt ho hCo (yob _ (fun x => gy_kindOfN ho hnn (br_f (by decide) ⟨rfl, I'⟩)))))
  · exact gx_hasRef0 hxt hno (br_t rfl (gy_obj0 hyt hno (yob _ (fun x => gy_kindOf0 (br_f (by decide) ⟨rfl, I'⟩)))))
theorem gw_nge {a : Nat} {p : Int32} (h : p < 0 ∨ nI (a + 1) ≤ p) (h0 : ¬ p < 0) (ha : a + 1 < 2 ^ 31) : nI a < p := by
  obtain ⟨j, hj, rfl⟩ := nI_of h0
  have h2 := h.resolve_left h0
  rw [nI_leI ha hj] at h2
  exact nI_lt (by omega) hj
theorem i_vc_make {k : Nat} {u : SX} {v : SY} (I : i_Rel k u v) (hk : k + 5 ≤ 2560) (v1 : Int32) (v2 : Int32) : wpX_make (fun r u' => wpY_make (fun r' v' => r' = r ∧ i_Rel (k + 5) u' v') v v1 v2) u v1 v2 := by
  have I' := I
  obtain ⟨xcu, xar, xrc, xlc, xde, xpt, xve, xok, xlt, xty, xpi, xnu, xtg, xse, xso, xnf, xrn, xre, xrl, xrd, xll, xlr⟩ := u
  obtain ⟨ycu, ydp, ylm, yde, yve, ypa, yow, yla, ycl, ypr, ypi, yar, yva, yfr, yma, ydo, yro⟩ := v
  obtain ⟨D, V, K, P, L, C, S, T, B, F, cu, hC, hO, hX, hY⟩ := I
  obtain ⟨rfl, rfl, rfl, hxc, hxt, hxb, hxf, hxg, hxs, hxu⟩ := hX
  obtain ⟨rfl, rfl, rfl, hyc, hyt, hyb, hyv, hys, hyu⟩ := hY
  unfold wpX_make wpY_make; dsimp only
  rcases gw_sid v1 with ⟨s, hs, rfl⟩ | hno
  · refine gx_isSide1 hs (br_f (by decide) ?_)
    rcases gw_cls v2 with ⟨c, hc, rfl⟩ | hnc
    · have hi : vp_in (6 * nI s + nI c) 12 := by rw [gw_e2]; exact vp_in_nI (by omega) (by omega)
      have e : (6 * nI s + nI c).toNatClampNeg = 6 * s + c := by rw [gw_e2, nI_clamp (by omega)]
      refine gx_class hs hc (fun h => br_t rfl ?_) (fun h => br_f (by decide) (gx_free hO.1 hxt hs ?_))
      · exact gy_side1 hs (br_f (by decide) (br_f (gw_p0 (by omega)) (br_f (nI_nlt (a := 5) (by omega) (by omega)) ⟨hi, br_t (by rw [e]; exact h) ⟨rfl, I'⟩⟩)))
      · have yw : ∀ post : Int32 → SY → Prop, (∀ fr, fr = gw_fr C s → wpY_make post (ycu, ydp, ylm, yde, yve, ypa, yow, yla, ycl, ypr, ypi, yar, yva, yfr, yma, ydo, yro) (nI s) (nI c)) → wpY_make post (ycu, ydp, ylm, yde, yve, ypa, yow, yla, ycl, ypr, ypi, yar, yva, yfr, yma, ydo, yro) (nI s) (nI c) := fun post hp => hp _ rfl
        cases hf : gw_fr C s with
        | none =>
          exact br_t rfl (gy_side1 hs (br_f (by decide) (br_f (gw_p0 (by omega)) (br_f (nI_nlt (a := 5) (by omega) (by omega)) ⟨hi, br_f (by rw [e]; exact h) (gy_free hO.1 hyt hs (by rw [hf]; exact br_f (by decide) ⟨rfl, I'⟩))⟩))))
        | some o =>
          obtain ⟨f1, f2, f3⟩ := gw_fr_p hf
          have ho : o < 32 := by omega
          have hd := gw_dlt ho
          have et : 6 * (o / 16) + (6 * s + c) % 6 = 6 * s + c := by omega
          have hv : gw_v yde (o / 16) (some (6 * s + c)) := gw_v_mk (by omega) (by omega) h
          refine br_f (gw_nm (by omega)) (gx_place hd ⟨vp_in_nI hd (by omega), nm_r (by rw [show gw_g (some o) = nI (gw_d o) from rfl, nI_clamp (by omega), gw_n1]) ⟨gw_32, ?_⟩⟩)
          refine gy_side1 hs (br_f (by decide) (br_f (gw_p0 (by omega)) (br_f (nI_nlt (a := 5) (by omega) (by omega)) ⟨hi, br_f (by rw [e]; exact h) (gy_free hO.1 hyt hs ?_)⟩)))
          rw [hf]
          refine br_t (nI_pos' (by omega)) ?_
          have ec : nI c = nI ((6 * s + c) % 6) := congrArg nI (by omega)
          rw [ec]
          refine gy_create hC hyc ho hv ⟨vp_in_nI ho (by omega), nm_r (by rw [show gw_o (some o) = nI o from rfl, nI_clamp (by omega), gw_n1]) ⟨gw_16, ?_, ?_⟩⟩
          · show nI o - nI o / 16 * 16 = nI (gw_d o) - nI (gw_d o) / 32 * 32
            rw [gw_m16 (by omega), gw_m32 (by omega), gw_dm]
          · rw [← ec, gw_e1]
            exact ⟨yde, yve, yow, P, L, gw_u C o (some (6 * s + c)), gw_u S o none, gw_fg T (10 * o) (10 * o + 10) none, gw_u (gw_u B o 0) o 1, gw_fg F (10 * o) (10 * o + 10) 0, cu, hC, gw_O_new hO ho f3 hv, ⟨rfl, rfl, rfl, hxc, gx_t_u hxt ho _, gx_b_u (gx_b_u hxb _) _, gx_f_z hxf _, gx_g_z hxg none, gx_s_u hxs none, hxu⟩, ⟨rfl, rfl, rfl, hyc, by rw [ec]; exact gy_t_u hyt (some (6 * s + c)), gy_b_u (gy_b_u hyb _) _, gy_v_new hyv, gy_s_u hys none, hyu⟩⟩
    · refine gx_class0 hnc (br_t rfl (gy_side1 hs (br_f (by decide) (br_c (fun _ => ⟨rfl, I'⟩) (fun h0 => br_t (gw_nge (a := 5) hnc h0 (by omega)) ⟨rfl, I'⟩)))))
  · exact gx_isSide0 hno (br_t rfl (gy_side0 hno (br_t rfl ⟨rfl, I'⟩)))
/-! define -/
theorem gx_C_def {D : Nat → Int32} {P L : Nat → Option Nat} {xpt xlt : Nat → Int32} (h : gx_C D P L xpt xlt) {s t : Nat} {x : Option Nat} : gx_C (upd D t 1) (gw_u P t x) (gw_u L s (some t)) (upd xpt t (gw_o x)) (upd xlt s (nI t)) := by
  refine ⟨fun a ha hd => ?_, fun a ha => ?_⟩
  · by_cases e : a = t
    · subst e; rw [pk_us, gw_us]
    · rw [pk_un e] at hd ⊢; rw [gw_un e]; exact h.1 a ha hd
  · by_cases e : a = s
    · subst e; rw [pk_us, gw_us]; rfl
    · rw [pk_un e, gw_un e]; exact h.2 a ha
theorem gy_C_def {D : Nat → Int32} {P L : Nat → Option Nat} {ypa yla : Nat → Int32} (h : gy_C D P L ypa yla) {s t : Nat} {x : Option Nat} : gy_C (upd D t 1) (gw_u P t x) (gw_u L s (some t)) (upd ypa t (gw_c x)) (upd yla s (nI (t % 6))) := by
  refine ⟨fun a ha hd => ?_, fun a ha => ?_⟩
  · by_cases e : a = t
    · subst e; rw [pk_us, gw_us]
    · rw [pk_un e] at hd ⊢; rw [gw_un e]; exact h.1 a ha hd
  · by_cases e : a = s
    · subst e; rw [pk_us, gw_us]; rfl
    · rw [pk_un e, gw_un e]; exact h.2 a ha
theorem gw_an_lt {D K : Nat → Int32} {P L : Nat → Option Nat} (hC : gw_C D K P L) {s t k : Nat} (h : gw_v D s (some t)) : (gw_o (gw_an P k (some t)) = -1 ↔ gw_an P k (some t) = none) ∧ (gw_c (gw_an P k (some t)) < 0 ↔ gw_an P k (some t) = none) := by
  have := gw_v_an hC k _ h
  cases e : gw_an P k (some t) with
  | none => exact ⟨⟨fun _ => rfl, fun _ => rfl⟩, ⟨fun _ => rfl, fun _ => by decide⟩⟩
  | some a =>
    have ha := (this a e).1
    exact ⟨⟨fun z => absurd z (gw_nm (by omega)), fun z => absurd z (by simp)⟩, ⟨fun z => absurd z (gw_p0 (by omega)), fun z => absurd z (by simp)⟩⟩
theorem i_vc_define {k : Nat} {u : SX} {v : SY} (I : i_Rel k u v) (hk : k + 5 ≤ 2560) (v1 : Int32) (v2 : Int32) (v3 : Int32) (v4 : Int32) : wpX_define (fun r u' => wpY_define (fun r' v' => r' = r ∧ i_Rel (k + 5) u' v') v v1 v2 v3 v4) u v1 v2 v3 v4 := by
  have I' := I
  obtain ⟨xcu, xar, xrc, xlc, xde, xpt, xve, xok, xlt, xty, xpi, xnu, xtg, xse, xso, xnf, xrn, xre, xrl, xrd, xll, xlr⟩ := u
  obtain ⟨ycu, ydp, ylm, yde, yve, ypa, yow, yla, ycl, ypr, ypi, yar, yva, yfr, yma, ydo, yro⟩ := v
  obtain ⟨D, V, K, P, L, C, S, T, B, F, cu, hC, hO, hX, hY⟩ := I
  obtain ⟨rfl, rfl, rfl, hxc, hxt, hxb, hxf, hxg, hxs, hxu⟩ := hX
  obtain ⟨rfl, rfl, rfl, hyc, hyt, hyb, hyv, hys, hyu⟩ := hY
  unfold wpX_define wpY_define; dsimp only
  rcases gw_sid v1 with ⟨s, hs, rfl⟩ | hno
  · refine gx_isSide1 hs (br_f (by decide) ?_)
    rcases gw_cls v2 with ⟨c, hc, rfl⟩ | hnc
    · refine br_f (gw_p0 (by omega)) (br_f (nI_ge (b := 6) hc (by omega)) ?_)
      have ys : ∀ A : Prop, A → A := fun _ a => a
      have hi : ∀ c, c < 6 → vp_in (6 * nI s + nI c) 12 := fun c hc => by rw [gw_e2]; exact vp_in_nI (by omega) (by omega)
      have e : ∀ c, c < 6 → (6 * nI s + nI c).toNatClampNeg = 6 * s + c := fun c hc => by rw [gw_e2, nI_clamp (by omega)]
      have n5 : ∀ c, c < 6 → ¬ (5 : Int32) < nI c := fun c hc => nI_nlt (a := 5) (by omega) (by omega)
      -- success, on both sides
      have fin : ∀ x : Option Nat, gw_v yde s x → yde (6 * s + c) = 0 → i_Rel (k + 5) (xcu, xar, xrc, xlc, upd yde (6 * s + c) 1, upd xpt (6 * s + c) (gw_o x), upd yve (6 * s + c) v4, yow, upd xlt s (nI (6 * s + c)), xty, xpi, xnu, xtg, xse, xso, xnf, xrn, xre, xrl, xrd, xll, xlr) (ycu, ydp, ylm, upd yde (6 * s + c) 1, upd yve (6 * s + c) v4, upd ypa (6 * s + c) (gw_c x), yow, upd yla s (nI c), ycl, ypr, ypi, yar, yva, yfr, yma, ydo, yro) := fun x hx h0 => by
        refine ⟨upd yde (6 * s + c) 1, upd yve (6 * s + c) v4, yow, gw_u P (6 * s + c) x, gw_u L s (some (6 * s + c)), C, S, T, B, F, cu, gw_C_def hC hs (by omega) (by omega) h0 hx, gw_O_def hC hO h0, ⟨rfl, rfl, rfl, gx_C_def hxc, hxt, hxb, hxf, hxg, hxs, hxu⟩, ⟨rfl, rfl, rfl, ?_, hyt, hyb, gy_v_def hC hO hyv h0, hys, hyu⟩⟩
        have := gy_C_def (s := s) (t := 6 * s + c) (x := x) hyc
        rw [show (6 * s + c) % 6 = c by omega] at this
        exact this
      have xfin : ∀ (post : Int32 → SX → Prop) (x : Int32), post 1 (xcu, xar, xrc, xlc, upd yde (6 * s + c) 1, upd xpt (6 * s + c) x, upd yve (6 * s + c) v4, yow, upd xlt s (nI (6 * s + c)), xty, xpi, xnu, xtg, xse, xso, xnf, xrn, xre, xrl, xrd, xll, xlr) → wX_define_69 post (nI s) (nI c) v4 x xcu xar xrc xlc yde xpt yve yow xlt xty xpi xnu xtg xse xso xnf xrn xre xrl xrd xll xlr := fun post x hp => by
        have hi2 : vp_in (nI (6 * s + c)) 12 := vp_in_nI (by omega) (by omega)
        have e2 : (nI (6 * s + c)).toNatClampNeg = 6 * s + c := nI_clamp (by omega)
        exact nm_r (gw_e1 s c) ⟨hi2, nm_r (by rw [e2, gw_n1]) ⟨hi2, nm_r (by rw [e2]) ⟨hi2, nm_r (by rw [e2]) ⟨vp_in_nI hs (by omega), nm_r (by rw [nI_clamp (by omega)]) hp⟩⟩⟩⟩
      have yfin : ∀ (post : Int32 → SY → Prop) (x : Int32), post 1 (ycu, ydp, ylm, upd yde (6 * s + c) 1, upd yve (6 * s + c) v4, upd ypa (6 * s + c) x, yow, upd yla s (nI c), ycl, ypr, ypi, yar, yva, yfr, yma, ydo, yro) → wY_define_73 post (nI s) (nI c) x v4 ycu ydp ylm yde yve ypa yow yla ycl ypr ypi yar yva yfr yma ydo yro := fun post x hp =>
        ⟨hi c hc, nm_r (by rw [e c hc, gw_n1]) ⟨hi c hc, nm_r (by rw [e c hc]) ⟨hi c hc, nm_r (by rw [e c hc]) ⟨vp_in_nI hs (by omega), nm_r (by rw [nI_clamp (by omega)]) hp⟩⟩⟩⟩
      refine gx_class hs hc (fun h => br_t rfl ?_) (fun h => br_f (by decide) ?_)
      · by_cases h3 : v3 = -1
        · subst h3
          refine br_t rfl (xfin _ _ ?_)
          exact gy_side1 hs (br_f (by decide) (br_f (gw_p0 (by omega)) (br_f (n5 c hc) ⟨hi c hc, br_t (by rw [e c hc]; exact h) (br_f (by decide) (br_t (by decide) (br_t (by decide) (yfin _ _ ⟨rfl, fin none (fun a ha => absurd ha (by simp)) h⟩))))⟩)))
        · refine br_f h3 ?_
          rcases gw_cls v3 with ⟨p, hp, rfl⟩ | hnp
          · have yto : ∀ (post : Int32 → SY → Prop), ((yde (6 * s + p) = 0 → post 0 (ycu, ydp, ylm, yde, yve, ypa, yow, yla, ycl, ypr, ypi, yar, yva, yfr, yma, ydo, yro)) ∧ (¬ yde (6 * s + p) = 0 → wpY_chain (fun r_37 => (((r_37 < 0 → (wY_define_73 post (nI s) (nI c) (nI p) v4 ycu ydp ylm yde yve ypa yow yla ycl ypr ypi yar yva yfr yma ydo yro)) ∧ (¬ r_37 < 0 → (post 0 (ycu, ydp, ylm, yde, yve, ypa, yow, yla, ycl, ypr, ypi, yar, yva, yfr, yma, ydo, yro)))))) (ycu, ydp, ylm, yde, yve, ypa, yow, yla, ycl, ypr, ypi, yar, yva, yfr, yma, ydo, yro) (nI s) (nI p) 2)) → wpY_define post (ycu, ydp, ylm, yde, yve, ypa, yow, yla, ycl, ypr, ypi, yar, yva, yfr, yma, ydo, yro) (nI s) (nI c) (nI p) v4 := fun post hq => by
              unfold wpY_define; dsimp only
              refine gy_side1 hs (br_f (by decide) (br_f (gw_p0 (by omega)) (br_f (n5 c hc) ⟨hi c hc, br_t (by rw [e c hc]; exact h) (br_f ?_ (br_t (nI_le (b := 5) (by omega) (by omega)) (br_f (gw_p0 (by omega)) ⟨hi p hp, ?_⟩)))⟩)))
              · intro z
                exact absurd (Int32.lt_trans z (by decide)) (gw_p0 (n := p) (by omega))
              · rw [e p hp]
                exact hq
            refine gx_class hs hp (fun h4 => br_t rfl ?_) (fun h4 => br_f (by decide) (nm_r (gw_e1 s p) ?_))
            · have := yto (fun r' v' => r' = 0 ∧ i_Rel (k + 5) (xcu, xar, xrc, xlc, yde, xpt, yve, yow, xlt, xty, xpi, xnu, xtg, xse, xso, xnf, xrn, xre, xrl, xrd, xll, xlr) v') (br_t h4 ⟨rfl, I'⟩)
              unfold wpY_define at this; dsimp only at this
              exact this
            · have hvp : gw_v yde s (some (6 * s + p)) := gw_v_mk (by omega) (by omega) h4
              obtain ⟨q1, q2⟩ := gw_an_lt (k := 2) hC hvp
              refine gx_ancestor hC hxc (k := 2) (by omega) hvp (ek_if q1 (fun h5 => xfin _ _ ?_) (fun h5 => ?_))
              · have := yto (fun r' v' => r' = 1 ∧ i_Rel (k + 5) (xcu, xar, xrc, xlc, upd yde (6 * s + c) 1, upd xpt (6 * s + c) (nI (6 * s + p)), upd yve (6 * s + c) v4, yow, upd xlt s (nI (6 * s + c)), xty, xpi, xnu, xtg, xse, xso, xnf, xrn, xre, xrl, xrd, xll, xlr) v') (br_f h4 (gy_chain hC hyc (k := 2) (by omega) hp hvp (br_t (q2.mpr h5) (yfin _ _ ⟨rfl, by
                  have f := fin (some (6 * s + p)) hvp h
                  rw [show gw_c (some (6 * s + p)) = nI p from congrArg nI (by omega)] at f
                  exact f⟩))))
                unfold wpY_define at this; dsimp only at this
                exact this
              · have := yto (fun r' v' => r' = 0 ∧ i_Rel (k + 5) (xcu, xar, xrc, xlc, yde, xpt, yve, yow, xlt, xty, xpi, xnu, xtg, xse, xso, xnf, xrn, xre, xrl, xrd, xll, xlr) v') (br_f h4 (gy_chain hC hyc (k := 2) (by omega) hp hvp (br_f (fun z => h5 (q2.mp z)) ⟨rfl, I'⟩)))
                unfold wpY_define at this; dsimp only at this
                exact this
          · refine gx_class0 hnp (br_t rfl (gy_side1 hs (br_f (by decide) (br_f (gw_p0 (by omega)) (br_f (n5 c hc) ⟨hi c hc, br_t (by rw [e c hc]; exact h) (br_c (fun _ => ⟨rfl, I'⟩) (fun h6 => br_f (fun h7 => ?_) ⟨rfl, I'⟩))⟩)))))
            rcases hnp with z | z
            · -- -1 < v3 < 0 is nothing
              rw [Int32.lt_iff_toInt_lt] at z h6
              have z0 : (0 : Int32).toInt = 0 := by decide
              have z1 : (-1 : Int32).toInt = -1 := by decide
              rw [z0] at z
              rw [z1] at h6
              exact h3 (Int32.toInt_inj.mp (by rw [z1]; omega))
            · exact absurd (Int32.le_trans z h7) (by decide)
      · exact gy_side1 hs (br_f (by decide) (br_f (gw_p0 (by omega)) (br_f (n5 c hc) ⟨hi c hc, br_f (by rw [e c hc]; exact h) ⟨rfl, I'⟩⟩)))
    · refine br_c (fun h0 => gy_side1 hs (br_f (by decide) (br_t h0 ⟨rfl, I'⟩))) (fun h0 => br_t (hnc.resolve_left h0) (gy_side1 hs (br_f (by decide) (br_f h0 (br_t (gw_nge (a := 5) hnc h0 (by omega)) ⟨rfl, I'⟩)))))
  · exact gx_isSide0 hno (br_t rfl (gy_side0 hno (br_t rfl ⟨rfl, I'⟩)))
end
end
section
/-! field -/
section
variable {D V K B : Nat → Int32} {P L C S T : Nat → Option Nat} {F : Nat → Int64} {cu : Option Nat}
theorem gw_ct_le {t : Nat} : ∀ m, gw_ct K t m ≤ m := by
  intro m
  induction m with
  | zero => exact Nat.le_refl _
  | succ m ih =>
    show gw_ct K t m + _ ≤ _
    by_cases h : K (10 * t + m) = -1
    · rw [if_pos h]; omega
    · rw [if_neg h]; omega
theorem gw_cC {D : Nat → Int32} {s c : Nat} {o : Option Nat} (h : gw_v D s o) (hc : c < 6) : gw_c o = nI c ↔ o = some (6 * s + c) := by
  cases o with
  | none => exact ⟨fun z => absurd z.symm (gw_nm (by omega)), fun z => absurd z (by simp)⟩
  | some a =>
    obtain ⟨h1, h2, _⟩ := h a rfl
    show nI (a % 6) = nI c ↔ _
    rw [nI_eq (by omega) (by omega), Option.some.injEq]
    omega
theorem gw_oC {D : Nat → Int32} {s t : Nat} {o : Option Nat} (h : gw_v D s o) (ht : t < 12) : gw_o o = nI t ↔ o = some t := by
  cases o with
  | none => exact ⟨fun z => absurd z.symm (gw_nm (by omega)), fun z => absurd z (by simp)⟩
  | some a =>
    obtain ⟨h1, _, _⟩ := h a rfl
    show nI a = nI t ↔ _
    rw [nI_eq (by omega) (by omega), Option.some.injEq]
section
variable {xcu xar xrc xlc : Int32} {xde xpt xve xok xlt xty xpi : Nat → Int32} {xnu : Nat → Int64} {xtg xse xso xnf xrn xre xrl xrd xll xlr : Nat → Int32}
theorem gx_cnt {post : Int32 → Prop} {t : Nat} (ht : t < 12) (hp : post (nI (gw_ct xok t 10))) : ∀ d j, j + d = 10 → wX_countOwnFields_4 post (nI t) xcu xar xrc xlc xde xpt xve xok xlt xty xpi xnu xtg xse xso xnf xrn xre xrl xrd xll xlr (d + 1) (nI (gw_ct xok t j)) (nI j) := by
  intro d
  induction d with
  | zero =>
    intro j h1
    have : j = 10 := by omega
    subst this
    exact br_t (nI_le (a := 10) (by omega) (by omega)) hp
  | succ d ih =>
    intro j h1
    have e := gw_e3 t j
    refine br_f (nI_ge (b := 10) (by omega) (by omega)) ⟨by rw [e]; exact vp_in_nI (by omega) (by omega), ?_⟩
    rw [e, nI_clamp (by omega)]
    have hs : gw_ct xok t (j + 1) = gw_ct xok t j + (if xok (10 * t + j) = -1 then 0 else 1) := rfl
    have := ih (j + 1) (by omega)
    by_cases h : xok (10 * t + j) = -1
    · rw [if_pos h] at hs
      rw [hs] at this
      exact br_t h (nm_r (nI_1 j) this)
    · rw [if_neg h] at hs
      rw [hs] at this
      exact br_f h (nm_r (nI_1 _) (nm_r (nI_1 j) this))
theorem gx_hob (hv : ∀ o, o < 32 → gw_v D (o / 16) (C o)) (hx : gx_t C xty) {post : Int32 → Prop} {t : Nat} (ht : t < 12) (h1 : (∃ o, o < 32 ∧ C o = some t) → post 1) (h0 : (∀ o, o < 32 → C o ≠ some t) → post 0) : ∀ d i, i + d = 48 → (∀ o, o < 32 → gw_d o < i → C o ≠ some t) → wX_hasObjects_2 post (nI t) xcu xar xrc xlc xde xpt xve xok xlt xty xpi xnu xtg xse xso xnf xrn xre xrl xrd xll xlr (d + 1) (nI i) := by
  intro d
  induction d with
  | zero =>
    intro i hi hb
    exact br_t (nI_le (a := 48) (by omega) (by omega)) (h0 (fun o ho => hb o ho (by have := gw_dlt ho; omega)))
  | succ d ih =>
    intro i hi hb
    refine br_f (nI_ge (b := 48) (by omega) (by omega)) ⟨vp_in_nI (by omega) (by omega), ?_⟩
    rw [nI_clamp (by omega)]
    by_cases hm : 16 ≤ i ∧ i < 32
    · rw [hx.2 i hm.1 hm.2]
      refine br_f (fun z => absurd z.symm (gw_nm (by omega))) (nm_r (nI_1 i) (ih (i + 1) (by omega) (fun o ho hlt => hb o ho (by unfold gw_d at hlt ⊢; omega))))
    · have ed : gw_d (i - i / 32 * 16) = i := by unfold gw_d; omega
      have hxo := hx.1 (i - i / 32 * 16) (by omega)
      rw [ed] at hxo
      rw [hxo]
      refine ek_if (gw_oC (hv _ (by omega)) ht) (fun h => h1 ⟨_, by omega, h⟩) (fun h => nm_r (nI_1 i) (ih (i + 1) (by omega) (fun o ho hlt => ?_)))
      by_cases e : gw_d o = i
      · have : o = i - i / 32 * 16 := gw_dinj (e.trans ed.symm)
        rw [this]; exact h
      · exact hb o ho (by omega)
end
section
variable {ycu ydp ylm : Int32} {yde yve ypa yow yla ycl ypr ypi yar : Nat → Int32} {yva : Nat → Int64} {yfr yma ydo yro : Nat → Int32}
theorem gy_cnt {post : Int32 → SY → Prop} {s c : Nat} {x3 x4 : Int32} (hs : s < 2) (hc : c < 6) (hv : ∀ i, i < 120 → ¬ yow i = -1 → ∃ n, n ≤ 4 ∧ yow i = nI n) (hp : ∃ n81, wY_field_81 post (nI s) (nI c) x3 x4 (nI (gw_ct yow (6 * s + c) 10)) ycu ydp ylm yde yve ypa yow yla ycl ypr ypi yar yva yfr yma ydo yro n81 0) : ∀ d j, j + d = 10 → wY_field_51 post (nI s) (nI c) x3 x4 ycu ydp ylm yde yve ypa yow yla ycl ypr ypi yar yva yfr yma ydo yro (d + 1) (nI (gw_ct yow (6 * s + c) j)) (nI j) := by
  intro d
  induction d with
  | zero =>
    intro j h1
    have : j = 10 := by omega
    subst this
    exact br_t (nI_le (a := 10) (by omega) (by omega)) hp
  | succ d ih =>
    intro j h1
    refine br_f (nI_ge (b := 10) (by omega) (by omega)) (gy_own hs hc (by omega) ?_)
    have hs : gw_ct yow (6 * s + c) (j + 1) = gw_ct yow (6 * s + c) j + (if yow (10 * (6 * s + c) + j) = -1 then 0 else 1) := rfl
    have := ih (j + 1) (by omega)
    by_cases h : yow (10 * (6 * s + c) + j) = -1
    · rw [if_pos h] at hs
      rw [hs] at this
      exact br_t (by rw [h]; decide) (nm_r (nI_1 j) this)
    · obtain ⟨m, hm, em⟩ := hv _ (by omega) h
      rw [if_neg h] at hs
      rw [hs] at this
      exact br_f (by rw [em]; exact gw_p0 (by omega)) (nm_r (nI_1 _) (nm_r (nI_1 j) this))
theorem gy_fob (hC : gw_C D yow P L) (hy : gy_C D P L ypa yla) (hv : ∀ o, o < 32 → gw_v D (o / 16) (C o)) (ht : gy_t C ycl) {post : Int32 → SY → Prop} {s c n : Nat} {x4 : Int32} (hs : s < 2) (hc : c < 6) (hn : n < 10) (hD : D (6 * s + c) ≠ 0) (h0 : (∃ o, o < 32 ∧ C o = some (6 * s + c)) ∨ gw_ct yow (6 * s + c) 10 = 4 ∨ gw_kd P yow (6 * s + c) n ≠ -1 → post 0 (ycu, ydp, ylm, yde, yve, ypa, yow, yla, ycl, ypr, ypi, yar, yva, yfr, yma, ydo, yro)) (h1 : (∀ o, o < 32 → C o ≠ some (6 * s + c)) → gw_ct yow (6 * s + c) 10 ≠ 4 → gw_kd P yow (6 * s + c) n = -1 → post 1 (ycu, ydp, ylm, yde, yve, ypa, upd yow (10 * (6 * s + c) + n) x4, yla, ycl, ypr, ypi, yar, yva, yfr, yma, ydo, yro)) : ∀ d j, j + d = 16 → (∀ i, i < j → C (16 * s + i) ≠ some (6 * s + c)) → wY_field_81 post (nI s) (nI c) (nI n) x4 (nI (gw_ct yow (6 * s + c) 10)) ycu ydp ylm yde yve ypa yow yla ycl ypr ypi yar yva yfr yma ydo yro (d + 1) (nI j) := by
  have hvt : gw_v D s (some (6 * s + c)) := gw_v_mk (by omega) (by omega) hD
  intro d
  induction d with
  | zero =>
    intro j hj hb
    have hno : ∀ o, o < 32 → C o ≠ some (6 * s + c) := fun o ho z => by
      have h := hv o ho _ z
      have h3 := hb (o - 16 * s) (by omega)
      rw [show 16 * s + (o - 16 * s) = o by omega] at h3
      exact h3 z
    have hle := gw_ct_le (K := yow) (t := 6 * s + c) 10
    refine br_t (nI_le (a := 16) (by omega) (by omega)) (pk_eq (gw_ct yow (6 * s + c) 10) 4 (fun h => h0 (Or.inr (Or.inl h))) (fun h => gy_kind hC hy hs hc hn hvt ?_))
    rcases gw_kd_r hC hvt hn with e | ⟨m, hm, e⟩
    · refine br_t (by rw [e]; decide) ⟨by rw [gw_e4]; exact vp_in_nI (by omega) (by omega), nm_r (by rw [gw_e4, nI_clamp (by omega)]) (h1 hno h e)⟩
    · refine br_f (by rw [e]; exact gw_p0 (by omega)) (h0 (Or.inr (Or.inr (by rw [e]; exact gw_nm (by omega)))))
  | succ d ih =>
    intro j hj hb
    have e := gw_e6a s j
    refine br_f (nI_ge (b := 16) (by omega) (by omega)) ⟨by rw [e]; exact vp_in_nI (by omega) (by omega), ?_⟩
    rw [e, nI_clamp (by omega), ht _ (by omega)]
    have hvo := hv (16 * s + j) (by omega)
    rw [show (16 * s + j) / 16 = s by omega] at hvo
    refine ek_if (gw_cC hvo hc) (fun h => h0 (Or.inl ⟨_, by omega, h⟩)) (fun h => nm_r (nI_1 j) (ih (j + 1) (by omega) (fun i hi => ?_)))
    by_cases e2 : i = j
    · rw [e2]; exact h
    · exact hb i (by omega)
end
theorem i_vc_field {k : Nat} {u : SX} {v : SY} (I : i_Rel k u v) (hk : k + 5 ≤ 2560) (v1 : Int32) (v2 : Int32) (v3 : Int32) (v4 : Int32) : wpX_field (fun r u' => wpY_field (fun r' v' => r' = r ∧ i_Rel (k + 5) u' v') v v1 v2 v3 v4) u v1 v2 v3 v4 := by
  have I' := I
  obtain ⟨xcu, xar, xrc, xlc, xde, xpt, xve, xok, xlt, xty, xpi, xnu, xtg, xse, xso, xnf, xrn, xre, xrl, xrd, xll, xlr⟩ := u
  obtain ⟨ycu, ydp, ylm, yde, yve, ypa, yow, yla, ycl, ypr, ypi, yar, yva, yfr, yma, ydo, yro⟩ := v
  obtain ⟨D, V, K, P, L, C, S, T, B, F, cu, hC, hO, hX, hY⟩ := I
  obtain ⟨rfl, rfl, rfl, hxc, hxt, hxb, hxf, hxg, hxs, hxu⟩ := hX
  obtain ⟨rfl, rfl, rfl, hyc, hyt, hyb, hyv, hys, hyu⟩ := hY
  unfold wpX_field; dsimp only
  rcases gw_sid v1 with ⟨s, hs, rfl⟩ | hno
  · have hvL : gw_v yde s (L s) := fun t ht => hC.2.2.2.2.1 s t hs ht
    refine gx_isSide1 hs (br_f (by decide) ?_)
    rcases gw_cls v2 with ⟨c, hc, rfl⟩ | hnc
    · have qL : (nI c = yla (nI s).toNatClampNeg) ↔ L s = some (6 * s + c) := by
        rw [nI_clamp (by omega), hyc.2 s hs, ← gw_cC hvL hc]
        exact ⟨fun z => z.symm, fun z => z.symm⟩
      have yf0 : ∀ post : Int32 → SY → Prop, ¬ (L s = some (6 * s + c) ∧ (∃ n, n < 10 ∧ v3 = nI n) ∧ ∃ j, j < 5 ∧ v4 = nI j) → post 0 (ycu, ydp, ylm, yde, yve, ypa, yow, yla, ycl, ypr, ypi, yar, yva, yfr, yma, ydo, yro) → wpY_field post (ycu, ydp, ylm, yde, yve, ypa, yow, yla, ycl, ypr, ypi, yar, yva, yfr, yma, ydo, yro) (nI s) (nI c) v3 v4 := fun post hb hp => by
        unfold wpY_field; dsimp only
        refine gy_side1 hs (br_f (by decide) (br_f (gw_p0 (by omega)) ⟨vp_in_nI hs (by omega), ek_if qL (fun h => br_c (fun _ => hp) (fun h3 => br_c (fun _ => hp) (fun h3' => br_c (fun _ => hp) (fun h4 => br_c (fun h4' => ?_) (fun _ => hp))))) (fun _ => hp)⟩))
        obtain ⟨n, hn, rfl⟩ := nI_of h3
        obtain ⟨j, hj, rfl⟩ := nI_of h4
        have z3 : ¬ nI 9 < nI n := h3'
        have z4 : nI j ≤ nI 4 := h4'
        rw [nI_ltI (by omega) hn] at z3
        rw [nI_leI hj (by omega)] at z4
        exact absurd ⟨h, ⟨n, by omega, rfl⟩, ⟨j, by omega, rfl⟩⟩ hb
      refine gx_class hs hc (fun h => br_t rfl (yf0 _ (fun z => (hC.2.2.2.2.1 s _ hs z.1).2.2 h) ⟨rfl, I'⟩)) (fun h => br_f (by decide) ?_)
      rcases gw_nam v3 with ⟨n, hn, rfl⟩ | hnn
      · refine gx_name1 hn (br_f (by decide) ?_)
        refine br_c (fun h4 => yf0 _ (fun z => ?_) ⟨rfl, I'⟩) (fun h4 => br_c (fun h4' => ?_) (fun h4' => yf0 _ (fun z => ?_) ⟨rfl, I'⟩))
        · obtain ⟨_, _, j, hj, rfl⟩ := z
          exact absurd h4 (gw_p0 (by omega))
        · obtain ⟨j, hj, rfl⟩ := nI_of h4
          have z4 : nI j ≤ nI 4 := h4'
          rw [nI_leI hj (by omega)] at z4
          refine nm_r (gw_e1 s c) ⟨vp_in_nI hs (by omega), ?_⟩
          rw [nI_clamp (by omega), hxc.2 s hs]
          refine ek_if (gw_oC hvL (by omega)) (fun hL => ?_) (fun hL => yf0 _ (fun z => hL z.1) ⟨rfl, I'⟩)
          have hvt : gw_v yde s (some (6 * s + c)) := gw_v_mk (by omega) (by omega) h
          have y51 : ∀ post : Int32 → SY → Prop, ((∃ o, o < 32 ∧ C o = some (6 * s + c)) ∨ gw_ct yow (6 * s + c) 10 = 4 ∨ gw_kd P yow (6 * s + c) n ≠ -1 → post 0 (ycu, ydp, ylm, yde, yve, ypa, yow, yla, ycl, ypr, ypi, yar, yva, yfr, yma, ydo, yro)) → ((∀ o, o < 32 → C o ≠ some (6 * s + c)) → gw_ct yow (6 * s + c) 10 ≠ 4 → gw_kd P yow (6 * s + c) n = -1 → post 1 (ycu, ydp, ylm, yde, yve, ypa, upd yow (10 * (6 * s + c) + n) (nI j), yla, ycl, ypr, ypi, yar, yva, yfr, yma, ydo, yro)) → wpY_field post (ycu, ydp, ylm, yde, yve, ypa, yow, yla, ycl, ypr, ypi, yar, yva, yfr, yma, ydo, yro) (nI s) (nI c) (nI n) (nI j) := fun post a b => by
            unfold wpY_field; dsimp only
            exact gy_side1 hs (br_f (by decide) (br_f (gw_p0 (by omega)) ⟨vp_in_nI hs (by omega), br_t (qL.mpr hL) (br_f (gw_p0 (by omega)) (br_f (nI_nlt (a := 9) (by omega) (by omega)) (br_f (gw_p0 (by omega)) (br_t h4' ⟨11, gy_cnt hs hc hC.2.1 ⟨17, gy_fob hC hyc hO.1 hyt hs hc hn h a b 16 0 (by omega) (fun i hi => absurd hi (by omega))⟩ 10 0 (by omega)⟩))))⟩))
          refine gx_kind hC hxc hn hvt (br_c (fun hkd => ?_) (fun hkd => y51 _ (fun _ => ⟨rfl, I'⟩) (fun _ _ z => absurd z hkd)))
          have hle := gw_ct_le (K := yow) (t := 6 * s + c) 10
          have h4t := hC.2.2.2.2.2 (6 * s + c) (by omega)
          refine ⟨11, gx_cnt (by omega) (pk_le 4 (gw_ct yow (6 * s + c) 10) (fun h5 => y51 _ (fun _ => ⟨rfl, I'⟩) (fun _ z _ => absurd (show gw_ct yow (6 * s + c) 10 = 4 by omega) z)) (fun h5 => ?_)) 10 0 (by omega)⟩
          refine ⟨49, gx_hob hO.1 hxt (by omega) (fun h6 => br_f (by decide) (y51 _ (fun _ => ⟨rfl, I'⟩) (fun z _ _ => ?_))) (fun h6 => br_t rfl ⟨by rw [gw_e3]; exact vp_in_nI (by omega) (by omega), nm_r (by rw [gw_e3, nI_clamp (by omega)]) (y51 _ (fun z => ?_) (fun _ _ _ => ⟨rfl, ?_⟩))⟩) 48 0 (by omega) (fun o ho z => absurd z (by omega))⟩
          · obtain ⟨o, ho, ho2⟩ := h6
            exact absurd ho2 (z o ho)
          · rcases z with ⟨o, ho, ho2⟩ | z | z
            · exact absurd ho2 (h6 o ho)
            · omega
            · exact absurd hkd z
          · have hL' : L ((6 * s + c) / 6) = some (6 * s + c) := by rw [show (6 * s + c) / 6 = s by omega]; exact hL
            exact ⟨yde, yve, upd yow (10 * (6 * s + c) + n) (nI j), P, L, C, S, T, B, F, cu, gw_C_fld hC (by omega) hn z4 hL' hkd h5, gw_O_fld hC hO (by omega) hn hL' h6, ⟨rfl, rfl, rfl, hxc, hxt, hxb, hxf, hxg, hxs, hxu⟩, ⟨rfl, rfl, rfl, hyc, hyt, hyb, gy_v_fld hC hO hyv (by omega) hn hL' h6, hys, hyu⟩⟩
        · obtain ⟨_, _, j, hj, rfl⟩ := z
          exact absurd (nI_le (b := 4) (by omega) (by omega)) h4'
      · refine gx_name0 hnn (br_t rfl (yf0 _ (fun z => ?_) ⟨rfl, I'⟩))
        obtain ⟨_, ⟨n, hn, rfl⟩, _⟩ := z
        rcases hnn with z | z
        · exact absurd z (gw_p0 (by omega))
        · exact absurd z (nI_ge (by omega) (by omega))
    · refine gx_class0 hnc (br_t rfl ?_)
      unfold wpY_field; dsimp only
      refine gy_side1 hs (br_f (by decide) (br_c (fun _ => ⟨rfl, I'⟩) (fun h0 => ⟨vp_in_nI hs (by omega), br_f (fun z => ?_) ⟨rfl, I'⟩⟩)))
      have h6 := hnc.resolve_left h0
      rw [z, nI_clamp (by omega), hyc.2 s hs] at h6
      cases hLs : L s with
      | none => rw [hLs] at h6; exact absurd h6 (by decide)
      | some t =>
        rw [hLs] at h6
        have h7 : nI 6 ≤ nI (t % 6) := h6
        rw [nI_leI (by omega) (by omega)] at h7
        omega
  · unfold wpY_field; dsimp only
    exact gx_isSide0 hno (br_t rfl (gy_side0 hno (br_t rfl ⟨rfl, I'⟩)))
end
end
section
/-! collect: counting, what is reached; the component -/
section
def gw_cn (p : Nat → Bool) : Nat → Nat
  | 0 => 0
  | k + 1 => gw_cn p k + (if p k = true then 1 else 0)
theorem gw_cn_le {p : Nat → Bool} : ∀ k, gw_cn p k ≤ k := by
  intro k
  induction k with
  | zero => exact Nat.le_refl _
  | succ k ih => show gw_cn p k + _ ≤ _; by_cases h : p k = true
                 · rw [if_pos h]; omega
                 · rw [if_neg h]; omega
theorem gw_cn_lt {p : Nat → Bool} {n : Nat} (hn : ¬ p n = true) : ∀ k, n < k → gw_cn p k < k := by
  intro k
  induction k with
  | zero => intro h; omega
  | succ k ih =>
    intro h
    show gw_cn p k + _ < _
    have := gw_cn_le (p := p) k
    by_cases e : n = k
    · subst e; rw [if_neg hn]; omega
    · have := ih (by omega)
      by_cases h : p k = true
      · rw [if_pos h]; omega
      · rw [if_neg h]; omega
theorem gw_cn_u {p : Nat → Bool} {n : Nat} (hn : ¬ p n = true) : ∀ k, gw_cn (gw_u p n true) k = gw_cn p k + (if n < k then 1 else 0) := by
  intro k
  induction k with
  | zero => rfl
  | succ k ih =>
    show gw_cn (gw_u p n true) k + _ = gw_cn p k + _ + _
    rw [ih]
    by_cases e : k = n
    · subst e
      rw [gw_us, if_neg hn, if_pos rfl, if_neg (show ¬ k < k by omega), if_pos (show k < k + 1 by omega)]
    · rw [gw_un e]
      by_cases h : n < k
      · rw [if_pos h, if_pos (show n < k + 1 by omega)]; omega
      · rw [if_neg h, if_neg (show ¬ n < k + 1 by omega)]; omega
theorem gw_cn_m {p q : Nat → Bool} : ∀ k, (∀ n, n < k → p n = true → q n = true) → gw_cn p k ≤ gw_cn q k := by
  intro k
  induction k with
  | zero => intro _; exact Nat.le_refl _
  | succ k ih =>
    intro h
    show gw_cn p k + _ ≤ gw_cn q k + _
    have := ih (fun n hn => h n (by omega))
    by_cases e : p k = true
    · rw [if_pos e, if_pos (h k (by omega) e)]; omega
    · rw [if_neg e]; omega
theorem gw_cn_s {p q : Nat → Bool} {m : Nat} (hp : ¬ p m = true) (hq : q m = true) : ∀ k, m < k → (∀ n, n < k → p n = true → q n = true) → gw_cn p k < gw_cn q k := by
  intro k
  induction k with
  | zero => intro h; omega
  | succ k ih =>
    intro hm h
    show gw_cn p k + _ < gw_cn q k + _
    have h2 := gw_cn_m k (fun n hn => h n (by omega))
    by_cases e : m = k
    · subst e; rw [if_neg hp, if_pos hq]; omega
    · have := ih (by omega) (fun n hn => h n (by omega))
      by_cases e : p k = true
      · rw [if_pos e, if_pos (h k (by omega) e)]; omega
      · rw [if_neg e]; omega
def gw_rt (C S : Nat → Option Nat) (B : Nat → Int32) (s n : Nat) : Prop := C (16 * s + n) ≠ none ∧ (B (16 * s + n) ≠ 0 ∨ S (16 * s + n) ≠ none ∨ ∃ q, q < 32 ∧ S q = some (16 * s + n))
def gw_eg (T : Nat → Option Nat) (s n m : Nat) : Prop := ∃ a, a < 10 ∧ T (10 * (16 * s + n) + a) = some (16 * s + m)
def gw_R (C S T : Nat → Option Nat) (B : Nat → Int32) (s n : Nat) : Prop := ∀ Q : Nat → Prop, (∀ a, a < 16 → gw_rt C S B s a → Q a) → (∀ a b, a < 16 → b < 16 → Q a → gw_eg T s a b → Q b) → Q n
variable {D V K B : Nat → Int32} {P L C S T : Nat → Option Nat} {F : Nat → Int64} {cu : Option Nat}
theorem gw_R_l (hO : gw_O D P K C S T F) {s n : Nat} (hs : s < 2) (h : gw_R C S T B s n) : n < 16 ∧ C (16 * s + n) ≠ none := by
  refine h (fun a => a < 16 ∧ C (16 * s + a) ≠ none) (fun a ha hr => ⟨ha, hr.1⟩) (fun a b ha hb hq he => ⟨hb, ?_⟩)
  obtain ⟨c, hc, he⟩ := he
  exact (hO.2.2.2 _ c _ (by omega) hc hq.2 he).2.2
theorem gw_R_r {s n : Nat} (hn : n < 16) (h : gw_rt C S B s n) : gw_R C S T B s n := fun _ h1 _ => h1 n hn h
theorem gw_R_e {s n m : Nat} (hn : n < 16) (hm : m < 16) (h : gw_R C S T B s n) (he : gw_eg T s n m) : gw_R C S T B s m := fun Q h1 h2 => h2 n m hn hm (h Q h1 h2) he
/-- the marks, and the list of the marked -/
def gx_RI (s : Nat) (M : Nat → Bool) (xrc : Int32) (xre xrl : Nat → Int32) : Prop :=
  xrc = nI (gw_cn M 16) ∧ (∀ n, n < 16 → xre (32 * s + n) = if M n = true then 1 else 0) ∧
  (∀ i, i < gw_cn M 16 → ∃ n, n < 16 ∧ M n = true ∧ xrl i = nI (32 * s + n)) ∧
  (∀ n, n < 16 → M n = true → ∃ i, i < gw_cn M 16 ∧ xrl i = nI (32 * s + n))
section
variable {xcu xar xrc xlc : Int32} {xde xpt xve xok xlt xty xpi : Nat → Int32} {xnu : Nat → Int64} {xtg xse xso xnf xrn xre xrl xrd xll xlr : Nat → Int32}
theorem gx_reach {post : SX → Prop} {s n : Nat} {M : Nat → Bool} (hs : s < 2) (hn : n < 16) (hR : gx_RI s M xrc xre xrl) (hp : ∀ xrc' xre' xrl', gx_RI s (gw_u M n true) xrc' xre' xrl' → (∀ i, i < gw_cn M 16 → xrl' i = xrl i) → post (xcu, xar, xrc', xlc, xde, xpt, xve, xok, xlt, xty, xpi, xnu, xtg, xse, xso, xnf, xrn, xre', xrl', xrd, xll, xlr)) : wpX_reach post (xcu, xar, xrc, xlc, xde, xpt, xve, xok, xlt, xty, xpi, xnu, xtg, xse, xso, xnf, xrn, xre, xrl, xrd, xll, xlr) (nI (32 * s + n)) := by
  obtain ⟨r1, r2, r3, r4⟩ := hR
  have hi : vp_in (nI (32 * s + n)) 48 := vp_in_nI (by omega) (by omega)
  have e : (nI (32 * s + n)).toNatClampNeg = 32 * s + n := nI_clamp (by omega)
  have hle := gw_cn_le (p := M) 16
  by_cases hm : M n = true
  · refine ⟨hi, br_f (by rw [e, r2 n hn, if_pos hm]; decide) (hp _ _ _ ?_ (fun i _ => rfl))⟩
    have : gw_u M n true = M := funext fun j => by
      by_cases h : j = n
      · rw [h, gw_us, hm]
      · rw [gw_un h]
    rw [this]
    exact ⟨r1, r2, r3, r4⟩
  · have hlt := gw_cn_lt hm 16 hn
    have hc := gw_cn_u hm 16
    rw [if_pos hn] at hc
    subst r1
    refine ⟨hi, br_t (by rw [e, r2 n hn, if_neg hm]) ⟨hi, nm_e ⟨vp_in_nI hlt (by omega), nm_e (nm_e (hp _ _ _ ⟨?_, ?_, ?_, ?_⟩ ?_))⟩⟩⟩
    · rw [nI_1, hc]
    · intro j hj
      rw [e, gw_n1]
      by_cases h : j = n
      · rw [h, pk_us, gw_us, if_pos rfl]
      · rw [pk_un (by omega), gw_un h]; exact r2 j hj
    · intro i h1
      rw [nI_clamp (by omega)]
      by_cases h : i = gw_cn M 16
      · exact ⟨n, hn, gw_us, by rw [h, pk_us]⟩
      · obtain ⟨j, j1, j2, j3⟩ := r3 i (by omega)
        refine ⟨j, j1, ?_, by rw [pk_un h]; exact j3⟩
        by_cases h2 : j = n
        · rw [h2, gw_us]
        · rw [gw_un h2]; exact j2
    · intro j hj hj2
      rw [nI_clamp (by omega)]
      by_cases h : j = n
      · exact ⟨gw_cn M 16, by omega, by rw [pk_us, h]⟩
      · rw [gw_un h] at hj2
        obtain ⟨i, i1, i2⟩ := r4 j hj hj2
        exact ⟨i, by omega, by rw [pk_un (by omega)]; exact i2⟩
    · intro i h1
      rw [nI_clamp (by omega)]
      exact pk_un (by omega)
theorem gx_rtg (hO : gw_O D P K C S T F) (hg : gx_g T xtg) {post : SX → Prop} {s n : Nat} (hs : s < 2) (hn : n < 16) (hl : C (16 * s + n) ≠ none) : ∀ d j M xrc xre xrl, j + d = 10 → gx_RI s M xrc xre xrl → (∀ M' xrc' xre' xrl', gx_RI s M' xrc' xre' xrl' → (∀ i, i < 16 → M i = true → M' i = true) → (∀ i, i < gw_cn M 16 → xrl' i = xrl i) → (∀ m a, m < 16 → j ≤ a → a < 10 → T (10 * (16 * s + n) + a) = some (16 * s + m) → M' m = true) → (∀ m, m < 16 → M' m = true → M m = true ∨ gw_eg T s n m) → post (xcu, xar, xrc', xlc, xde, xpt, xve, xok, xlt, xty, xpi, xnu, xtg, xse, xso, xnf, xrn, xre', xrl', xrd, xll, xlr)) → wX_reachTargets_2 post (nI (32 * s + n)) (d + 1) (nI j) xcu xar xrc xlc xde xpt xve xok xlt xty xpi xnu xtg xse xso xnf xrn xre xrl xrd xll xlr := by
  intro d
  induction d with
  | zero =>
    intro j M xrc xre xrl hj hR hp
    exact br_t (nI_le (a := 10) (by omega) (by omega)) (hp M _ _ _ hR (fun _ _ h => h) (fun _ _ => rfl) (fun _ a _ h1 h2 => by omega) (fun _ _ h => Or.inl h))
  | succ d ih =>
    intro j M xrc xre xrl hj hR hp
    have e := gw_e3 (32 * s + n) j
    refine br_f (nI_ge (b := 10) (by omega) (by omega)) ⟨by rw [e]; exact vp_in_nI (by omega) (by omega), nm_r (e' := gw_g (T (10 * (16 * s + n) + j))) ?_ ?_⟩
    · rw [e, nI_clamp (by omega), ← gw_d1 hn]
      exact hg _ j (by omega) (by omega)
    · cases hT : T (10 * (16 * s + n) + j) with
      | none =>
        refine br_t rfl (nm_r (nI_1 j) (ih (j + 1) M _ _ _ (by omega) hR (fun M' a b c h1 h2 h3 h4 h5 => hp M' a b c h1 h2 h3 (fun m x hm hx1 hx2 hx3 => ?_) h5)))
        by_cases ex : x = j
        · rw [ex, hT] at hx3; exact absurd hx3 (by simp)
        · exact h4 m x hm (by omega) hx2 hx3
      | some z =>
        obtain ⟨z1, z2, z3⟩ := hO.2.2.2 _ j z (by omega) (by omega) hl hT
        have ez : gw_g (some z) = nI (32 * s + z % 16) := congrArg nI (by unfold gw_d; omega)
        have ez2 : z = 16 * s + z % 16 := by omega
        rw [ez]
        refine br_f (gw_nm (by omega)) (gx_reach hs (by omega) hR (fun rc re rl hR2 hpre => nm_r (nI_1 j) (ih (j + 1) _ _ _ _ (by omega) hR2 (fun M' a b c h1 h2 h3 h4 h5 => hp M' a b c h1 ?_ ?_ ?_ ?_))))
        · intro i hi hM
          refine h2 i hi ?_
          by_cases ei : i = z % 16
          · rw [ei, gw_us]
          · rw [gw_un ei]; exact hM
        · intro i hi
          have hle : gw_cn M 16 ≤ gw_cn (gw_u M (z % 16) true) 16 := gw_cn_m 16 (fun i _ hM => by
            by_cases ei : i = z % 16
            · rw [ei, gw_us]
            · rw [gw_un ei]; exact hM)
          rw [h3 i (by omega)]
          exact hpre i hi
        · intro m x hm hx1 hx2 hx3
          by_cases ex : x = j
          · rw [ex, hT] at hx3
            injection hx3 with hx3
            have : m = z % 16 := by omega
            rw [this]
            exact h2 _ (by omega) gw_us
          · exact h4 m x hm (by omega) hx2 hx3
        · intro m hm hM
          rcases h5 m hm hM with h | h
          · by_cases ei : m = z % 16
            · exact Or.inr ⟨j, by omega, by rw [hT, ei, ← ez2]⟩
            · rw [gw_un ei] at h; exact Or.inl h
          · exact Or.inr h
theorem gx_rr75 (hO : gw_O D P K C S T F) (hS : gx_s S xse) {post : SX → Prop} {J : Int32 → Int32 → Int32 → Int32 → Int32 → (Nat → Int32) → (Nat → Int32) → (Nat → Int32) → (Nat → Int32) → (Nat → Int32) → (Nat → Int32) → (Nat → Int32) → (Nat → Int64) → (Nat → Int32) → (Nat → Int32) → (Nat → Int32) → (Nat → Int32) → (Nat → Int32) → (Nat → Int32) → (Nat → Int32) → (Nat → Int32) → (Nat → Int32) → (Nat → Int32) → Prop} {s j : Nat} {M : Nat → Bool} (hs : s < 2) (hj : j < 16) (hR : gx_RI s M xrc xre xrl) (hM : ∀ n, n < 16 → M n = true → gw_R C S T B s n) (hp : ∀ M' xrc' xre' xrl', gx_RI s M' xrc' xre' xrl' → (∀ n, n < 16 → M' n = true → gw_R C S T B s n) → (∀ i, i < 16 → M i = true → M' i = true) → (∀ m, m < 16 → S (16 * (1 - s) + j) = some (16 * s + m) → M' m = true) → J (nI (j + 1)) xcu xar (xrc') xlc xde xpt xve xok xlt xty xpi xnu xtg xse xso xnf xrn (xre') (xrl') xrd xll xlr) : wX_reachRoots_75 post J (nI s) (nI j) xcu xar xrc xlc xde xpt xve xok xlt xty xpi xnu xtg xse xso xnf xrn xre xrl xrd xll xlr := by
  have e : (1 - nI s) * 32 + nI j = nI (32 * (1 - s) + j) := by rw [gw_s1 (by omega), gw_e5]
  refine ⟨by rw [e]; exact vp_in_nI (by omega) (by omega), nm_r (e' := gw_g (S (16 * (1 - s) + j))) ?_ ?_⟩
  · rw [e, nI_clamp (by omega), ← gw_d1 hj]
    exact hS _ (by omega)
  · cases hq : S (16 * (1 - s) + j) with
    | none => exact br_t rfl (nm_r (nI_1 j) (hp M _ _ _ hR hM (fun _ _ h => h) (fun m _ h => by rw [hq] at h; exact absurd h (by simp))))
    | some z =>
      obtain ⟨z1, z2, z3, z4⟩ := hO.2.1 _ z (by omega) hq
      have ez : gw_g (some z) = nI (32 * s + z % 16) := congrArg nI (by unfold gw_d; omega)
      have ez2 : z = 16 * s + z % 16 := by omega
      rw [ez]
      refine br_f (gw_nm (by omega)) (gx_reach hs (by omega) hR (fun rc re rl hR2 _ => nm_r (nI_1 j) (hp _ _ _ _ hR2 ?_ ?_ ?_)))
      · intro n hn hn2
        by_cases en : n = z % 16
        · refine gw_R_r hn ⟨?_, Or.inr (Or.inr ⟨16 * (1 - s) + j, by omega, ?_⟩)⟩
          · rw [en, ← ez2]; exact z4
          · rw [en, hq, ← ez2]
        · rw [gw_un en] at hn2; exact hM n hn hn2
      · intro i _ h
        by_cases en : i = z % 16
        · rw [en, gw_us]
        · rw [gw_un en]; exact h
      · intro m hm h
        rw [hq] at h
        injection h with h
        have : m = z % 16 := by omega
        rw [this, gw_us]
theorem gx_rr (hO : gw_O D P K C S T F) (ht : gx_t C xty) (hb : gx_b B xpi) (hS : gx_s S xse) {post : SX → Prop} {s : Nat} (hs : s < 2) (hp : ∀ M xrc xre xrl, gx_RI s M xrc xre xrl → (∀ n, n < 16 → M n = true → gw_R C S T B s n) → (∀ n, n < 16 → gw_rt C S B s n → M n = true) → post (xcu, xar, xrc, xlc, xde, xpt, xve, xok, xlt, xty, xpi, xnu, xtg, xse, xso, xnf, xrn, xre, xrl, xrd, xll, xlr)) : ∀ d j M xrc xre xrl, j + d = 16 → gx_RI s M xrc xre xrl → (∀ n, n < 16 → M n = true → gw_R C S T B s n) → (∀ n, n < j → C (16 * s + n) ≠ none → (B (16 * s + n) ≠ 0 ∨ S (16 * s + n) ≠ none) → M n = true) → (∀ n m, n < j → m < 16 → S (16 * (1 - s) + n) = some (16 * s + m) → M m = true) → wX_reachRoots_28 post (nI s) (d + 1) (nI j) xcu xar xrc xlc xde xpt xve xok xlt xty xpi xnu xtg xse xso xnf xrn xre xrl xrd xll xlr := by
  intro d
  induction d with
  | zero =>
    intro j M xrc xre xrl hj hR hM h1 h2
    refine br_t (nI_le (a := 16) (by omega) (by omega)) (hp M _ _ _ hR hM (fun n hn hr => ?_))
    obtain ⟨a, b⟩ := hr
    rcases b with b | b | ⟨q, q1, q2⟩
    · exact h1 n (by omega) a (Or.inl b)
    · exact h1 n (by omega) a (Or.inr b)
    · obtain ⟨_, z2, _, _⟩ := hO.2.1 q _ q1 q2
      refine h2 (q % 16) n (by omega) hn ?_
      rw [show 16 * (1 - s) + q % 16 = q by omega]
      exact q2
  | succ d ih =>
    intro j M xrc xre xrl hj hR hM h1 h2
    have e := gw_e5 s j
    have hi : vp_in (nI (32 * s + j)) 48 := vp_in_nI (by omega) (by omega)
    have ed : gw_d (16 * s + j) = 32 * s + j := gw_d1 (by omega)
    have e1 : (nI (32 * s + j)).toNatClampNeg = gw_d (16 * s + j) := by rw [nI_clamp (by omega), ed]
    -- what comes behind, from marks that hold this one if it is a root
    have go : ∀ M2 rc re rl, gx_RI s M2 rc re rl → (∀ n, n < 16 → M2 n = true → gw_R C S T B s n) → (∀ i, i < 16 → M i = true → M2 i = true) → (C (16 * s + j) ≠ none → (B (16 * s + j) ≠ 0 ∨ S (16 * s + j) ≠ none) → M2 j = true) → wX_reachRoots_75 post (wX_reachRoots_28 post (nI s) (d + 1)) (nI s) (nI j) xcu xar rc xlc xde xpt xve xok xlt xty xpi xnu xtg xse xso xnf xrn re rl xrd xll xlr := by
      intro M2 rc re rl a b c g
      refine gx_rr75 hO hS hs (by omega) a b (fun M3 rc3 re3 rl3 a3 b3 c3 g3 => ih (j + 1) M3 _ _ _ (by omega) a3 b3 (fun n hn x y => ?_) (fun n m hn hm x => ?_))
      · by_cases en : n = j
        · rw [en] at x y ⊢; exact c3 j (by omega) (g x y)
        · exact c3 n (by omega) (c n (by omega) (h1 n (by omega) x y))
      · by_cases en : n = j
        · rw [en] at x; exact g3 m hm x
        · exact c3 m hm (c m hm (h2 n m (by omega) hm x))
    have go70 : C (16 * s + j) ≠ none → (B (16 * s + j) ≠ 0 ∨ S (16 * s + j) ≠ none) → wX_reachRoots_70 post (wX_reachRoots_28 post (nI s) (d + 1)) (nI s) (nI j) (nI (32 * s + j)) xcu xar xrc xlc xde xpt xve xok xlt xty xpi xnu xtg xse xso xnf xrn xre xrl xrd xll xlr := fun hc hr => by
      refine gx_reach hs (by omega) hR (fun rc re rl a _ => go _ _ _ _ a ?_ ?_ (fun _ _ => gw_us))
      · intro n hn x
        by_cases en : n = j
        · rw [en]; exact gw_R_r (by omega) ⟨hc, by rcases hr with y | y; exact Or.inl y; exact Or.inr (Or.inl y)⟩
        · rw [gw_un en] at x; exact hM n hn x
      · intro i _ x
        by_cases en : i = j
        · rw [en, gw_us]
        · rw [gw_un en]; exact x
    refine br_f (nI_ge (b := 16) (by omega) (by omega)) (nm_r e ⟨hi, ?_⟩)
    rw [e1, ht.1 _ (by omega), hb _ (by omega), hS _ (by omega)]
    cases hc : C (16 * s + j) with
    | none => exact br_t rfl (go M _ _ _ hR hM (fun _ _ x => x) (fun x => absurd hc x))
    | some t =>
      have h12 := (hO.1 _ (by omega) t hc).1
      have hcn : C (16 * s + j) ≠ none := by rw [hc]; simp
      refine br_f (gw_nm (by omega)) ⟨hi, br_c (fun hb0 => ⟨hi, ?_⟩) (fun hb0 => go70 hcn (Or.inl hb0))⟩
      cases hq : S (16 * s + j) with
      | none => exact br_t rfl (go M _ _ _ hR hM (fun _ _ x => x) (fun _ y => (y.elim (fun z => z hb0) (fun z => z hq)).elim))
      | some z =>
        have := (hO.2.1 _ z (by omega) hq).1
        have hd := gw_dlt this
        exact br_f (gw_nm (by omega)) (go70 hcn (Or.inr (by rw [hq]; simp)))
theorem gx_rr7 {post : SX → Prop} {s : Nat} : ∀ d j xre, j + d = 48 → (∃ n28, wX_reachRoots_28 post (nI s) n28 0 xcu xar xrc xlc xde xpt xve xok xlt xty xpi xnu xtg xse xso xnf xrn (gw_fi xre j 48 0) xrl xrd xll xlr) → wX_reachRoots_7 post (nI s) xcu xar xrc xlc (d + 1) (nI j) xde xpt xve xok xlt xty xpi xnu xtg xse xso xnf xrn xre xrl xrd xll xlr := by
  intro d
  induction d with
  | zero =>
    intro j xre h1 hp
    rw [gw_fi_e (by omega)] at hp
    exact br_t (nI_le (a := 48) (by omega) (by omega)) hp
  | succ d ih =>
    intro j xre h1 hp
    refine br_f (nI_ge (b := 48) (by omega) (by omega)) ⟨vp_in_nI (by omega) (by omega), nm_r (by rw [nI_clamp (by omega), gw_n0]) (nm_r (nI_1 j) (ih (j + 1) _ (by omega) ?_))⟩
    rw [gw_fi_s (by omega)]
    exact hp
/-! dropping -/
def gw_dr (C : Nat → Option Nat) (Z : Nat → Bool) (s j : Nat) : Nat → Option Nat := fun o => if o / 16 = s ∧ o % 16 < j ∧ Z (o % 16) = false then none else C o
def gw_dc (C : Nat → Option Nat) (Z : Nat → Bool) (s : Nat) : Nat → Nat
  | 0 => 0
  | j + 1 => gw_dc C Z s j + (if C (16 * s + j) ≠ none ∧ Z j = false then 1 else 0)
theorem gw_dr_s {Z : Nat → Bool} {s j : Nat} (h : C (16 * s + j) = none ∨ Z j = true) (hj : j < 16) : gw_dr C Z s (j + 1) = gw_dr C Z s j := funext fun o => by
  unfold gw_dr
  by_cases e : o = 16 * s + j
  · subst e
    have e1 : (16 * s + j) % 16 = j := by omega
    rw [e1]
    rcases h with h | h
    · rw [h]
      rw [if_neg (show ¬ (_ ∧ j < j ∧ _) by omega)]
      by_cases hz : (16 * s + j) / 16 = s ∧ j < j + 1 ∧ Z j = false
      · rw [if_pos hz]
      · rw [if_neg hz]
    · have n1 : ¬ ((16 * s + j) / 16 = s ∧ j < j + 1 ∧ Z j = false) := fun z => by rw [h] at z; exact absurd z.2.2 (by decide)
      have n2 : ¬ ((16 * s + j) / 16 = s ∧ j < j ∧ Z j = false) := fun z => by omega
      rw [if_neg n1, if_neg n2]
  · by_cases hz : o / 16 = s ∧ o % 16 < j ∧ Z (o % 16) = false
    · rw [if_pos hz, if_pos ⟨hz.1, by omega, hz.2.2⟩]
    · rw [if_neg hz, if_neg (fun z => hz ⟨z.1, by omega, z.2.2⟩)]
theorem gw_dr_u {Z : Nat → Bool} {s j : Nat} (h : Z j = false) (hj : j < 16) : gw_dr C Z s (j + 1) = gw_u (gw_dr C Z s j) (16 * s + j) none := funext fun o => by
  unfold gw_dr gw_u
  by_cases e : o = 16 * s + j
  · subst e
    have e1 : (16 * s + j) % 16 = j := by omega
    rw [e1, if_pos rfl, if_pos ⟨by omega, by omega, h⟩]
  · rw [if_neg e]
    show _ = (if o / 16 = s ∧ o % 16 < j ∧ Z (o % 16) = false then none else C o)
    by_cases hz : o / 16 = s ∧ o % 16 < j ∧ Z (o % 16) = false
    · rw [if_pos hz, if_pos ⟨hz.1, by omega, hz.2.2⟩]
    · rw [if_neg hz, if_neg (fun z => hz ⟨z.1, by omega, z.2.2⟩)]
theorem gw_dr_n {Z : Nat → Bool} {s j : Nat} (hj : j < 16) : gw_dr C Z s j (16 * s + j) = C (16 * s + j) := if_neg (fun z => by omega)
theorem gw_dr_0 {Z : Nat → Bool} {s : Nat} : gw_dr C Z s 0 = C := funext fun o => if_neg (fun z => by omega)
theorem gw_dc_le {Z : Nat → Bool} {s : Nat} : ∀ j, gw_dc C Z s j ≤ j := by
  intro j
  induction j with
  | zero => exact Nat.le_refl _
  | succ j ih =>
    show gw_dc C Z s j + _ ≤ _
    by_cases h : C (16 * s + j) ≠ none ∧ Z j = false
    · rw [if_pos h]; omega
    · rw [if_neg h]; omega
theorem gx_dru (hv : ∀ o, o < 32 → gw_v D (o / 16) (C o)) {post : Int32 → SX → Prop} {s : Nat} {Z : Nat → Bool} (hs : s < 2) (hZ : ∀ n, n < 16 → xre (32 * s + n) = if Z n = true then 1 else 0) (hp : ∀ xty, gx_t (gw_dr C Z s 16) xty → post (nI (gw_dc C Z s 16)) (xcu, xar, xrc, xlc, xde, xpt, xve, xok, xlt, xty, xpi, xnu, xtg, xse, xso, xnf, xrn, xre, xrl, xrd, xll, xlr)) : ∀ d j xty, j + d = 16 → gx_t (gw_dr C Z s j) xty → wX_dropUnreached_4 post (nI s) xcu xar xrc xlc (d + 1) (nI (gw_dc C Z s j)) (nI j) xde xpt xve xok xlt xty xpi xnu xtg xse xso xnf xrn xre xrl xrd xll xlr := by
  intro d
  induction d with
  | zero =>
    intro j xty hj ht
    have : j = 16 := by omega
    subst this
    exact br_t (nI_le (a := 16) (by omega) (by omega)) (hp _ ht)
  | succ d ih =>
    intro j xty hj ht
    have e := gw_e5 s j
    have hi : vp_in (nI (32 * s + j)) 48 := vp_in_nI (by omega) (by omega)
    have ed : gw_d (16 * s + j) = 32 * s + j := gw_d1 (by omega)
    have e1 : (nI (32 * s + j)).toNatClampNeg = 32 * s + j := nI_clamp (by omega)
    have et := ht.1 (16 * s + j) (by omega)
    rw [ed, gw_dr_n (by omega)] at et
    have hc : gw_dc C Z s (j + 1) = gw_dc C Z s j + (if C (16 * s + j) ≠ none ∧ Z j = false then 1 else 0) := rfl
    refine br_f (nI_ge (b := 16) (by omega) (by omega)) (nm_r e ⟨hi, ?_⟩)
    rw [e1, et, hZ j (by omega)]
    cases hC : C (16 * s + j) with
    | none =>
      rw [if_neg (fun z => z.1 hC)] at hc
      have := ih (j + 1) xty (by omega) (by rw [gw_dr_s (Or.inl hC) (by omega)]; exact ht)
      rw [hc] at this
      exact br_t rfl (nm_r (nI_1 j) this)
    | some t =>
      have h12 := (hv _ (by omega) t hC).1
      by_cases hz : Z j = true
      · rw [if_neg (fun z => by rw [hz] at z; exact absurd z.2 (by decide))] at hc
        have := ih (j + 1) xty (by omega) (by rw [gw_dr_s (Or.inr hz) (by omega)]; exact ht)
        rw [hc] at this
        exact br_f (gw_nm (by omega)) ⟨hi, br_f (by rw [if_pos hz]; decide) (nm_r (nI_1 j) this)⟩
      · have hz' : Z j = false := by cases h : Z j; rfl; exact absurd h hz
        rw [if_pos ⟨by rw [hC]; simp, hz'⟩] at hc
        have := ih (j + 1) (upd xty (32 * s + j) (-1)) (by omega) (by rw [gw_dr_u hz' (by omega), ← ed]; exact gx_t_u ht (by omega) none)
        rw [hc] at this
        exact br_f (gw_nm (by omega)) ⟨hi, br_t (by rw [if_neg hz]) ⟨hi, nm_e (nm_r (nI_1 _) (nm_r (nI_1 j) this))⟩⟩
theorem gx_c17 (hO : gw_O D P K C S T F) (ht : gx_t C xty) (hg : gx_g T xtg) {post : Int32 → SX → Prop} {s : Nat} {Z : Nat → Bool} (hs : s < 2) (hZ : ∀ n, n < 16 → (Z n = true ↔ gw_R C S T B s n)) (hp : ∀ xrc xre xrl xty, gx_t (gw_dr C Z s 16) xty → post (nI (gw_dc C Z s 16)) (xcu, xar, xrc, xlc, xde, xpt, xve, xok, xlt, xty, xpi, xnu, xtg, xse, xso, xnf, xrn, xre, xrl, xrd, xll, xlr)) : ∀ d i M xrc xre xrl, i + d = 16 → gx_RI s M xrc xre xrl → (∀ n, n < 16 → M n = true → gw_R C S T B s n) → (∀ n, n < 16 → gw_rt C S B s n → M n = true) → (∀ a n m, a < i → a < gw_cn M 16 → n < 16 → m < 16 → xrl a = nI (32 * s + n) → gw_eg T s n m → M m = true) → wX_collect_17 post (nI s) (d + 1) (nI i) xcu xar xrc xlc xde xpt xve xok xlt xty xpi xnu xtg xse xso xnf xrn xre xrl xrd xll xlr := by
  -- the end, from marks that are closed
  have fin : ∀ M xrc xre xrl, gx_RI s M xrc xre xrl → (∀ n, n < 16 → M n = true → gw_R C S T B s n) → (∀ n, n < 16 → gw_rt C S B s n → M n = true) → (∀ n m, n < 16 → m < 16 → M n = true → gw_eg T s n m → M m = true) → wX_collect_47 post (nI s) xcu xar xrc xlc xde xpt xve xok xlt xty xpi xnu xtg xse xso xnf xrn xre xrl xrd xll xlr := by
    intro M xrc xre xrl hR hM hr hcl
    refine ⟨17, gx_dru (C := C) (Z := Z) (post := fun r u => match u with | (xcu1, xar1, xrc1, xlc1, xde1, xpt1, xve1, xok1, xlt1, xty1, xpi1, xnu1, xtg1, xse1, xso1, xnf1, xrn1, xre1, xrl1, xrd1, xll1, xlr1) => post r (xcu1, xar1, xrc1, xlc1, xde1, xpt1, xve1, xok1, xlt1, xty1, xpi1, xnu1, xtg1, xse1, xso1, xnf1, xrn1, xre1, xrl1, xrd1, xll1, xlr1)) hO.1 hs ?_ (fun xty' h => hp _ _ _ _ h) 16 0 xty (by omega) (by rw [gw_dr_0]; exact ht)⟩
    intro n hn
    rw [hR.2.1 n hn]
    by_cases h : M n = true
    · rw [if_pos h, if_pos ((hZ n hn).mpr (hM n hn h))]
    · rw [if_neg h, if_neg (fun z => h ?_)]
      have h2 := ((hZ n hn).mp z) (fun a => a < 16 ∧ M a = true) (fun a ha x => ⟨ha, hr a ha x⟩) (fun a b ha hb x y => ⟨hb, hcl a b ha hb x.2 y⟩)
      exact h2.2
  intro d
  induction d with
  | zero =>
    intro i M xrc xre xrl hi hR hM hr hcl
    have hle := gw_cn_le (p := M) 16
    refine br_t (nI_le (a := 16) (by omega) (by omega)) (fin M _ _ _ hR hM hr (fun n m hn hm x y => ?_))
    obtain ⟨a, a1, a2⟩ := hR.2.2.2 n hn x
    exact hcl a n m (by omega) a1 hn hm a2 y
  | succ d ih =>
    intro i M xrc xre xrl hi hR hM hr hcl
    have hle := gw_cn_le (p := M) 16
    refine br_f (nI_ge (b := 16) (by omega) (by omega)) (pk_le (gw_cn M 16) i (fun h => fin M _ _ _ hR hM hr (fun n m hn hm x y => ?_)) (fun h => ⟨vp_in_nI (by omega) (by omega), ?_⟩) (hx := hR.1))
    · obtain ⟨a, a1, a2⟩ := hR.2.2.2 n hn x
      exact hcl a n m (by omega) a1 hn hm a2 y
    · obtain ⟨n, n1, n2, n3⟩ := hR.2.2.1 i h
      rw [nI_clamp (by omega), n3]
      have hRn := hM n n1 n2
      refine ⟨11, gx_rtg hO hg hs n1 (gw_R_l hO hs hRn).2 10 0 M _ _ _ (by omega) hR (fun M' rc re rl h1 h2 h3 h4 h5 => nm_r (nI_1 i) (ih (i + 1) M' _ _ _ (by omega) h1 (fun m hm x => ?_) (fun m hm x => h2 m hm (hr m hm x)) (fun a b m ha hac hb hm x y => ?_)))⟩
      · rcases h5 m hm x with x | x
        · exact hM m hm x
        · exact gw_R_e n1 hm hRn x
      · by_cases ea : a = i
        · subst ea
          rw [h3 a h, n3, nI_eq (by omega) (by omega)] at x
          have : b = n := by omega
          subst this
          obtain ⟨c, c1, c2⟩ := y
          exact h4 m c hm (by omega) c1 c2
        · have hai : a < i := by omega
          rw [h3 a (by omega)] at x
          exact h2 m hm (hcl a b m hai (by omega) hb hm x y)
end
end
end
section
/-! collect: the reference -/
section
variable {D V K B : Nat → Int32} {P L C S T : Nat → Option Nat} {F : Nat → Int64} {cu : Option Nat}
theorem gw_toI {z : Nat} (hz : z < 100) : (gw_o (some z)).toInt64.toInt32 = nI z := by
  show (nI z).toInt64.toInt32 = _
  rw [nI_l (by omega), lN_i]
theorem gw_tln {z : Nat} (hz : z < 100) : ¬ (gw_o (some z)).toInt64 < 0 := by
  show ¬ (nI z).toInt64 < 0
  rw [nI_l (by omega)]
  have h : ¬ lN z < lN 0 := by rw [lN_lt (by omega) (by omega)]; omega
  exact h
theorem gw_tl0 : (gw_o none).toInt64 < 0 := by decide
section
variable {ycu ydp ylm : Int32} {yde yve ypa yow yla ycl ypr ypi yar : Nat → Int32} {yva : Nat → Int64} {yfr yma ydo yro : Nat → Int32}
theorem gy_rt22 (hO : gw_O D P K C S T F) (ht : gy_t C ycl) (hS : gy_s S ypr) {post : Int32 → Prop} {o : Nat} (ho : o < 32) (h1 : (∃ q, q < 32 ∧ S q = some o) → post 1) (h0 : (¬ ∃ q, q < 32 ∧ S q = some o) → post 0) : ∀ d q, q + d = 32 → (∀ i, i < q → S i ≠ some o) → wY_root_22 post (nI o) ycu ydp ylm yde yve ypa yow yla ycl ypr ypi yar yva yfr yma ydo yro (d + 1) (nI q) := by
  intro d
  induction d with
  | zero =>
    intro q hq hb
    exact br_t (nI_le (a := 32) (by omega) (by omega)) (h0 (fun ⟨i, a, b⟩ => hb i (by omega) b))
  | succ d ih =>
    intro q hq hb
    have hi : vp_in (nI q) 32 := vp_in_nI (by omega) (by omega)
    have nx : S q ≠ some o → ∀ i, i < q + 1 → S i ≠ some o := fun h i hi => by
      by_cases e : i = q
      · rw [e]; exact h
      · exact hb i (by omega)
    refine br_f (nI_ge (b := 32) (by omega) (by omega)) ⟨hi, ?_⟩
    rw [nI_clamp (by omega), ht q (by omega), hS q (by omega)]
    cases hc : C q with
    | none => exact br_t (by decide) (nm_r (nI_1 q) (ih (q + 1) (by omega) (nx (fun z => (hO.2.1 q o (by omega) z).2.2.1 hc))))
    | some t =>
      refine br_f (gw_p0 (by omega)) ⟨hi, ?_⟩
      have q1 : (gw_o (S q) = nI o) ↔ S q = some o := by
        cases hs : S q with
        | none => exact ⟨fun z => absurd z.symm (gw_nm (by omega)), fun z => absurd z (by simp)⟩
        | some z =>
          have := (hO.2.1 q z (by omega) hs).1
          show nI z = nI o ↔ _
          rw [nI_eq (by omega) (by omega), Option.some.injEq]
      exact ek_if q1 (fun h => h1 ⟨q, by omega, h⟩) (fun h => nm_r (nI_1 q) (ih (q + 1) (by omega) (nx h)))
theorem gy_root (hO : gw_O D P K C S T F) (ht : gy_t C ycl) (hb : gy_b B ypi) (hS : gy_s S ypr) {post : Int32 → Prop} {s n : Nat} (hs : s < 2) (hn : n < 16) (hc : C (16 * s + n) ≠ none) (h1 : gw_rt C S B s n → post 1) (h0 : ¬ gw_rt C S B s n → post 0) : wpY_root post (ycu, ydp, ylm, yde, yve, ypa, yow, yla, ycl, ypr, ypi, yar, yva, yfr, yma, ydo, yro) (nI (16 * s + n)) := by
  have hi : vp_in (nI (16 * s + n)) 32 := vp_in_nI (by omega) (by omega)
  refine ⟨hi, ?_⟩
  rw [nI_clamp (by omega), hb _ (by omega), hS _ (by omega)]
  refine br_c (fun hb0 => ⟨hi, ?_⟩) (fun hb0 => h1 ⟨hc, Or.inl hb0⟩)
  cases hq : S (16 * s + n) with
  | none =>
    refine br_t (by decide) ⟨33, gy_rt22 hO ht hS (by omega) (fun h => h1 ⟨hc, Or.inr (Or.inr h)⟩) (fun h => h0 (fun z => ?_)) 32 0 (by omega) (fun i hi => by omega)⟩
    rcases z.2 with z | z | z
    · exact z hb0
    · exact z hq
    · exact h z
  | some z =>
    have := (hO.2.1 _ z (by omega) hq).1
    exact br_f (gw_p0 (by omega)) (h1 ⟨hc, Or.inr (Or.inl (by rw [hq]; simp))⟩)
theorem gy_tgs (hC : gw_C D yow P L) (hy : gy_C D P L ypa yla) (hO : gw_O D P yow C S T F) (ht : gy_t C ycl) (hv : gy_v P yow C T F yva) {post : Int32 → Prop} {o t : Nat} (ho : o < 32) (hc : C o = some t) (hp : ∀ x, (∀ i, i < 32 → (bt x i = true ↔ ∃ a, a < 10 ∧ T (10 * o + a) = some i)) → post x) : ∀ d j x, j + d = 10 → (∀ i, i < 32 → (bt x i = true ↔ ∃ a, a < j ∧ T (10 * o + a) = some i)) → wY_targets_4 post (nI o) ycu ydp ylm yde yve ypa yow yla ycl ypr ypi yar yva yfr yma ydo yro (d + 1) x (nI j) := by
  have hvt := hO.1 o ho
  rw [hc] at hvt
  intro d
  induction d with
  | zero =>
    intro j x hj hb
    have : j = 10 := by omega
    subst this
    exact br_t (nI_le (a := 10) (by omega) (by omega)) (hp x hb)
  | succ d ih =>
    intro j x hj hb
    have e := gw_e7 o j
    have hi : vp_in (10 * nI o + nI j) 320 := by rw [e]; exact vp_in_nI (by omega) (by omega)
    have same : T (10 * o + j) = none → ∀ i, i < 32 → (bt x i = true ↔ ∃ a, a < j + 1 ∧ T (10 * o + a) = some i) := fun hn i hi => by
      rw [hb i hi]
      refine ⟨fun ⟨a, a1, a2⟩ => ⟨a, by omega, a2⟩, fun ⟨a, a1, a2⟩ => ?_⟩
      by_cases ea : a = j
      · rw [ea, hn] at a2; exact absurd a2 (by simp)
      · exact ⟨a, by omega, a2⟩
    refine br_f (nI_ge (b := 10) (by omega) (by omega)) (gy_kindOf hC hy ht ho hc hvt (by omega) (br_c (fun h4 => ⟨hi, ?_⟩) (fun h4 => nm_r (nI_1 j) (ih (j + 1) x (by omega) (same ((hO.2.2.1 o j t ho (by omega) hc).1 h4))))))
    rw [e, nI_clamp (by omega), hv o j t ho (by omega) hc, if_pos h4]
    cases hT : T (10 * o + j) with
    | none => exact br_t gw_tl0 (nm_r (nI_1 j) (ih (j + 1) x (by omega) (same hT)))
    | some z =>
      have hz := (hO.2.2.2 o j z ho (by omega) (by rw [hc]; simp) hT).1
      refine br_f (gw_tln (by omega)) ⟨by rw [← e]; exact hi, nm_e (nm_r (nI_1 j) (ih (j + 1) _ (by omega) (fun i hi => ?_)))⟩
      rw [gw_toI (by omega), gw_bor hz hi, hb i hi]
      constructor
      · intro h
        rcases h with ⟨a, a1, a2⟩ | h
        · exact ⟨a, by omega, a2⟩
        · exact ⟨j, by omega, by rw [hT, h]⟩
      · intro ⟨a, a1, a2⟩
        by_cases ea : a = j
        · rw [ea, hT] at a2
          injection a2 with a2
          exact Or.inr a2.symm
        · exact Or.inl ⟨a, by omega, a2⟩
theorem gy_c71 (hC : gw_C D yow P L) (hy : gy_C D P L ypa yla) (hO : gw_O D P yow C S T F) (ht : gy_t C ycl) (hv : gy_v P yow C T F yva) {post : Int32 → SY → Prop} {J : Int32 → Int32 → Prop} {s r : Nat} (hs : s < 2) : ∀ d j x, j + d = 16 → (∀ n, n < 16 → bt x (16 * s + n) = true → C (16 * s + n) ≠ none) → (∀ x', (∀ n, n < 16 → bt x (16 * s + n) = true → bt x' (16 * s + n) = true) → (∀ n m, j ≤ n → n < 16 → m < 16 → bt x (16 * s + n) = true → gw_eg T s n m → bt x' (16 * s + m) = true) → (∀ Q : Nat → Prop, (∀ n, n < 16 → bt x (16 * s + n) = true → Q n) → (∀ a b, a < 16 → b < 16 → Q a → gw_eg T s a b → Q b) → ∀ n, n < 16 → bt x' (16 * s + n) = true → Q n) → J x' (nI (r + 1))) → wY_collect_71 post J (nI s) (nI r) ycu ydp ylm yde yve ypa yow yla ycl ypr ypi yar yva yfr yma ydo yro (d + 1) x (nI (16 * s + j)) := by
  have e16 := gw_e6b s
  intro d
  induction d with
  | zero =>
    intro j x hj hl hp
    refine br_t (by rw [e16]; exact nI_le (by omega) (by omega)) (nm_r (nI_1 r) (hp x (fun _ _ h => h) (fun n m h1 h2 => by omega) (fun Q h _ n hn hx => h n hn hx)))
  | succ d ih =>
    intro j x hj hl hp
    refine br_f (by rw [e16]; exact nI_ge (by omega) (by omega)) (ek_if (gw_bit1 (by omega)) (fun hb => ?_) (fun hb => nm_r (nI_1 _) (ih (j + 1) x (by omega) hl (fun x' h1 h2 h3 => hp x' h1 (fun n m a b c g f => ?_) h3))))
    · have hcl := hl j (by omega) hb
      cases hc : C (16 * s + j) with
      | none => exact absurd hc hcl
      | some t =>
        refine ⟨11, gy_tgs hC hy hO ht hv (by omega) hc (fun y hb2 => nm_e (nm_r (nI_1 _) (ih (j + 1) _ (by omega) ?_ (fun x' h1 h2 h3 => hp x' ?_ ?_ ?_)))) 10 0 0 (by omega) (fun i _ => ⟨fun z => by rw [b_0] at z; exact absurd z (by decide), fun ⟨a, a1, _⟩ => by omega⟩)⟩
        · intro n hn hx
          rw [b_or, Bool.or_eq_true] at hx
          rcases hx with hx | hx
          · exact hl n hn hx
          · obtain ⟨a, a1, a2⟩ := (hb2 _ (by omega)).mp hx
            exact (hO.2.2.2 _ a _ (by omega) a1 hcl a2).2.2
        · intro n hn hx
          exact h1 n hn (by rw [b_or, hx]; rfl)
        · intro n m hn1 hn hm hx he
          by_cases en : n = j
          · subst en
            refine h1 m hm ?_
            obtain ⟨a, a1, a2⟩ := he
            rw [b_or, (hb2 _ (by omega)).mpr ⟨a, a1, a2⟩, Bool.or_true]
          · exact h2 n m (by omega) hn hm (by rw [b_or, hx]; rfl) he
        · intro Q hq hcl2 n hn hx
          refine h3 Q (fun a ha hxa => ?_) hcl2 n hn hx
          rw [b_or, Bool.or_eq_true] at hxa
          rcases hxa with hxa | hxa
          · exact hq a ha hxa
          · obtain ⟨c, c1, c2⟩ := (hb2 _ (by omega)).mp hxa
            exact hcl2 j a (by omega) ha (hq j (by omega) hb) ⟨c, c1, c2⟩
    · by_cases en : n = j
      · rw [en] at g; exact absurd g hb
      · exact h2 n m (by omega) b c g f
theorem gy_dru {post : Int32 → SY → Prop} {s : Nat} {Z : Nat → Bool} {x : Int32} (hs : s < 2) (hZ : ∀ n, n < 16 → (bt x (16 * s + n) = true ↔ Z n = true)) (hp : ∀ ycl, gy_t (gw_dr C Z s 16) ycl → post (nI (gw_dc C Z s 16)) (ycu, ydp, ylm, yde, yve, ypa, yow, yla, ycl, ypr, ypi, yar, yva, yfr, yma, ydo, yro)) : ∀ d j ycl, j + d = 16 → gy_t (gw_dr C Z s j) ycl → wY_collect_122 post (nI s) x ycu ydp ylm (d + 1) (nI (gw_dc C Z s j)) (nI (16 * s + j)) yde yve ypa yow yla ycl ypr ypi yar yva yfr yma ydo yro := by
  have e16 := gw_e6b s
  intro d
  induction d with
  | zero =>
    intro j ycl hj ht
    have : j = 16 := by omega
    subst this
    exact br_t (by rw [e16]; exact nI_le (by omega) (by omega)) (hp _ ht)
  | succ d ih =>
    intro j ycl hj ht
    have hi : vp_in (nI (16 * s + j)) 32 := vp_in_nI (by omega) (by omega)
    have e1 : (nI (16 * s + j)).toNatClampNeg = 16 * s + j := nI_clamp (by omega)
    have et := ht (16 * s + j) (by omega)
    rw [gw_dr_n (by omega)] at et
    have hc : gw_dc C Z s (j + 1) = gw_dc C Z s j + (if C (16 * s + j) ≠ none ∧ Z j = false then 1 else 0) := rfl
    refine br_f (by rw [e16]; exact nI_ge (by omega) (by omega)) ⟨hi, ?_⟩
    rw [e1, et]
    cases hC : C (16 * s + j) with
    | none =>
      rw [if_neg (fun z => z.1 hC)] at hc
      have := ih (j + 1) ycl (by omega) (by rw [gw_dr_s (Or.inl hC) (by omega)]; exact ht)
      rw [hc] at this
      exact br_t (by decide) (nm_r (nI_1 _) this)
    | some t =>
      refine br_f (gw_p0 (by omega)) ?_
      by_cases hz : Z j = true
      · rw [if_neg (fun z => by rw [hz] at z; exact absurd z.2 (by decide))] at hc
        have := ih (j + 1) ycl (by omega) (by rw [gw_dr_s (Or.inr hz) (by omega)]; exact ht)
        rw [hc] at this
        exact br_f (fun z => (gw_bit0 (by omega)).mp z ((hZ j (by omega)).mpr hz)) (nm_r (nI_1 _) this)
      · have hz' : Z j = false := by cases h : Z j; rfl; exact absurd h hz
        rw [if_pos ⟨by rw [hC]; simp, hz'⟩] at hc
        have := ih (j + 1) (upd ycl (16 * s + j) (-1)) (by omega) (by rw [gw_dr_u hz' (by omega)]; exact gy_t_u ht none)
        rw [hc] at this
        exact br_t ((gw_bit0 (by omega)).mpr (fun z => hz ((hZ j (by omega)).mp z))) ⟨hi, nm_e (nm_r (nI_1 _) (nm_r (nI_1 _) this))⟩
theorem gy_c59 (hC : gw_C D yow P L) (hy : gy_C D P L ypa yla) (hO : gw_O D P yow C S T F) (ht : gy_t C ycl) (hv : gy_v P yow C T F yva) {post : Int32 → SY → Prop} {s : Nat} {Z : Nat → Bool} (hs : s < 2) (hZ : ∀ n, n < 16 → (Z n = true ↔ gw_R C S T B s n)) (hp : ∀ ycl, gy_t (gw_dr C Z s 16) ycl → post (nI (gw_dc C Z s 16)) (ycu, ydp, ylm, yde, yve, ypa, yow, yla, ycl, ypr, ypi, yar, yva, yfr, yma, ydo, yro)) : ∀ d r x, r + d = 16 → (∀ n, n < 16 → bt x (16 * s + n) = true → gw_R C S T B s n) → (∀ n, n < 16 → gw_rt C S B s n → bt x (16 * s + n) = true) → ((∀ n m, n < 16 → m < 16 → bt x (16 * s + n) = true → gw_eg T s n m → bt x (16 * s + m) = true) ∨ r ≤ gw_cn (fun n => bt x (16 * s + n)) 16) → wY_collect_59 post (nI s) ycu ydp ylm yde yve ypa yow yla ycl ypr ypi yar yva yfr yma ydo yro (d + 1) x (nI r) := by
  intro d
  induction d with
  | zero =>
    intro r x hr h1 h2 h3
    have hcl : ∀ n m, n < 16 → m < 16 → bt x (16 * s + n) = true → gw_eg T s n m → bt x (16 * s + m) = true := by
      rcases h3 with h3 | h3
      · exact h3
      · intro n m hn hm _ _
        apply Classical.byContradiction
        intro hno
        have := gw_cn_lt (p := fun n => bt x (16 * s + n)) (n := m) hno 16 hm
        omega
    refine br_t (nI_le (a := 16) (by omega) (by omega)) (nm_r (gw_e6 s) ⟨17, gy_dru (C := C) (Z := Z) hs (fun n hn => ?_) hp 16 0 ycl (by omega) (by rw [gw_dr_0]; exact ht)⟩)
    constructor
    · intro hb; exact (hZ n hn).mpr (h1 n hn hb)
    · intro hz
      have h4 := ((hZ n hn).mp hz) (fun a => a < 16 ∧ bt x (16 * s + a) = true) (fun a ha x => ⟨ha, h2 a ha x⟩) (fun a b ha hb x y => ⟨hb, hcl a b ha hb x.2 y⟩)
      exact h4.2
  | succ d ih =>
    intro r x hr h1 h2 h3
    refine br_f (nI_ge (b := 16) (by omega) (by omega)) (nm_r (gw_e6 s) ⟨17, gy_c71 hC hy hO ht hv hs 16 0 x (by omega) (fun n hn hb => (gw_R_l hO hs (h1 n hn hb)).2) (fun x' g1 g2 g3 => ih (r + 1) x' (by omega) ?_ (fun n hn hr => g1 n hn (h2 n hn hr)) ?_)⟩)
    · exact g3 _ h1 (fun a b ha hb hq he => gw_R_e ha hb hq he)
    · by_cases hcl : ∀ n m, n < 16 → m < 16 → bt x (16 * s + n) = true → gw_eg T s n m → bt x (16 * s + m) = true
      · left
        have hsub : ∀ n, n < 16 → bt x' (16 * s + n) = true → bt x (16 * s + n) = true := fun n hn hx => by
          have := g3 (fun a => a < 16 ∧ bt x (16 * s + a) = true) (fun a ha h => ⟨ha, h⟩) (fun a b ha hb x y => ⟨hb, hcl a b ha hb x.2 y⟩) n hn hx
          exact this.2
        intro n m hn hm hx he
        exact g2 n m (by omega) hn hm (hsub n hn hx) he
      · right
        have h4 : r ≤ gw_cn (fun n => bt x (16 * s + n)) 16 := h3.resolve_left hcl
        have : ∃ m, m < 16 ∧ bt x' (16 * s + m) = true ∧ ¬ bt x (16 * s + m) = true := by
          apply Classical.byContradiction
          intro hno
          apply hcl
          intro n m hn hm hx he
          apply Classical.byContradiction
          intro hb
          exact hno ⟨m, hm, g2 n m (by omega) hn hm hx he, hb⟩
        obtain ⟨m, m1, m2, m3⟩ := this
        have := gw_cn_s (p := fun n => bt x (16 * s + n)) (q := fun n => bt x' (16 * s + n)) (m := m) m3 m2 16 m1 g1
        omega
theorem gy_c17 (hC : gw_C D yow P L) (hy : gy_C D P L ypa yla) (hO : gw_O D P yow C S T F) (ht : gy_t C ycl) (hv : gy_v P yow C T F yva) (hb : gy_b B ypi) (hS : gy_s S ypr) {post : Int32 → SY → Prop} {s : Nat} {Z : Nat → Bool} (hs : s < 2) (hZ : ∀ n, n < 16 → (Z n = true ↔ gw_R C S T B s n)) (hp : ∀ ycl, gy_t (gw_dr C Z s 16) ycl → post (nI (gw_dc C Z s 16)) (ycu, ydp, ylm, yde, yve, ypa, yow, yla, ycl, ypr, ypi, yar, yva, yfr, yma, ydo, yro)) : ∀ d j x, j + d = 16 → (∀ n, n < 16 → bt x (16 * s + n) = true → gw_R C S T B s n) → (∀ n, n < j → gw_rt C S B s n → bt x (16 * s + n) = true) → wY_collect_17 post (nI s) ycu ydp ylm yde yve ypa yow yla ycl ypr ypi yar yva yfr yma ydo yro (d + 1) x (nI (16 * s + j)) := by
  have e16 := gw_e6b s
  intro d
  induction d with
  | zero =>
    intro j x hj h1 h2
    exact br_t (by rw [e16]; exact nI_le (by omega) (by omega)) ⟨17, gy_c59 hC hy hO ht hv hs hZ hp 16 0 x (by omega) h1 (fun n hn => h2 n (by omega)) (Or.inr (by omega))⟩
  | succ d ih =>
    intro j x hj h1 h2
    refine br_f (by rw [e16]; exact nI_ge (by omega) (by omega)) ⟨vp_in_nI (by omega) (by omega), ?_⟩
    rw [nI_clamp (by omega), ht _ (by omega)]
    have nx : ¬ gw_rt C S B s j → ∀ n, n < j + 1 → gw_rt C S B s n → bt x (16 * s + n) = true := fun h n hn hr => by
      by_cases e : n = j
      · rw [e] at hr; exact absurd hr h
      · exact h2 n (by omega) hr
    cases hc : C (16 * s + j) with
    | none => exact br_t (by decide) (nm_r (nI_1 _) (ih (j + 1) x (by omega) h1 (nx (fun z => z.1 hc))))
    | some t =>
      refine br_f (gw_p0 (by omega)) (gy_root hO ht hb hS hs (by omega) (by rw [hc]; simp) (fun hr => br_f (by decide) (nm_e (nm_r (nI_1 _) (ih (j + 1) _ (by omega) (fun n hn hx => ?_) (fun n hn hrn => ?_))))) (fun hr => br_t rfl (nm_r (nI_1 _) (ih (j + 1) x (by omega) h1 (nx hr)))))
      · rw [gw_bor (by omega) (by omega)] at hx
        rcases hx with hx | hx
        · exact h1 n hn hx
        · have : n = j := by omega
          rw [this]; exact gw_R_r (by omega) hr
      · rw [gw_bor (by omega) (by omega)]
        by_cases e : n = j
        · right; rw [e]
        · left; exact h2 n (by omega) hrn
end
theorem gw_O_dr (hO : gw_O D P K C S T F) {s : Nat} {Z : Nat → Bool} (hs : s < 2) (hZ : ∀ n, n < 16 → (Z n = true ↔ gw_R C S T B s n)) : gw_O D P K (gw_dr C Z s 16) S T F := by
  have le : ∀ o t, gw_dr C Z s 16 o = some t → C o = some t := fun o t h => by
    unfold gw_dr at h
    by_cases c : o / 16 = s ∧ o % 16 < 16 ∧ Z (o % 16) = false
    · rw [if_pos c] at h; exact absurd h (by simp)
    · rw [if_neg c] at h; exact h
  have lv : ∀ o, gw_dr C Z s 16 o ≠ none → C o ≠ none ∧ (o / 16 = s → Z (o % 16) = true) := fun o h => by
    unfold gw_dr at h
    by_cases c : o / 16 = s ∧ o % 16 < 16 ∧ Z (o % 16) = false
    · rw [if_pos c] at h; exact absurd rfl h
    · rw [if_neg c] at h
      refine ⟨h, fun e => ?_⟩
      cases hz : Z (o % 16)
      · exact absurd ⟨e, by omega, hz⟩ c
      · rfl
  have kp : ∀ o, o < 32 → C o ≠ none → (o / 16 = s → gw_R C S T B s (o % 16)) → gw_dr C Z s 16 o ≠ none := fun o ho h hr => by
    unfold gw_dr
    by_cases c : o / 16 = s ∧ o % 16 < 16 ∧ Z (o % 16) = false
    · have := (hZ (o % 16) (by omega)).mpr (hr c.1)
      rw [c.2.2] at this
      exact absurd this (by decide)
    · rw [if_neg c]; exact h
  refine ⟨fun o ho t h => hO.1 o ho t (le o t h), fun o q ho hq => ?_, fun o n t ho hn h => hO.2.2.1 o n t ho hn (le o t h), fun o n z ho hn hc hz => ?_⟩
  · obtain ⟨a, b, c, d⟩ := hO.2.1 o q ho hq
    refine ⟨a, b, kp o ho c (fun e => gw_R_r (by omega) ?_), kp q a d (fun e => gw_R_r (by omega) ?_)⟩
    · rw [show o = 16 * s + o % 16 by omega] at c hq
      exact ⟨c, Or.inr (Or.inl (by rw [hq]; simp))⟩
    · rw [show q = 16 * s + q % 16 by omega] at d hq
      exact ⟨d, Or.inr (Or.inr ⟨o, ho, hq⟩)⟩
  · obtain ⟨a, b⟩ := lv o hc
    obtain ⟨z1, z2, z3⟩ := hO.2.2.2 o n z ho hn a hz
    refine ⟨z1, z2, kp z z1 z3 (fun e => ?_)⟩
    have eo : o / 16 = s := by omega
    have hr := (hZ (o % 16) (by omega)).mp (b eo)
    refine gw_R_e (by omega) (by omega) hr ⟨n, hn, ?_⟩
    rw [show 16 * s + o % 16 = o by omega, show 16 * s + z % 16 = z by omega]
    exact hz
theorem gy_v_dr {a : Nat → Int64} (h : gy_v P K C T F a) {s : Nat} {Z : Nat → Bool} : gy_v P K (gw_dr C Z s 16) T F a := fun o n t ho hn hc => by
  refine h o n t ho hn ?_
  unfold gw_dr at hc
  by_cases c : o / 16 = s ∧ o % 16 < 16 ∧ Z (o % 16) = false
  · rw [if_pos c] at hc; exact absurd hc (by simp)
  · rw [if_neg c] at hc; exact hc
theorem i_vc_collect {k : Nat} {u : SX} {v : SY} (I : i_Rel k u v) (hk : k + 5 ≤ 2560) (v1 : Int32) : wpX_collect (fun r u' => wpY_collect (fun r' v' => r' = r ∧ i_Rel (k + 5) u' v') v v1) u v1 := by
  have I' := I
  obtain ⟨xcu, xar, xrc, xlc, xde, xpt, xve, xok, xlt, xty, xpi, xnu, xtg, xse, xso, xnf, xrn, xre, xrl, xrd, xll, xlr⟩ := u
  obtain ⟨ycu, ydp, ylm, yde, yve, ypa, yow, yla, ycl, ypr, ypi, yar, yva, yfr, yma, ydo, yro⟩ := v
  obtain ⟨D, V, K, P, L, C, S, T, B, F, cu, hC, hO, hX, hY⟩ := I
  obtain ⟨rfl, rfl, rfl, hxc, hxt, hxb, hxf, hxg, hxs, hxu⟩ := hX
  obtain ⟨rfl, rfl, rfl, hyc, hyt, hyb, hyv, hys, hyu⟩ := hY
  unfold wpX_collect wpY_collect; dsimp only
  rcases gw_sid v1 with ⟨s, hs, rfl⟩ | hno
  · obtain ⟨Z, hZ'⟩ : ∃ Z : Nat → Bool, ∀ n, Z n = true ↔ gw_R C S T B s n := ⟨fun n => @decide _ (Classical.propDecidable (gw_R C S T B s n)), fun n => by simp⟩
    have hZ : ∀ n, n < 16 → (Z n = true ↔ gw_R C S T B s n) := fun n _ => hZ' n
    have cn0 : gw_cn (fun _ => false) 16 = 0 := by decide
    refine gx_isSide1 hs (br_f (by decide) ⟨49, gx_rr7 48 0 xre (by omega) ⟨17, gx_rr (B := B) hO hxt hxb hxs hs (fun M rc re rl hR hM hr => ?_) 16 0 (fun _ => false) _ _ _ (by omega) ⟨by rw [cn0]; rfl, fun n hn => ?_, fun i hi => by rw [cn0] at hi; omega, fun n _ h => absurd h Bool.false_ne_true⟩ (fun n _ h => absurd h Bool.false_ne_true) (fun n hn => by omega) (fun n m hn => by omega)⟩⟩)
    · refine ⟨17, gx_c17 (B := B) hO hxt hxg hs hZ (fun rc2 re2 rl2 xty2 hx2 => ?_) 16 0 M _ _ _ (by omega) hR hM hr (fun a n m ha => by omega)⟩
      refine gy_side1 hs (br_f (by decide) (nm_r (gw_e6 s) ⟨17, gy_c17 hC hyc hO hyt hyv hyb hys hs hZ (fun ycl2 hy2 => ⟨rfl, ?_⟩) 16 0 0 (by omega) (fun n hn h => by rw [b_0] at h; exact absurd h (by decide)) (fun n hn => by omega)⟩))
      exact ⟨yde, yve, yow, P, L, gw_dr C Z s 16, S, T, B, F, cu, hC, gw_O_dr hO hs hZ, ⟨rfl, rfl, rfl, hxc, hx2, hxb, hxf, hxg, hxs, hxu⟩, ⟨rfl, rfl, rfl, hyc, hy2, hyb, gy_v_dr hyv, hys, hyu⟩⟩
    · exact gw_fi_i (by omega)
  · exact gx_isSide0 hno (br_t rfl (gy_side0 hno (br_t rfl ⟨rfl, I'⟩)))
end
end
section
/-! alike: pairs; the component -/
section
/-- a field that both chains have, at place i = 10 * level + name of the first's chain -/
def gw_it (P : Nat → Option Nat) (K : Nat → Int32) (t r i : Nat) : Prop := ∃ e, gw_an P (i / 10) (some t) = some e ∧ gw_in P r (6 * (r / 6) + e % 6) ∧ ¬ K (10 * e + i % 10) = -1 ∧ ¬ K (10 * (6 * (r / 6) + e % 6) + i % 10) = -1
/-- the two fields of that name agree in themselves -/
def gw_gd (P : Nat → Option Nat) (K : Nat → Int32) (T : Nat → Option Nat) (F : Nat → Int64) (t r p q n : Nat) : Prop := (gw_kd P K t n = 4 ↔ gw_kd P K r n = 4) ∧ F (10 * p + n) = F (10 * q + n) ∧ (T (10 * p + n) = none ↔ T (10 * q + n) = none)
def gw_lk (P : Nat → Option Nat) (K : Nat → Int32) (C T : Nat → Option Nat) (F : Nat → Int64) (p q : Nat) : Prop := ∃ t r, C p = some t ∧ C q = some r ∧ t % 6 = r % 6 ∧ ∀ i, i < 30 → gw_it P K t r i → gw_gd P K T F t r p q (i % 10)
def gw_ed (P : Nat → Option Nat) (K : Nat → Int32) (C T : Nat → Option Nat) (p q z w : Nat) : Prop := ∃ t r i, C p = some t ∧ C q = some r ∧ i < 30 ∧ gw_it P K t r i ∧ T (10 * p + i % 10) = some z ∧ T (10 * q + i % 10) = some w
def gw_RP (P : Nat → Option Nat) (K : Nat → Int32) (C T : Nat → Option Nat) (p0 q0 p q : Nat) : Prop := ∀ Q : Nat → Nat → Prop, Q p0 q0 → (∀ p q z w, Q p q → gw_ed P K C T p q z w → Q z w) → Q p q
def gw_Al (P : Nat → Option Nat) (K : Nat → Int32) (C T : Nat → Option Nat) (F : Nat → Int64) (p0 q0 : Nat) : Prop := ∀ p q, gw_RP P K C T p0 q0 p q → gw_lk P K C T F p q
variable {D V K B : Nat → Int32} {P L C S T : Nat → Option Nat} {F : Nat → Int64} {cu : Option Nat}
theorem gw_cn_f : ∀ k, gw_cn (fun _ => false) k = 0 := by
  intro k
  induction k with
  | zero => rfl
  | succ k ih => show gw_cn _ k + _ = 0; rw [ih]; rfl
theorem gw_RP_0 {p q : Nat} : gw_RP P K C T p q p q := fun _ h _ => h
theorem gw_RP_s {p0 q0 p q z w : Nat} (h : gw_RP P K C T p0 q0 p q) (he : gw_ed P K C T p q z w) : gw_RP P K C T p0 q0 z w := fun Q a b => b p q z w (h Q a b) he
theorem gw_ed_l (hO : gw_O D P K C S T F) {p q z w : Nat} (hp : p < 32) (hq : q < 32) (he : gw_ed P K C T p q z w) : z < 32 ∧ z / 16 = p / 16 ∧ C z ≠ none ∧ w < 32 ∧ w / 16 = q / 16 ∧ C w ≠ none := by
  obtain ⟨t, r, i, h1, h2, _, _, h3, h4⟩ := he
  obtain ⟨a1, a2, a3⟩ := hO.2.2.2 p _ z hp (by omega) (by rw [h1]; simp) h3
  obtain ⟨b1, b2, b3⟩ := hO.2.2.2 q _ w hq (by omega) (by rw [h2]; simp) h4
  exact ⟨a1, a2, a3, b1, b2, b3⟩
theorem gw_RP_l (hO : gw_O D P K C S T F) {p0 q0 p q : Nat} (hp : p0 < 32) (hq : q0 < 32) (cp : C p0 ≠ none) (cq : C q0 ≠ none) (h : gw_RP P K C T p0 q0 p q) : p < 32 ∧ p / 16 = p0 / 16 ∧ C p ≠ none ∧ q < 32 ∧ q / 16 = q0 / 16 ∧ C q ≠ none := by
  refine h (fun p q => p < 32 ∧ p / 16 = p0 / 16 ∧ C p ≠ none ∧ q < 32 ∧ q / 16 = q0 / 16 ∧ C q ≠ none) ⟨hp, rfl, cp, hq, rfl, cq⟩ (fun p q z w hh he => ?_)
  obtain ⟨h1, h2, h3, h4, h5, h6⟩ := hh
  obtain ⟨a1, a2, a3, b1, b2, b3⟩ := gw_ed_l hO h1 h4 he
  exact ⟨a1, by omega, a3, b1, by omega, b3⟩
/-- the marks of pairs, and the list of the marked -/
def gx_R2 (s1 s2 : Nat) (M : Nat → Bool) (xlc : Int32) (xrd xll xlr : Nat → Int32) : Prop :=
  xlc = nI (gw_cn M 256) ∧ (∀ n, n < 256 → xrd n = if M n = true then 1 else 0) ∧
  (∀ i, i < gw_cn M 256 → ∃ n, n < 256 ∧ M n = true ∧ xll i = nI (32 * s1 + n / 16) ∧ xlr i = nI (32 * s2 + n % 16)) ∧
  (∀ n, n < 256 → M n = true → ∃ i, i < gw_cn M 256 ∧ xll i = nI (32 * s1 + n / 16) ∧ xlr i = nI (32 * s2 + n % 16))
/-- within agree (p, q), at place i -/
def gx_AI (P : Nat → Option Nat) (K : Nat → Int32) (C T : Nat → Option Nat) (F : Nat → Int64) (p q t r : Nat) (M0 : Nat → Bool) (l0 r0 : Nat → Int32) (i : Nat) (M : Nat → Bool) (xlc : Int32) (xrd xll xlr : Nat → Int32) : Prop :=
  gx_R2 (p / 16) (q / 16) M xlc xrd xll xlr ∧ (∀ n, n < 256 → M0 n = true → M n = true) ∧
  (∀ a, a < gw_cn M0 256 → xll a = l0 a ∧ xlr a = r0 a) ∧
  (∀ n, n < 256 → M n = true → M0 n = true ∨ gw_ed P K C T p q (16 * (p / 16) + n / 16) (16 * (q / 16) + n % 16)) ∧
  (∀ j, j < i → gw_it P K t r j → gw_gd P K T F t r p q (j % 10) ∧ ∀ z w, T (10 * p + j % 10) = some z → T (10 * q + j % 10) = some w → M (16 * (z % 16) + w % 16) = true)
section
variable {xcu xar xrc xlc : Int32} {xde xpt xve xok xlt xty xpi : Nat → Int32} {xnu : Nat → Int64} {xtg xse xso xnf xrn xre xrl xrd xll xlr : Nat → Int32}
theorem gx_relate {post : SX → Prop} {s1 s2 a b : Nat} {M : Nat → Bool} (h1 : s1 < 2) (h2 : s2 < 2) (ha : a < 16) (hb : b < 16) (hR : gx_R2 s1 s2 M xlc xrd xll xlr) (hp : ∀ xlc' xrd' xll' xlr', gx_R2 s1 s2 (gw_u M (16 * a + b) true) xlc' xrd' xll' xlr' → (∀ i, i < gw_cn M 256 → xll' i = xll i ∧ xlr' i = xlr i) → post (xcu, xar, xrc, xlc', xde, xpt, xve, xok, xlt, xty, xpi, xnu, xtg, xse, xso, xnf, xrn, xre, xrl, xrd', xll', xlr')) : wpX_relate post (xcu, xar, xrc, xlc, xde, xpt, xve, xok, xlt, xty, xpi, xnu, xtg, xse, xso, xnf, xrn, xre, xrl, xrd, xll, xlr) (nI (32 * s1 + a)) (nI (32 * s2 + b)) := by
  obtain ⟨r1, r2, r3, r4⟩ := hR
  have e : (nI (32 * s1 + a) - nI (32 * s1 + a) / 32 * 32) * 16 + (nI (32 * s2 + b) - nI (32 * s2 + b) / 32 * 32) = nI (16 * a + b) := by
    rw [gw_m32 (by omega), gw_m32 (by omega), show (32 * s1 + a) % 32 = a by omega, show (32 * s2 + b) % 32 = b by omega]
    have h : nI a * nI 16 + nI b = nI (16 * a + b) := by rw [pk_mul, nI_add]; exact congrArg nI (by omega)
    exact h
  have hi : vp_in (nI (16 * a + b)) 256 := vp_in_nI (by omega) (by omega)
  have e1 : (nI (16 * a + b)).toNatClampNeg = 16 * a + b := nI_clamp (by omega)
  have hle := gw_cn_le (p := M) 256
  have hn : 16 * a + b < 256 := by omega
  have d1 : (16 * a + b) / 16 = a := by omega
  have d2 : (16 * a + b) % 16 = b := by omega
  refine ⟨gw_32, gw_32, nm_r e ⟨hi, ?_⟩⟩
  rw [e1]
  by_cases hm : M (16 * a + b) = true
  · refine br_f (by rw [r2 _ hn, if_pos hm]; decide) (hp _ _ _ _ ?_ (fun i _ => ⟨rfl, rfl⟩))
    have : gw_u M (16 * a + b) true = M := funext fun j => by
      by_cases h : j = 16 * a + b
      · rw [h, gw_us, hm]
      · rw [gw_un h]
    rw [this]
    exact ⟨r1, r2, r3, r4⟩
  · have hlt := gw_cn_lt hm 256 hn
    have hc := gw_cn_u hm 256
    rw [if_pos hn] at hc
    subst r1
    have hi2 : vp_in (nI (gw_cn M 256)) 256 := vp_in_nI hlt (by omega)
    have e2 : (nI (gw_cn M 256)).toNatClampNeg = gw_cn M 256 := nI_clamp (by omega)
    refine br_t (by rw [r2 _ hn, if_neg hm]) ⟨hi, nm_r (by rw [gw_n1]) ⟨hi2, nm_r (by rw [e2]) ⟨hi2, nm_r (by rw [e2]) (nm_e (hp _ _ _ _ ⟨?_, ?_, ?_, ?_⟩ ?_))⟩⟩⟩
    · rw [nI_1, hc]
    · intro j hj
      by_cases h : j = 16 * a + b
      · rw [h, pk_us, gw_us, if_pos rfl]
      · rw [pk_un h, gw_un h]; exact r2 j hj
    · intro i hi1
      by_cases h : i = gw_cn M 256
      · exact ⟨16 * a + b, hn, gw_us, by rw [h, pk_us, d1], by rw [h, pk_us, d2]⟩
      · obtain ⟨j, j1, j2, j3, j4⟩ := r3 i (by omega)
        refine ⟨j, j1, ?_, by rw [pk_un h]; exact j3, by rw [pk_un h]; exact j4⟩
        by_cases h2 : j = 16 * a + b
        · rw [h2, gw_us]
        · rw [gw_un h2]; exact j2
    · intro j hj hj2
      by_cases h : j = 16 * a + b
      · exact ⟨gw_cn M 256, by omega, by rw [pk_us, h, d1], by rw [pk_us, h, d2]⟩
      · rw [gw_un h] at hj2
        obtain ⟨i, i1, i2, i3⟩ := r4 j hj hj2
        exact ⟨i, by omega, by rw [pk_un (by omega)]; exact i2, by rw [pk_un (by omega)]; exact i3⟩
    · intro i hi1
      exact ⟨pk_un (by omega), pk_un (by omega)⟩
/-- one shared field: its values -/
theorem gx_va (hO : gw_O D P K C S T F) (hf : gx_f F xnu) (hg : gx_g T xtg) {post : Int32 → SX → Prop} {p q t r i : Nat} {M0 M : Nat → Bool} {l0 r0 : Nat → Int32} (hp : p < 32) (hq : q < 32) (cp : C p = some t) (cq : C q = some r) (hi : i < 30) (hit : gw_it P K t r i) (hk : gw_kd P K t (i % 10) = 4 ↔ gw_kd P K r (i % 10) = 4) (hA : gx_AI P K C T F p q t r M0 l0 r0 i M xlc xrd xll xlr) (h0 : ¬ gw_gd P K T F t r p q (i % 10) → ∀ xlc xrd xll xlr, post 0 (xcu, xar, xrc, xlc, xde, xpt, xve, xok, xlt, xty, xpi, xnu, xtg, xse, xso, xnf, xrn, xre, xrl, xrd, xll, xlr)) (h1 : ∀ M' xlc' xrd' xll' xlr', gx_AI P K C T F p q t r M0 l0 r0 (i + 1) M' xlc' xrd' xll' xlr' → post 1 (xcu, xar, xrc, xlc', xde, xpt, xve, xok, xlt, xty, xpi, xnu, xtg, xse, xso, xnf, xrn, xre, xrl, xrd', xll', xlr')) : wpX_valuesAgree post (xcu, xar, xrc, xlc, xde, xpt, xve, xok, xlt, xty, xpi, xnu, xtg, xse, xso, xnf, xrn, xre, xrl, xrd, xll, xlr) (nI (10 * gw_d p + i % 10)) (nI (10 * gw_d q + i % 10)) := by
  have dp := gw_dlt hp
  have dq := gw_dlt hq
  have ip : vp_in (nI (10 * gw_d p + i % 10)) 480 := vp_in_nI (by omega) (by omega)
  have iq : vp_in (nI (10 * gw_d q + i % 10)) 480 := vp_in_nI (by omega) (by omega)
  have ep : (nI (10 * gw_d p + i % 10)).toNatClampNeg = 10 * gw_d p + i % 10 := nI_clamp (by omega)
  have eq : (nI (10 * gw_d q + i % 10)).toNatClampNeg = 10 * gw_d q + i % 10 := nI_clamp (by omega)
  have nn : i % 10 < 10 := by omega
  refine ⟨ip, nm_r (e' := gw_g (T (10 * p + i % 10))) (by rw [ep]; exact hg p _ hp nn) ⟨iq, nm_r (e' := gw_g (T (10 * q + i % 10))) (by rw [eq]; exact hg q _ hq nn) ⟨ip, iq, ?_⟩⟩⟩
  rw [ep, eq, hf p _ hp nn, hf q _ hq nn]
  obtain ⟨aR, aM, aP, aE, aI⟩ := hA
  refine br_c (fun hF => ?_) (fun hF => h0 (fun z => hF z.2.1) _ _ _ _)
  -- the places before
  have keep : ∀ M' : Nat → Bool, (∀ n, n < 256 → M n = true → M' n = true) → gw_gd P K T F t r p q (i % 10) → (∀ z w, T (10 * p + i % 10) = some z → T (10 * q + i % 10) = some w → M' (16 * (z % 16) + w % 16) = true) → ∀ j, j < i + 1 → gw_it P K t r j → gw_gd P K T F t r p q (j % 10) ∧ ∀ z w, T (10 * p + j % 10) = some z → T (10 * q + j % 10) = some w → M' (16 * (z % 16) + w % 16) = true := fun M' hM hg hz j hj hij => by
    by_cases e : j = i
    · rw [e]; exact ⟨hg, hz⟩
    · obtain ⟨a, b⟩ := aI j (by omega) hij
      exact ⟨a, fun z w x y => hM _ (by omega) (b z w x y)⟩
  cases hTp : T (10 * p + i % 10) with
  | none =>
    cases hTq : T (10 * q + i % 10) with
    | none =>
      refine br_t rfl (br_t rfl (br_t rfl (br_t rfl (h1 M _ _ _ _ ⟨aR, aM, aP, aE, keep M (fun _ _ h => h) ⟨hk, hF, by rw [hTp, hTq]⟩ (fun z w x => by rw [hTp] at x; exact absurd x (by simp))⟩))))
    | some w =>
      have hw := (hO.2.2.2 q _ w hq nn (by rw [cq]; simp) hTq).1
      have dw := gw_dlt hw
      refine br_t rfl (br_f (gw_nm (by omega)) (br_f (by decide) (h0 (fun z => ?_) _ _ _ _)))
      have := z.2.2.mp hTp
      rw [hTq] at this
      exact absurd this (by simp)
  | some z =>
    obtain ⟨z1, z2, z3⟩ := hO.2.2.2 p _ z hp nn (by rw [cp]; simp) hTp
    have dz := gw_dlt z1
    cases hTq : T (10 * q + i % 10) with
    | none =>
      refine br_f (gw_nm (by omega)) (br_t rfl (br_f (by decide) (h0 (fun x => ?_) _ _ _ _)))
      have := x.2.2.mpr hTq
      rw [hTp] at this
      exact absurd this (by simp)
    | some w =>
      obtain ⟨w1, w2, w3⟩ := hO.2.2.2 q _ w hq nn (by rw [cq]; simp) hTq
      have dw := gw_dlt w1
      have ez : gw_g (some z) = nI (32 * (p / 16) + z % 16) := congrArg nI (by unfold gw_d; omega)
      have ew : gw_g (some w) = nI (32 * (q / 16) + w % 16) := congrArg nI (by unfold gw_d; omega)
      refine br_f (gw_nm (by omega)) (br_f (gw_nm (by omega)) (br_t rfl (br_f (gw_nm (by omega)) ?_)))
      rw [ez, ew]
      refine gx_relate (by omega) (by omega) (by omega) (by omega) aR (fun lc rd ll lr hR hpre => h1 _ _ _ _ _ ⟨hR, ?_, ?_, ?_, ?_⟩)
      · intro n hn hm
        by_cases e : n = 16 * (z % 16) + w % 16
        · rw [e, gw_us]
        · rw [gw_un e]; exact aM n hn hm
      · intro a ha
        have hle : gw_cn M0 256 ≤ gw_cn M 256 := gw_cn_m 256 aM
        obtain ⟨x1, x2⟩ := hpre a (by omega)
        obtain ⟨y1, y2⟩ := aP a ha
        exact ⟨x1.trans y1, x2.trans y2⟩
      · intro n hn hm
        by_cases e : n = 16 * (z % 16) + w % 16
        · right
          rw [show 16 * (p / 16) + n / 16 = z by omega, show 16 * (q / 16) + n % 16 = w by omega]
          exact ⟨t, r, i, cp, cq, hi, hit, hTp, hTq⟩
        · rw [gw_un e] at hm; exact aE n hn hm
      · refine keep _ (fun n _ hm => ?_) ⟨hk, hF, ⟨fun x => by rw [hTp] at x; exact absurd x (by simp), fun x => by rw [hTq] at x; exact absurd x (by simp)⟩⟩ (fun z' w' x y => ?_)
        · by_cases e : n = 16 * (z % 16) + w % 16
          · rw [e, gw_us]
          · rw [gw_un e]; exact hm
        · rw [hTp] at x; rw [hTq] at y
          injection x with x
          injection y with y
          rw [← x, ← y, gw_us]
end
end
end
section
/-! alike: the component, its loops -/
section
abbrev gx_J : Type := Int32 → Int32 → Int32 → Int32 → Int32 → (Nat → Int32) → (Nat → Int32) → (Nat → Int32) → (Nat → Int32) → (Nat → Int32) → (Nat → Int32) → (Nat → Int32) → (Nat → Int64) → (Nat → Int32) → (Nat → Int32) → (Nat → Int32) → (Nat → Int32) → (Nat → Int32) → (Nat → Int32) → (Nat → Int32) → (Nat → Int32) → (Nat → Int32) → (Nat → Int32) → Prop
variable {D V K B : Nat → Int32} {P L C S T : Nat → Option Nat} {F : Nat → Int64} {cu : Option Nat}
theorem gx_AI_n {p q t r i : Nat} {M0 M : Nat → Bool} {l0 r0 xrd xll xlr : Nat → Int32} {xlc : Int32} (h : gx_AI P K C T F p q t r M0 l0 r0 i M xlc xrd xll xlr) (hn : ¬ gw_it P K t r i) : gx_AI P K C T F p q t r M0 l0 r0 (i + 1) M xlc xrd xll xlr := by
  obtain ⟨a, b, c, d, e⟩ := h
  refine ⟨a, b, c, d, fun j hj hi => ?_⟩
  by_cases ej : j = i
  · rw [ej] at hi; exact absurd hi hn
  · exact e j (by omega) hi
theorem gx_AI_m {p q t r i k : Nat} {M0 M : Nat → Bool} {l0 r0 xrd xll xlr : Nat → Int32} {xlc : Int32} (h : gx_AI P K C T F p q t r M0 l0 r0 i M xlc xrd xll xlr) (hn : ∀ j, i ≤ j → j < k → ¬ gw_it P K t r j) : gx_AI P K C T F p q t r M0 l0 r0 k M xlc xrd xll xlr := by
  obtain ⟨a, b, c, d, e⟩ := h
  refine ⟨a, b, c, d, fun j hj hi => ?_⟩
  by_cases ej : j < i
  · exact e j ej hi
  · exact absurd hi (hn j (by omega) hj)
theorem gw_nlk {p q t r i : Nat} (cp : C p = some t) (cq : C q = some r) (hi : i < 30) (hit : gw_it P K t r i) (h : ¬ gw_gd P K T F t r p q (i % 10)) : ¬ gw_lk P K C T F p q := fun ⟨t', r', h1, h2, _, h4⟩ => by
  rw [cp] at h1
  rw [cq] at h2
  cases h1
  cases h2
  exact h (h4 i hi hit)
section
variable {xcu xar xrc xlc : Int32} {xde xpt xve xok xlt xty xpi : Nat → Int32} {xnu : Nat → Int64} {xtg xse xso xnf xrn xre xrl xrd xll xlr : Nat → Int32}
theorem gx_ag70 (hC : gw_C D xok P L) (hO : gw_O D P xok C S T F) (hf : gx_f F xnu) (hg : gx_g T xtg) {post : Int32 → SX → Prop} {J : gx_J} {p q t r k e f : Nat} {M0 : Nat → Bool} {l0 r0 : Nat → Int32} (hp : p < 32) (hq : q < 32) (cp : C p = some t) (cq : C q = some r) (hk : k < 3) (he : gw_an P k (some t) = some e) (hfe : f = 6 * (r / 6) + e % 6) (hin : gw_in P r f) (h0 : ¬ gw_lk P xok C T F p q → ∀ xlc xrd xll xlr, post 0 (xcu, xar, xrc, xlc, xde, xpt, xve, xok, xlt, xty, xpi, xnu, xtg, xse, xso, xnf, xrn, xre, xrl, xrd, xll, xlr)) (hJ : ∀ M xlc xrd xll xlr, gx_AI P xok C T F p q t r M0 l0 r0 (10 * (k + 1)) M xlc xrd xll xlr → J (nI (k + 1)) xcu xar xrc xlc xde xpt xve xok xlt xty xpi xnu xtg xse xso xnf xrn xre xrl xrd xll xlr) : ∀ d j M xlc xrd xll xlr, j + d = 10 → gx_AI P xok C T F p q t r M0 l0 r0 (10 * k + j) M xlc xrd xll xlr → wX_agree_70 post J (nI (gw_d p)) (nI (gw_d q)) (nI k) (nI e) (nI f) (d + 1) (nI j) xcu xar xrc xlc xde xpt xve xok xlt xty xpi xnu xtg xse xso xnf xrn xre xrl xrd xll xlr := by
  have hvt := hO.1 p hp
  rw [cp] at hvt
  have hvr := hO.1 q hq
  rw [cq] at hvr
  obtain ⟨e1, e2, e3⟩ := gw_v_in hC hvt ⟨k, hk, he⟩ e rfl
  obtain ⟨f1, f2, f3⟩ := gw_v_in hC hvr hin f rfl
  have dp := gw_dlt hp
  have dq := gw_dlt hq
  have tv := hvt t rfl
  have rv := hvr r rfl
  intro d
  induction d with
  | zero =>
    intro j M xlc xrd xll xlr hj hA
    have : j = 10 := by omega
    subst this
    exact br_t (nI_le (a := 10) (by omega) (by omega)) (nm_r (nI_1 k) (hJ M _ _ _ _ (by rw [show 10 * (k + 1) = 10 * k + 10 by omega]; exact hA)))
  | succ d ih =>
    intro j M xlc xrd xll xlr hj hA
    have b1 := gw_e3 e j
    have b2 := gw_e3 f j
    have i1 : (10 * k + j) / 10 = k := by omega
    have i2 : (10 * k + j) % 10 = j := by omega
    have hit : gw_it P xok t r (10 * k + j) ↔ ¬ xok (10 * e + j) = -1 ∧ ¬ xok (10 * f + j) = -1 := by
      unfold gw_it
      rw [i1, i2, he]
      constructor
      · intro ⟨e', h1, h2, h3, h4⟩
        cases h1
        rw [← hfe] at h4
        exact ⟨h3, h4⟩
      · intro ⟨h3, h4⟩
        refine ⟨e, rfl, ?_, h3, ?_⟩
        · rw [← hfe]; exact hin
        · rw [← hfe]; exact h4
    refine br_f (nI_ge (b := 10) (by omega) (by omega)) (br_f (gw_nm (by omega)) ⟨by rw [b1]; exact vp_in_nI (by omega) (by omega), nm_r (e' := xok (10 * e + j)) (by rw [b1, nI_clamp (by omega)]) ⟨by rw [b2]; exact vp_in_nI (by omega) (by omega), nm_r (e' := xok (10 * f + j)) (by rw [b2, nI_clamp (by omega)]) ?_⟩⟩)
    refine br_c (fun h7 => nm_r (nI_1 j) (ih (j + 1) M _ _ _ _ (by omega) (gx_AI_n hA (fun z => (hit.mp z).1 h7)))) (fun h7 => br_c (fun h8 => nm_r (nI_1 j) (ih (j + 1) M _ _ _ _ (by omega) (gx_AI_n hA (fun z => (hit.mp z).2 h8)))) (fun h8 => ?_))
    have hi := hit.mpr ⟨h7, h8⟩
    have k1 := hC.2.2.2.1 t tv.1 tv.2.2 e j ⟨k, hk, he⟩ (by omega) h7
    have k2 := hC.2.2.2.1 r rv.1 rv.2.2 f j hin (by omega) h8
    have va : (gw_kd P xok t j = 4 ↔ gw_kd P xok r j = 4) → wpX_valuesAgree (fun r_70 u => match u with | (xcu1, xar1, xrc1, xlc1, xde1, xpt1, xve1, xok1, xlt1, xty1, xpi1, xnu1, xtg1, xse1, xso1, xnf1, xrn1, xre1, xrl1, xrd1, xll1, xlr1) => (((r_70 = 0 → (post 0 (xcu1, xar1, xrc1, xlc1, xde1, xpt1, xve1, xok1, xlt1, xty1, xpi1, xnu1, xtg1, xse1, xso1, xnf1, xrn1, xre1, xrl1, xrd1, xll1, xlr1))) ∧ (¬ r_70 = 0 → (∀ x6_94 : Int32, x6_94 = nI j + 1 → (wX_agree_70 post J (nI (gw_d p)) (nI (gw_d q)) (nI k) (nI e) (nI f) (d + 1) x6_94 xcu1 xar1 xrc1 xlc1 xde1 xpt1 xve1 xok1 xlt1 xty1 xpi1 xnu1 xtg1 xse1 xso1 xnf1 xrn1 xre1 xrl1 xrd1 xll1 xlr1)))))) (xcu, xar, xrc, xlc, xde, xpt, xve, xok, xlt, xty, xpi, xnu, xtg, xse, xso, xnf, xrn, xre, xrl, xrd, xll, xlr) ((nI (gw_d p) * 10) + nI j) ((nI (gw_d q) * 10) + nI j) := fun hkk => by
      rw [gw_e3, gw_e3]
      have := gx_va (xcu := xcu) (xar := xar) (xrc := xrc) (xde := xde) (xpt := xpt) (xve := xve) (xok := xok) (xlt := xlt) (xty := xty) (xpi := xpi) (xse := xse) (xso := xso) (xnf := xnf) (xrn := xrn) (xre := xre) (xrl := xrl) (post := fun r_70 u => match u with | (xcu1, xar1, xrc1, xlc1, xde1, xpt1, xve1, xok1, xlt1, xty1, xpi1, xnu1, xtg1, xse1, xso1, xnf1, xrn1, xre1, xrl1, xrd1, xll1, xlr1) => (((r_70 = 0 → (post 0 (xcu1, xar1, xrc1, xlc1, xde1, xpt1, xve1, xok1, xlt1, xty1, xpi1, xnu1, xtg1, xse1, xso1, xnf1, xrn1, xre1, xrl1, xrd1, xll1, xlr1))) ∧ (¬ r_70 = 0 → (∀ x6_94 : Int32, x6_94 = nI j + 1 → (wX_agree_70 post J (nI (gw_d p)) (nI (gw_d q)) (nI k) (nI e) (nI f) (d + 1) x6_94 xcu1 xar1 xrc1 xlc1 xde1 xpt1 xve1 xok1 xlt1 xty1 xpi1 xnu1 xtg1 xse1 xso1 xnf1 xrn1 xre1 xrl1 xrd1 xll1 xlr1)))))) hO hf hg hp hq cp cq (i := 10 * k + j) (by omega) hi (by rw [i2]; exact hkk) hA (fun hn lc rd ll lr => br_t rfl (h0 (gw_nlk cp cq (by omega) hi hn) _ _ _ _)) (fun M' lc rd ll lr hA' => br_f (by decide) (nm_r (nI_1 j) (ih (j + 1) M' _ _ _ _ (by omega) hA')))
      rw [i2] at this
      exact this
    have ng : ¬ (gw_kd P xok t j = 4 ↔ gw_kd P xok r j = 4) → post 0 (xcu, xar, xrc, xlc, xde, xpt, xve, xok, xlt, xty, xpi, xnu, xtg, xse, xso, xnf, xrn, xre, xrl, xrd, xll, xlr) := fun hn => h0 (gw_nlk cp cq (by omega) hi (fun z => hn (by have := z.1; rw [i2] at this; exact this))) _ _ _ _
    refine br_c (fun h74 => ?_) (fun h74 => ?_)
    · refine br_c (fun h84 => br_t rfl (va ?_)) (fun h84 => br_f (by decide) (ng ?_))
      · rw [k1, k2]; exact ⟨fun _ => h84, fun _ => h74⟩
      · rw [k1, k2]; exact fun z => h84 (z.mp h74)
    · refine br_c (fun h84 => br_f (by decide) (ng ?_)) (fun h84 => br_t rfl (va ?_))
      · rw [k1, k2]; exact fun z => h74 (z.mpr h84)
      · rw [k1, k2]; exact ⟨fun z => absurd z h74, fun z => absurd z h84⟩
theorem gx_ag25 (hC : gw_C D xok P L) (hx : gx_C D P L xpt xlt) (hO : gw_O D P xok C S T F) (ht : gx_t C xty) (hf : gx_f F xnu) (hg : gx_g T xtg) {post : Int32 → SX → Prop} {p q t r : Nat} {M0 : Nat → Bool} {l0 r0 : Nat → Int32} (hp : p < 32) (hq : q < 32) (cp : C p = some t) (cq : C q = some r) (h0 : ¬ gw_lk P xok C T F p q → ∀ xlc xrd xll xlr, post 0 (xcu, xar, xrc, xlc, xde, xpt, xve, xok, xlt, xty, xpi, xnu, xtg, xse, xso, xnf, xrn, xre, xrl, xrd, xll, xlr)) (h1 : ∀ M xlc xrd xll xlr, gx_AI P xok C T F p q t r M0 l0 r0 30 M xlc xrd xll xlr → post 1 (xcu, xar, xrc, xlc, xde, xpt, xve, xok, xlt, xty, xpi, xnu, xtg, xse, xso, xnf, xrn, xre, xrl, xrd, xll, xlr)) : ∀ d k M xlc xrd xll xlr, k + d = 3 → gx_AI P xok C T F p q t r M0 l0 r0 (10 * k) M xlc xrd xll xlr → wX_agree_25 post (nI (gw_d p)) (nI (gw_d q)) (d + 1) (nI k) xcu xar xrc xlc xde xpt xve xok xlt xty xpi xnu xtg xse xso xnf xrn xre xrl xrd xll xlr := by
  have hvt := hO.1 p hp
  rw [cp] at hvt
  have hvr := hO.1 q hq
  rw [cq] at hvr
  have dp := gw_dlt hp
  have dq := gw_dlt hq
  have rv := hvr r rfl
  intro d
  induction d with
  | zero =>
    intro k M xlc xrd xll xlr hk hA
    have : k = 3 := by omega
    subst this
    exact br_t (nI_le (a := 3) (by omega) (by omega)) (h1 M _ _ _ _ hA)
  | succ d ih =>
    intro k M xlc xrd xll xlr hk hA
    refine br_f (nI_ge (b := 3) (by omega) (by omega)) ⟨vp_in_nI dp (by omega), ?_⟩
    rw [nI_clamp (by omega), nI_clamp (by omega), ht.1 p hp, ht.1 q hq, cp, cq]
    -- no shared field at this level
    have none70 : ∀ x4, (∀ j, 10 * k ≤ j → j < 10 * (k + 1) → ¬ gw_it P xok t r j) → wX_agree_70 post (wX_agree_25 post (nI (gw_d p)) (nI (gw_d q)) (d + 1)) (nI (gw_d p)) (nI (gw_d q)) (nI k) x4 (-1) 1 0 xcu xar xrc xlc xde xpt xve xok xlt xty xpi xnu xtg xse xso xnf xrn xre xrl xrd xll xlr := fun x4 hn =>
      br_f (by decide) (br_t rfl (nm_r (nI_1 k) (ih (k + 1) M _ _ _ _ (by omega) (gx_AI_m hA hn))))
    refine gx_ancestor hC hx (by omega) hvt ?_
    cases he : gw_an P k (some t) with
    | none =>
      refine br_t rfl ⟨1, none70 _ (fun j j1 j2 hi => ?_)⟩
      obtain ⟨e, h2, _⟩ := hi
      rw [show j / 10 = k by omega, he] at h2
      exact absurd h2 (by simp)
    | some e =>
      have hve := gw_v_an hC k _ hvt
      rw [he] at hve
      have ev := hve e rfl
      refine br_f (gw_nm (by omega)) ⟨vp_in_nI dq (by omega), gx_namesake hC hx (s := q / 16) (by omega) rfl hvr (fun hin => ⟨11, ?_⟩) (fun hin => ⟨1, none70 _ (fun j j1 j2 hi => ?_)⟩)⟩
      · have hfr : 6 * (q / 16) + e % 6 = 6 * (r / 6) + e % 6 := by omega
        exact gx_ag70 hC hO hf hg hp hq cp cq (by omega) he hfr hin h0 (fun M' lc rd ll lr hA' => ih (k + 1) M' _ _ _ _ (by omega) hA') 10 0 M _ _ _ _ (by omega) hA
      · obtain ⟨e', h2, h3, _⟩ := hi
        rw [show j / 10 = k by omega, he] at h2
        cases h2
        rw [show 6 * (r / 6) + e % 6 = 6 * (q / 16) + e % 6 by omega] at h3
        exact hin h3
theorem gx_agree (hC : gw_C D xok P L) (hx : gx_C D P L xpt xlt) (hO : gw_O D P xok C S T F) (ht : gx_t C xty) (hf : gx_f F xnu) (hg : gx_g T xtg) {post : Int32 → SX → Prop} {p q : Nat} {M0 : Nat → Bool} (hp : p < 32) (hq : q < 32) (cp : C p ≠ none) (cq : C q ≠ none) (hR : gx_R2 (p / 16) (q / 16) M0 xlc xrd xll xlr) (h0 : ¬ gw_lk P xok C T F p q → ∀ xlc xrd xll xlr, post 0 (xcu, xar, xrc, xlc, xde, xpt, xve, xok, xlt, xty, xpi, xnu, xtg, xse, xso, xnf, xrn, xre, xrl, xrd, xll, xlr)) (h1 : gw_lk P xok C T F p q → ∀ M xlc' xrd' xll' xlr', gx_R2 (p / 16) (q / 16) M xlc' xrd' xll' xlr' → (∀ n, n < 256 → M0 n = true → M n = true) → (∀ a, a < gw_cn M0 256 → xll' a = xll a ∧ xlr' a = xlr a) → (∀ n, n < 256 → M n = true → M0 n = true ∨ gw_ed P xok C T p q (16 * (p / 16) + n / 16) (16 * (q / 16) + n % 16)) → (∀ z w, gw_ed P xok C T p q z w → M (16 * (z % 16) + w % 16) = true) → post 1 (xcu, xar, xrc, xlc', xde, xpt, xve, xok, xlt, xty, xpi, xnu, xtg, xse, xso, xnf, xrn, xre, xrl, xrd', xll', xlr')) : wpX_agree post (xcu, xar, xrc, xlc, xde, xpt, xve, xok, xlt, xty, xpi, xnu, xtg, xse, xso, xnf, xrn, xre, xrl, xrd, xll, xlr) (nI (gw_d p)) (nI (gw_d q)) := by
  have dp := gw_dlt hp
  have dq := gw_dlt hq
  cases cp' : C p with
  | none => exact absurd cp' cp
  | some t =>
    cases cq' : C q with
    | none => exact absurd cq' cq
    | some r =>
      have hvt := hO.1 p hp t cp'
      have hvr := hO.1 q hq r cq'
      refine ⟨vp_in_nI dp (by omega), gw_6, vp_in_nI dq (by omega), gw_6, ?_⟩
      rw [nI_clamp (by omega), nI_clamp (by omega), ht.1 p hp, ht.1 q hq, cp', cq']
      have q1 : (gw_o (some t) - gw_o (some t) / 6 * 6 = gw_o (some r) - gw_o (some r) / 6 * 6) ↔ t % 6 = r % 6 := by
        show (nI t - nI t / 6 * 6 = nI r - nI r / 6 * 6) ↔ _
        rw [gw_m6 (by omega), gw_m6 (by omega), nI_eq (by omega) (by omega)]
      refine ek_if q1 (fun hm => ⟨4, gx_ag25 hC hx hO ht hf hg hp hq cp' cq' (M0 := M0) (l0 := xll) (r0 := xlr) h0 (fun M lc rd ll lr hA => ?_) 3 0 M0 _ _ _ _ (by omega) ⟨hR, fun _ _ h => h, fun _ _ => ⟨rfl, rfl⟩, fun _ _ h => Or.inl h, fun j hj => by omega⟩⟩) (fun hm => h0 (fun ⟨t', r', a, b, c, _⟩ => ?_) _ _ _ _)
      · obtain ⟨a1, a2, a3, a4, a5⟩ := hA
        refine h1 ⟨t, r, cp', cq', hm, fun i hi hit => (a5 i hi hit).1⟩ M _ _ _ _ a1 a2 a3 a4 (fun z w ⟨t', r', i, b1, b2, b3, b4, b5, b6⟩ => ?_)
        rw [cp'] at b1
        rw [cq'] at b2
        cases b1
        cases b2
        exact (a5 i b3 b4).2 z w b5 b6
      · rw [cp'] at a
        rw [cq'] at b
        cases a
        cases b
        exact hm c
theorem gx_al53 (hC : gw_C D xok P L) (hx : gx_C D P L xpt xlt) (hO : gw_O D P xok C S T F) (ht : gx_t C xty) (hf : gx_f F xnu) (hg : gx_g T xtg) {post : Int32 → SX → Prop} {p q : Nat} (hp : p < 32) (hq : q < 32) (cp : C p ≠ none) (cq : C q ≠ none) (h0 : ¬ gw_Al P xok C T F p q → ∀ xlc xrd xll xlr, post 0 (xcu, xar, xrc, xlc, xde, xpt, xve, xok, xlt, xty, xpi, xnu, xtg, xse, xso, xnf, xrn, xre, xrl, xrd, xll, xlr)) (h1 : gw_Al P xok C T F p q → ∀ xlc xrd xll xlr, post 1 (xcu, xar, xrc, xlc, xde, xpt, xve, xok, xlt, xty, xpi, xnu, xtg, xse, xso, xnf, xrn, xre, xrl, xrd, xll, xlr)) : ∀ d i M xlc xrd xll xlr, i + d = 256 → gx_R2 (p / 16) (q / 16) M xlc xrd xll xlr → M (16 * (p % 16) + q % 16) = true → (∀ n, n < 256 → M n = true → gw_RP P xok C T p q (16 * (p / 16) + n / 16) (16 * (q / 16) + n % 16)) → (∀ a n, a < i → a < gw_cn M 256 → n < 256 → xll a = nI (32 * (p / 16) + n / 16) → xlr a = nI (32 * (q / 16) + n % 16) → gw_lk P xok C T F (16 * (p / 16) + n / 16) (16 * (q / 16) + n % 16) ∧ ∀ z w, gw_ed P xok C T (16 * (p / 16) + n / 16) (16 * (q / 16) + n % 16) z w → M (16 * (z % 16) + w % 16) = true) → wX_alike_53 post (d + 1) (nI i) xcu xar xrc xlc xde xpt xve xok xlt xty xpi xnu xtg xse xso xnf xrn xre xrl xrd xll xlr := by
  -- the end
  have fin : ∀ i M xlc xrd xll xlr, gx_R2 (p / 16) (q / 16) M xlc xrd xll xlr → gw_cn M 256 ≤ i → M (16 * (p % 16) + q % 16) = true → (∀ a n, a < i → a < gw_cn M 256 → n < 256 → xll a = nI (32 * (p / 16) + n / 16) → xlr a = nI (32 * (q / 16) + n % 16) → gw_lk P xok C T F (16 * (p / 16) + n / 16) (16 * (q / 16) + n % 16) ∧ ∀ z w, gw_ed P xok C T (16 * (p / 16) + n / 16) (16 * (q / 16) + n % 16) z w → M (16 * (z % 16) + w % 16) = true) → post 1 (xcu, xar, xrc, xlc, xde, xpt, xve, xok, xlt, xty, xpi, xnu, xtg, xse, xso, xnf, xrn, xre, xrl, xrd, xll, xlr) := fun i M lc rd ll lr hR hc hm ha => by
    refine h1 (fun a b hab => ?_) _ _ _ _
    have key := hab (fun a b => gw_RP P xok C T p q a b ∧ a / 16 = p / 16 ∧ b / 16 = q / 16 ∧ M (16 * (a % 16) + b % 16) = true ) ⟨gw_RP_0, rfl, rfl, hm⟩ (fun a b z w hQ he => ?_)
    · obtain ⟨kr, k1, k2, k3⟩ := key
      obtain ⟨j, j1, j2, j3⟩ := hR.2.2.2 _ (by omega) k3
      have := (ha j _ (by omega) j1 (by omega) j2 j3).1
      rw [show 16 * (p / 16) + (16 * (a % 16) + b % 16) / 16 = a by omega, show 16 * (q / 16) + (16 * (a % 16) + b % 16) % 16 = b by omega] at this
      exact this
    · obtain ⟨kr, k1, k2, k3⟩ := hQ
      obtain ⟨l1, l2, l3, l4, l5, l6⟩ := gw_RP_l hO hp hq cp cq kr
      obtain ⟨m1, m2, m3, m4, m5, m6⟩ := gw_ed_l hO l1 l4 he
      obtain ⟨j, j1, j2, j3⟩ := hR.2.2.2 _ (by omega) k3
      have := (ha j _ (by omega) j1 (by omega) j2 j3).2 z w
      rw [show 16 * (p / 16) + (16 * (a % 16) + b % 16) / 16 = a by omega, show 16 * (q / 16) + (16 * (a % 16) + b % 16) % 16 = b by omega] at this
      exact ⟨gw_RP_s kr he, by omega, by omega, this he⟩
  intro d
  induction d with
  | zero =>
    intro i M xlc xrd xll xlr hi hR hm hrp ha
    have hle := gw_cn_le (p := M) 256
    exact br_t (nI_le (a := 256) (by omega) (by omega)) (fin i M _ _ _ _ hR (by omega) hm ha)
  | succ d ih =>
    intro i M xlc xrd xll xlr hi hR hm hrp ha
    have hle := gw_cn_le (p := M) 256
    refine br_f (nI_ge (b := 256) (by omega) (by omega)) (pk_le (gw_cn M 256) i (fun h => fin i M _ _ _ _ hR h hm ha) (fun h => ⟨vp_in_nI (by omega) (by omega), vp_in_nI (by omega) (by omega), ?_⟩) (hx := hR.1))
    obtain ⟨n, n1, n2, n3, n4⟩ := hR.2.2.1 i h
    have hr := hrp n n1 n2
    obtain ⟨l1, l2, l3, l4, l5, l6⟩ := gw_RP_l hO hp hq cp cq hr
    rw [nI_clamp (by omega), n3, n4, ← gw_d1 (s := p / 16) (n := n / 16) (by omega), ← gw_d1 (s := q / 16) (n := n % 16) (by omega)]
    refine gx_agree hC hx hO ht hf hg l1 l4 l3 l6 (M0 := M) (by rw [l2, l5]; exact hR) (fun hn lc rd ll lr => br_t rfl (h0 (fun z => hn (z _ _ hr)) _ _ _ _)) (fun hl M' lc rd ll lr g1 g2 g3 g4 g5 => br_f (by decide) (nm_r (nI_1 i) (ih (i + 1) M' _ _ _ _ (by omega) (by rw [l2, l5] at g1; exact g1) (g2 _ (by omega) hm) ?_ ?_)))
    · intro m m1 m2
      rcases g4 m m1 m2 with x | x
      · exact hrp m m1 x
      · rw [l2, l5] at x; exact gw_RP_s hr x
    · intro a m a1 a2 m1 x y
      by_cases ea : a = i
      · subst ea
        obtain ⟨y1, y2⟩ := g3 a h
        rw [y1, n3, nI_eq (by omega) (by omega)] at x
        rw [y2, n4, nI_eq (by omega) (by omega)] at y
        have : m = n := by omega
        subst this
        exact ⟨hl, g5⟩
      · obtain ⟨y1, y2⟩ := g3 a (by omega)
        rw [y1] at x
        rw [y2] at y
        obtain ⟨b1, b2⟩ := ha a m (by omega) (by omega) m1 x y
        exact ⟨b1, fun z w he => g2 _ (by omega) (b2 z w he)⟩
theorem gx_al20 {post : Int32 → SX → Prop} {x1 x2 : Int32} : ∀ d j xrd, j + d = 256 → wpX_relate (fun u => match u with | (xcu51, xar51, xrc51, xlc51, xde51, xpt51, xve51, xok51, xlt51, xty51, xpi51, xnu51, xtg51, xse51, xso51, xnf51, xrn51, xre51, xrl51, xrd51, xll51, xlr51) => (∃ n53 : Nat, wX_alike_53 post n53 0 xcu51 xar51 xrc51 xlc51 xde51 xpt51 xve51 xok51 xlt51 xty51 xpi51 xnu51 xtg51 xse51 xso51 xnf51 xrn51 xre51 xrl51 xrd51 xll51 xlr51)) (xcu, xar, xrc, 0, xde, xpt, xve, xok, xlt, xty, xpi, xnu, xtg, xse, xso, xnf, xrn, xre, xrl, gw_fi xrd j 256 0, xll, xlr) x1 x2 → wX_alike_20 post x1 x2 xcu xar xrc xlc (d + 1) (nI j) xde xpt xve xok xlt xty xpi xnu xtg xse xso xnf xrn xre xrl xrd xll xlr := by
  intro d
  induction d with
  | zero =>
    intro j xrd h1 hp
    rw [gw_fi_e (by omega)] at hp
    exact br_t (nI_le (a := 256) (by omega) (by omega)) hp
  | succ d ih =>
    intro j xrd h1 hp
    refine br_f (nI_ge (b := 256) (by omega) (by omega)) ⟨vp_in_nI (by omega) (by omega), nm_r (by rw [nI_clamp (by omega), gw_n0]) (nm_r (nI_1 j) (ih (j + 1) _ (by omega) ?_))⟩
    rw [gw_fi_s (by omega)]
    exact hp
theorem gx_alike (hC : gw_C D xok P L) (hx : gx_C D P L xpt xlt) (hO : gw_O D P xok C S T F) (ht : gx_t C xty) (hf : gx_f F xnu) (hg : gx_g T xtg) {post : Int32 → SX → Prop} {p q : Nat} (hp : p < 32) (hq : q < 32) (cp : C p ≠ none) (cq : C q ≠ none) (h0 : ¬ gw_Al P xok C T F p q → ∀ xlc xrd xll xlr, post 0 (xcu, xar, xrc, xlc, xde, xpt, xve, xok, xlt, xty, xpi, xnu, xtg, xse, xso, xnf, xrn, xre, xrl, xrd, xll, xlr)) (h1 : gw_Al P xok C T F p q → ∀ xlc xrd xll xlr, post 1 (xcu, xar, xrc, xlc, xde, xpt, xve, xok, xlt, xty, xpi, xnu, xtg, xse, xso, xnf, xrn, xre, xrl, xrd, xll, xlr)) : ∃ n20, wX_alike_20 post (nI (gw_d p)) (nI (gw_d q)) xcu xar xrc xlc n20 0 xde xpt xve xok xlt xty xpi xnu xtg xse xso xnf xrn xre xrl xrd xll xlr := by
  refine ⟨257, gx_al20 256 0 xrd (by omega) ?_⟩
  have ep : gw_d p = 32 * (p / 16) + p % 16 := by unfold gw_d; omega
  have eq : gw_d q = 32 * (q / 16) + q % 16 := by unfold gw_d; omega
  rw [ep, eq]
  refine gx_relate (M := fun _ => false) (by omega) (by omega) (by omega) (by omega) ⟨by rw [gw_cn_f]; rfl, fun n hn => gw_fi_i (by omega), fun i hi => by rw [gw_cn_f] at hi; omega, fun n _ h => absurd h Bool.false_ne_true⟩ (fun lc rd ll lr hR _ => ⟨257, gx_al53 hC hx hO ht hf hg hp hq cp cq h0 h1 256 0 _ _ _ _ _ (by omega) hR gw_us (fun n hn hm => ?_) (fun a n ha => by omega)⟩)
  by_cases e : n = 16 * (p % 16) + q % 16
  · rw [show 16 * (p / 16) + n / 16 = p by omega, show 16 * (q / 16) + n % 16 = q by omega]
    exact gw_RP_0
  · rw [gw_un e] at hm; exact absurd hm Bool.false_ne_true
end
end
end
section
/-! alike: the reference -/
section
abbrev gy_J : Type := Int32 → (Nat → Int32) → (Nat → Int32) → (Nat → Int32) → (Nat → Int32) → (Nat → Int32) → (Nat → Int32) → (Nat → Int32) → (Nat → Int32) → (Nat → Int32) → (Nat → Int64) → (Nat → Int32) → (Nat → Int32) → (Nat → Int32) → (Nat → Int32) → Prop
variable {D V K B : Nat → Int32} {P L C S T : Nat → Option Nat} {F : Nat → Int64} {cu : Option Nat}
def gw_g2 (P : Nat → Option Nat) (K : Nat → Int32) (T : Nat → Option Nat) (F : Nat → Int64) (R : Nat → Int32) (t r u v n : Nat) : Prop := gw_gd P K T F t r u v n ∧ ∀ z w, T (10 * u + n) = some z → T (10 * v + n) = some w → bt (R z) w = true
def gw_mb (P : Nat → Option Nat) (K : Nat → Int32) (C T : Nat → Option Nat) (F : Nat → Int64) (R : Nat → Int32) (u v : Nat) : Prop := ∃ t r, C u = some t ∧ C v = some r ∧ t % 6 = r % 6 ∧ ∀ i, i < 30 → gw_it P K t r i → gw_g2 P K T F R t r u v (i % 10)
theorem gw_tne {z : Nat} (hz : z < 100) : ¬ (gw_o none).toInt64 = (gw_o (some z)).toInt64 := fun e => by
  have h := gw_tl0
  rw [e] at h
  exact gw_tln hz h
section
variable {ycu ydp ylm : Int32} {yde yve ypa yow yla ycl ypr ypi yar : Nat → Int32} {yva : Nat → Int64} {yfr yma ydo yro : Nat → Int32}
theorem gy_fits (hO : gw_O D P yow C S T F) (hv : gy_v P yow C T F yva) {post : Int32 → Prop} {u v t r n : Nat} {a b : Int32} (hu : u < 32) (hw : v < 32) (cu' : C u = some t) (cv' : C v = some r) (hn : n < 10) (ha : a = if gw_kd P yow t n = 4 then 1 else 0) (hb : b = if gw_kd P yow r n = 4 then 1 else 0) (h1 : gw_g2 P yow T F yro t r u v n → post 1) (h0 : ¬ gw_g2 P yow T F yro t r u v n → post 0) : wpY_fits post (ycu, ydp, ylm, yde, yve, ypa, yow, yla, ycl, ypr, ypi, yar, yva, yfr, yma, ydo, yro) (nI u) (nI v) (nI n) a b := by
  have e1 := gw_e7 u n
  have e2 := gw_e7 v n
  have f1 := hO.2.2.1 u n t hu hn cu'
  have f2 := hO.2.2.1 v n r hw hn cv'
  refine ⟨by rw [e1]; exact vp_in_nI (by omega) (by omega), nm_r (e' := if gw_kd P yow t n = 4 then (gw_o (T (10 * u + n))).toInt64 else F (10 * u + n)) (by rw [e1, nI_clamp (by omega)]; exact hv u n t hu hn cu') ⟨by rw [e2]; exact vp_in_nI (by omega) (by omega), nm_r (e' := if gw_kd P yow r n = 4 then (gw_o (T (10 * v + n))).toInt64 else F (10 * v + n)) (by rw [e2, nI_clamp (by omega)]; exact hv v n r hw hn cv') ?_⟩⟩
  by_cases k1 : gw_kd P yow t n = 4
  · by_cases k2 : gw_kd P yow r n = 4
    · rw [if_pos k1] at ha ⊢
      rw [if_pos k2] at hb ⊢
      subst ha hb
      have F1 := f1.2 k1
      have F2 := f2.2 k2
      have gk : (gw_kd P yow t n = 4 ↔ gw_kd P yow r n = 4) := ⟨fun _ => k2, fun _ => k1⟩
      refine br_t rfl (br_f (by decide) ?_)
      cases hTu : T (10 * u + n) with
      | none =>
        refine br_t gw_tl0 ?_
        cases hTv : T (10 * v + n) with
        | none => exact br_t rfl (h1 ⟨⟨gk, by rw [F1, F2], by rw [hTu, hTv]⟩, fun z w x => by rw [hTu] at x; exact absurd x (by simp)⟩)
        | some w =>
          have hw2 := (hO.2.2.2 v n w hw hn (by rw [cv']; simp) hTv).1
          refine br_f (gw_tne (by omega)) (h0 (fun z => ?_))
          have := z.1.2.2.mp hTu
          rw [hTv] at this
          exact absurd this (by simp)
      | some z =>
        have hz := (hO.2.2.2 u n z hu hn (by rw [cu']; simp) hTu).1
        refine br_f (gw_tln (by omega)) ?_
        cases hTv : T (10 * v + n) with
        | none =>
          refine br_f (by decide) (br_f (fun x => gw_tne (z := z) (by omega) x.symm) (h0 (fun x => ?_)))
          have := x.1.2.2.mpr hTv
          rw [hTu] at this
          exact absurd this (by simp)
        | some w =>
          have hw2 := (hO.2.2.2 v n w hw hn (by rw [cv']; simp) hTv).1
          have hge : (0 : Int64) ≤ (gw_o (some w)).toInt64 := Int64.not_lt.mp (gw_tln (by omega))
          refine br_t hge ⟨?_, ?_⟩
          · rw [gw_toI (by omega)]; exact vp_in_nI hz (by omega)
          · rw [gw_toI (by omega), gw_toI (by omega), nI_clamp (by omega)]
            refine ek_if (gw_bit1 hw2) (fun hb => h1 ⟨⟨gk, by rw [F1, F2], by rw [hTu, hTv]; simp⟩, fun z' w' x y => ?_⟩) (fun hb => h0 (fun x => hb (x.2 z w hTu hTv)))
            rw [hTu] at x
            rw [hTv] at y
            cases x
            cases y
            exact hb
    · rw [if_pos k1] at ha
      rw [if_neg k2] at hb
      subst ha hb
      exact br_f (by decide) (h0 (fun z => k2 (z.1.1.mp k1)))
  · by_cases k2 : gw_kd P yow r n = 4
    · rw [if_neg k1] at ha
      rw [if_pos k2] at hb
      subst ha hb
      exact br_f (by decide) (h0 (fun z => k1 (z.1.1.mpr k2)))
    · rw [if_neg k1] at ha ⊢
      rw [if_neg k2] at hb ⊢
      subst ha hb
      have T1 := f1.1 k1
      have T2 := f2.1 k2
      refine br_t rfl (br_t rfl (br_c (fun hF => h1 ⟨⟨⟨fun z => absurd z k1, fun z => absurd z k2⟩, hF, by rw [T1, T2]⟩, fun z w x => by rw [T1] at x; exact absurd x (by simp)⟩) (fun hF => h0 (fun z => hF z.1.2.1))))
theorem gy_mb40 (hC : gw_C D yow P L) (hy : gy_C D P L ypa yla) (hO : gw_O D P yow C S T F) (ht : gy_t C ycl) (hv : gy_v P yow C T F yva) {post : Int32 → Prop} {u v t r : Nat} (hu : u < 32) (hw : v < 32) (cu' : C u = some t) (cv' : C v = some r) (hm : t % 6 = r % 6) (h1 : gw_mb P yow C T F yro u v → post 1) (h0 : ¬ gw_mb P yow C T F yro u v → post 0) : ∀ d i, i + d = 30 → (∀ j, j < i → gw_it P yow t r j → gw_g2 P yow T F yro t r u v (j % 10)) → wY_mayBe_40 post (nI u) (nI v) (nI (u / 16)) (nI (v / 16)) ycu ydp ylm yde yve ypa yow yla ycl ypr ypi yar yva yfr yma ydo yro (d + 1) (nI i) := by
  have hvt := hO.1 u hu
  rw [cu'] at hvt
  have hvr := hO.1 v hw
  rw [cv'] at hvr
  have tv := hvt t rfl
  have rv := hvr r rfl
  have et : 6 * (u / 16) + t % 6 = t := by omega
  have er : 6 * (v / 16) + r % 6 = r := by omega
  intro d
  induction d with
  | zero =>
    intro i hi ha
    have : i = 30 := by omega
    subst this
    exact br_t (nI_le (a := 30) (by omega) (by omega)) (h1 ⟨t, r, cu', cv', hm, ha⟩)
  | succ d ih =>
    intro i hi ha
    have nx : (gw_it P yow t r i → gw_g2 P yow T F yro t r u v (i % 10)) → wY_mayBe_40 post (nI u) (nI v) (nI (u / 16)) (nI (v / 16)) ycu ydp ylm yde yve ypa yow yla ycl ypr ypi yar yva yfr yma ydo yro (d + 1) (nI (i + 1)) := fun hg => ih (i + 1) (by omega) (fun j hj hit => by
      by_cases e : j = i
      · rw [e] at hit ⊢; exact hg hit
      · exact ha j (by omega) hit)
    have no : ¬ gw_it P yow t r i → ∀ x6 x7, wY_mayBe_118 post (wY_mayBe_40 post (nI u) (nI v) (nI (u / 16)) (nI (v / 16)) ycu ydp ylm yde yve ypa yow yla ycl ypr ypi yar yva yfr yma ydo yro (d + 1)) (nI u) (nI v) (nI (u / 16)) (nI (v / 16)) (nI i) x6 x7 ycu ydp ylm yde yve ypa yow yla ycl ypr ypi yar yva yfr yma ydo yro := fun hn x6 x7 => by
      unfold wY_mayBe_118
      exact br_t rfl (nm_r (nI_1 i) (nx (fun z => absurd z hn)))
    refine br_f (nI_ge (b := 30) (by omega) (by omega)) ⟨vp_in_nI hu (by omega), gw_10, ?_⟩
    rw [nI_clamp (by omega), nI_clamp (by omega), ht u hu, ht v hw, cu', cv', gw_q10 (by omega)]
    refine gy_chain hC hy (by omega) (by omega) (by rw [et]; exact hvt) ?_
    rw [et]
    have e10 : nI i - nI (i / 10) * 10 = nI (i % 10) := by rw [← gw_q10 (show i < 2 ^ 31 by omega)]; exact gw_m10 (by omega)
    refine ⟨gw_10, nm_r e10 ?_⟩
    refine ⟨vp_in_nI hw (by omega), ?_⟩
    cases he : gw_an P (i / 10) (some t) with
    | none =>
      refine gy_inNone (br_t rfl (no (fun z => ?_) _ _))
      obtain ⟨e, h2, _⟩ := z
      rw [he] at h2
      exact absurd h2 (by simp)
    | some e =>
      have hve := gw_v_an hC (i / 10) _ hvt
      rw [he] at hve
      have ev := hve e rfl
      have ee : 6 * (u / 16) + e % 6 = e := by omega
      have ef : 6 * (v / 16) + e % 6 = 6 * (r / 6) + e % 6 := by omega
      refine gy_inChain hC hy (by omega) (by omega) (e := e) (by omega) rfl (by rw [er]; exact hvr) (fun hin => br_f (by decide) ?_) (fun hin => br_t rfl (no (fun z => ?_) _ _))
      · rw [er] at hin
        have fv := gw_v_in hC hvr hin _ rfl
        refine gy_own (by omega) (by omega) (by omega) ?_
        rw [ee]
        by_cases h7 : yow (10 * e + i % 10) = -1
        · refine br_t (by rw [h7]; decide) (no (fun z => ?_) _ _)
          obtain ⟨e', h2, h3, h4, h5⟩ := z
          rw [he] at h2
          cases h2
          exact h4 h7
        · obtain ⟨m7, g7, e7⟩ := hC.2.1 _ (by omega) h7
          refine br_f (by rw [e7]; exact gw_p0 (by omega)) (gy_own (by omega) (by omega) (by omega) ?_)
          by_cases h8 : yow (10 * (6 * (v / 16) + e % 6) + i % 10) = -1
          · refine br_t (by rw [h8]; decide) (no (fun z => ?_) _ _)
            obtain ⟨e', h2, h3, h4, h5⟩ := z
            rw [he] at h2
            cases h2
            rw [← ef] at h5
            exact h5 h8
          · obtain ⟨m8, g8, e8⟩ := hC.2.1 _ (by omega) h8
            have hit : gw_it P yow t r i := ⟨e, he, by rw [← ef]; exact hin, h7, by rw [← ef]; exact h8⟩
            have k1 := hC.2.2.2.1 t tv.1 tv.2.2 e (i % 10) ⟨i / 10, by omega, he⟩ (by omega) h7
            have k2 := hC.2.2.2.1 r rv.1 rv.2.2 _ (i % 10) hin (by omega) h8
            have fits : ∀ a b : Int32, a = (if gw_kd P yow t (i % 10) = 4 then 1 else 0) → b = (if gw_kd P yow r (i % 10) = 4 then 1 else 0) → wpY_fits (fun r_93 => (((r_93 = 0 → (post 0)) ∧ (¬ r_93 = 0 → (∀ x5_112 : Int32, x5_112 = nI i + 1 → (wY_mayBe_40 post (nI u) (nI v) (nI (u / 16)) (nI (v / 16)) ycu ydp ylm yde yve ypa yow yla ycl ypr ypi yar yva yfr yma ydo yro (d + 1) x5_112)))))) (ycu, ydp, ylm, yde, yve, ypa, yow, yla, ycl, ypr, ypi, yar, yva, yfr, yma, ydo, yro) (nI u) (nI v) (nI (i % 10)) a b := fun a b ha' hb' =>
              gy_fits hO hv hu hw cu' cv' (by omega) ha' hb' (fun hg => br_f (by decide) (nm_r (nI_1 i) (nx (fun _ => hg)))) (fun hg => br_t rfl (h0 (fun z => by
                obtain ⟨t', r', c1, c2, _, c4⟩ := z
                rw [cu'] at c1
                rw [cv'] at c2
                cases c1
                cases c2
                exact hg (c4 i (by omega) hit))))
            refine br_f (by rw [e8]; exact gw_p0 (by omega)) (br_f (by decide) (gy_own (by omega) (by omega) (by omega) ?_))
            rw [ee, ← k1]
            refine br_c (fun h74 => gy_own (by omega) (by omega) (by omega) ?_) (fun h74 => gy_own (by omega) (by omega) (by omega) ?_)
            · rw [← k2]
              refine br_c (fun h84 => fits 1 1 ?_ ?_) (fun h84 => fits 1 0 ?_ ?_)
              · rw [if_pos h74]
              · rw [if_pos h84]
              · rw [if_pos h74]
              · rw [if_neg h84]
            · rw [← k2]
              refine br_c (fun h84 => fits 0 1 ?_ ?_) (fun h84 => fits 0 0 ?_ ?_)
              · rw [if_neg h74]
              · rw [if_pos h84]
              · rw [if_neg h74]
              · rw [if_neg h84]
      · obtain ⟨e', h2, h3, _⟩ := z
        rw [he] at h2
        cases h2
        rw [er] at hin
        rw [← ef] at h3
        exact hin h3
theorem gy_mayBe (hC : gw_C D yow P L) (hy : gy_C D P L ypa yla) (hO : gw_O D P yow C S T F) (ht : gy_t C ycl) (hv : gy_v P yow C T F yva) {post : Int32 → Prop} {u v : Nat} (hu : u < 32) (hw : v < 32) (h1 : gw_mb P yow C T F yro u v → post 1) (h0 : ¬ gw_mb P yow C T F yro u v → post 0) : wpY_mayBe post (ycu, ydp, ylm, yde, yve, ypa, yow, yla, ycl, ypr, ypi, yar, yva, yfr, yma, ydo, yro) (nI u) (nI v) := by
  refine ⟨vp_in_nI hu (by omega), ?_⟩
  rw [nI_clamp (by omega), nI_clamp (by omega), ht u hu, ht v hw]
  cases cu' : C u with
  | none => exact br_t (by decide) (h0 (fun ⟨t, r, a, _⟩ => by rw [cu'] at a; exact absurd a (by simp)))
  | some t =>
    refine br_f (gw_p0 (by omega)) ⟨vp_in_nI hu (by omega), vp_in_nI hw (by omega), ?_⟩
    cases cv' : C v with
    | none => exact br_f (fun z => gw_nm (n := t % 6) (by omega) z) (h0 (fun ⟨t, r, _, b, _⟩ => by rw [cv'] at b; exact absurd b (by simp)))
    | some r =>
      have q1 : (gw_c (some t) = gw_c (some r)) ↔ t % 6 = r % 6 := by
        show (nI (t % 6) = nI (r % 6)) ↔ _
        rw [nI_eq (by omega) (by omega)]
      refine ek_if q1 (fun hm => ⟨gw_16, nm_r (gw_q16 (by omega)) ⟨gw_16, nm_r (gw_q16 (by omega)) ⟨31, gy_mb40 hC hy hO ht hv hu hw cu' cv' hm h1 h0 30 0 (by omega) (fun j hj => by omega)⟩⟩⟩) (fun hm => h0 (fun ⟨t', r', a, b, c, _⟩ => ?_))
      rw [cu'] at a
      rw [cv'] at b
      cases a
      cases b
      exact hm c
end
/-- the pairs that stand -/
def gw_bp (R : Nat → Int32) (w : Nat) : Bool := bt (R (w / 32)) (w % 32)
/-- a set of pairs that holds itself up -/
def gw_H (P : Nat → Option Nat) (K : Nat → Int32) (C T : Nat → Option Nat) (F : Nat → Int64) (H : Nat → Nat → Prop) : Prop := ∀ u v, H u v → u < 32 ∧ v < 32 ∧ gw_lk P K C T F u v ∧ ∀ z w, gw_ed P K C T u v z w → H z w
theorem gw_H_mb {H : Nat → Nat → Prop} (hH : gw_H P K C T F H) {R : Nat → Int32} (hs : ∀ u v, H u v → bt (R u) v = true) {u v : Nat} (h : H u v) : gw_mb P K C T F R u v := by
  obtain ⟨_, _, ⟨t, r, a, b, c, d⟩, e⟩ := hH u v h
  exact ⟨t, r, a, b, c, fun i hi hit => ⟨d i hi hit, fun z w x y => hs z w (e z w ⟨t, r, i, a, b, hi, hit, x, y⟩)⟩⟩
section
variable {ycu ydp ylm : Int32} {yde yve ypa yow yla ycl ypr ypi yar : Nat → Int32} {yva : Nat → Int64} {yfr yma ydo yro : Nat → Int32}
theorem gy_al62 (hC : gw_C D yow P L) (hy : gy_C D P L ypa yla) (hO : gw_O D P yow C S T F) (ht : gy_t C ycl) (hv : gy_v P yow C T F yva) {post : Int32 → SY → Prop} {J : gy_J} {x3 x4 : Int32} {H : Nat → Nat → Prop} (hH : gw_H P yow C T F H) {R0 : Nat → Int32} (j0 : (∀ w, w < 1024 → gw_bp R0 w = true → gw_mb P yow C T F R0 (w / 32) (w % 32)) → (∀ u v, H u v → bt (R0 u) v = true) → J 0 yde yve ypa yow yla ycl ypr ypi yar yva yfr yma ydo R0) (j1 : ∀ R, gw_cn (gw_bp R) 1024 < gw_cn (gw_bp R0) 1024 → (∀ u v, H u v → bt (R u) v = true) → J 1 yde yve ypa yow yla ycl ypr ypi yar yva yfr yma ydo R) : ∀ d w f R, w + d = 1024 → (∀ u v, H u v → bt (R u) v = true) → ((f = 0 ∧ R = R0 ∧ ∀ x, x < w → gw_bp R0 x = true → gw_mb P yow C T F R0 (x / 32) (x % 32)) ∨ (f = 1 ∧ gw_cn (gw_bp R) 1024 < gw_cn (gw_bp R0) 1024)) → wY_alike_62 post J x3 x4 ycu ydp ylm (d + 1) f (nI w) yde yve ypa yow yla ycl ypr ypi yar yva yfr yma ydo R := by
  intro d
  induction d with
  | zero =>
    intro w f R hw hs hf
    have : w = 1024 := by omega
    subst this
    refine br_t (nI_le (a := 1024) (by omega) (by omega)) ?_
    rcases hf with ⟨h1, h2, h3⟩ | ⟨h1, h2⟩
    · subst h1 h2; exact j0 h3 hs
    · subst h1; exact j1 R h2 hs
  | succ d ih =>
    intro w f R hw hs hf
    have hi : vp_in (nI (w / 32)) 32 := vp_in_nI (by omega) (by omega)
    have e1 : (nI (w / 32)).toNatClampNeg = w / 32 := nI_clamp (by omega)
    refine br_f (nI_ge (b := 1024) (by omega) (by omega)) ⟨gw_32, nm_r (gw_q32 (by omega)) ⟨gw_32, nm_r (gw_m32 (by omega)) ⟨hi, ?_⟩⟩⟩
    rw [e1]
    refine ek_if (gw_bit1 (by omega)) (fun hb => ?_) (fun hb => nm_r (nI_1 w) (ih (w + 1) f R (by omega) hs ?_))
    · refine gy_mayBe hC hy hO ht hv (by omega) (by omega) (fun hm => br_f (by decide) (nm_r (nI_1 w) (ih (w + 1) f R (by omega) hs ?_))) (fun hm => br_t rfl ⟨hi, hi, nm_e (nm_r (nI_1 w) (ih (w + 1) 1 _ (by omega) ?_ (Or.inr ⟨rfl, ?_⟩)))⟩)
      · rcases hf with ⟨h1, h2, h3⟩ | h
        · subst h2
          refine Or.inl ⟨h1, rfl, fun x hx hbx => ?_⟩
          by_cases e : x = w
          · rw [e]; exact hm
          · exact h3 x (by omega) hbx
        · exact Or.inr h
      · intro u v h
        by_cases eu : u = w / 32
        · rw [eu, pk_us, gw_bcl (by omega) (hH u v h).2.1]
          refine ⟨by rw [← eu]; exact hs u v h, fun ev => hm ?_⟩
          rw [eu, ev] at h
          exact gw_H_mb hH hs h
        · rw [pk_un eu]; exact hs u v h
      · have hlt : gw_cn (gw_bp (upd R (w / 32) (R (w / 32) &&& ((1 : Int32) <<< (nI (w % 32) &&& 31) ^^^ -1)))) 1024 < gw_cn (gw_bp R) 1024 := by
          refine gw_cn_s (m := w) ?_ hb 1024 (by omega) (fun n hn h => ?_)
          · unfold gw_bp
            rw [pk_us, gw_bcl (by omega) (by omega)]
            exact fun z => z.2 rfl
          · unfold gw_bp at h ⊢
            by_cases en : n / 32 = w / 32
            · rw [en, pk_us, gw_bcl (by omega) (by omega)] at h
              rw [en]; exact h.1
            · rw [pk_un en] at h; exact h
        rcases hf with ⟨h1, h2, h3⟩ | ⟨h1, h2⟩
        · subst h2; exact hlt
        · exact Nat.lt_trans hlt h2
    · rcases hf with ⟨h1, h2, h3⟩ | h
      · subst h2
        refine Or.inl ⟨h1, rfl, fun x hx hbx => ?_⟩
        by_cases e : x = w
        · rw [e] at hbx; exact absurd hbx hb
        · exact h3 x (by omega) hbx
      · exact Or.inr h
theorem gy_al51 (hC : gw_C D yow P L) (hy : gy_C D P L ypa yla) (hO : gw_O D P yow C S T F) (ht : gy_t C ycl) (hv : gy_v P yow C T F yva) {post : Int32 → SY → Prop} {p q : Nat} (hp : p < 32) (hq : q < 32) {H : Nat → Nat → Prop} (hH : gw_H P yow C T F H) (fin : ∀ R, (∀ w, w < 1024 → gw_bp R w = true → gw_mb P yow C T F R (w / 32) (w % 32)) → (∀ u v, H u v → bt (R u) v = true) → (bt (R p) q = true → post 1 (ycu, ydp, ylm, yde, yve, ypa, yow, yla, ycl, ypr, ypi, yar, yva, yfr, yma, ydo, R)) ∧ (¬ bt (R p) q = true → post 0 (ycu, ydp, ylm, yde, yve, ypa, yow, yla, ycl, ypr, ypi, yar, yva, yfr, yma, ydo, R))) : ∀ m R, gw_cn (gw_bp R) 1024 < m → (∀ u v, H u v → bt (R u) v = true) → wY_alike_51 post (nI p) (nI q) ycu ydp ylm (m + 1) 1 yde yve ypa yow yla ycl ypr ypi yar yva yfr yma ydo R := by
  intro m
  induction m with
  | zero => intro R h; omega
  | succ m ih =>
    intro R hm hs
    refine br_f (by decide) ⟨1025, gy_al62 hC hy hO ht hv hH (R0 := R) (fun hcl hs0 => br_t rfl ⟨vp_in_nI hp (by omega), ?_⟩) (fun R' hlt hs' => ih R' (by omega) hs') 1024 0 0 R (by omega) hs (Or.inl ⟨rfl, rfl, fun x hx => by omega⟩)⟩
    rw [nI_clamp (by omega)]
    obtain ⟨f1, f0⟩ := fin R hcl hs0
    exact ek_if (gw_bit1 hq) f1 f0
theorem gy_al27 {post : Int32 → SY → Prop} {x3 x4 : Int32} : ∀ d j yro, j + d = 32 → (∃ n51, wY_alike_51 post x3 x4 ycu ydp ylm n51 1 yde yve ypa yow yla ycl ypr ypi yar yva yfr yma ydo (gw_fi yro j 32 (-1))) → wY_alike_27 post x3 x4 ycu ydp ylm (d + 1) (nI j) yde yve ypa yow yla ycl ypr ypi yar yva yfr yma ydo yro := by
  intro d
  induction d with
  | zero =>
    intro j yro h1 hp
    rw [gw_fi_e (by omega)] at hp
    exact br_t (nI_le (a := 32) (by omega) (by omega)) hp
  | succ d ih =>
    intro j yro h1 hp
    refine br_f (nI_ge (b := 32) (by omega) (by omega)) ⟨vp_in_nI (by omega) (by omega), nm_r (by rw [nI_clamp (by omega)]) (nm_r (nI_1 j) (ih (j + 1) _ (by omega) ?_))⟩
    rw [gw_fi_s (by omega)]
    exact hp
theorem gy_alike (hC : gw_C D yow P L) (hy : gy_C D P L ypa yla) (hO : gw_O D P yow C S T F) (ht : gy_t C ycl) (hv : gy_v P yow C T F yva) {post : Int32 → SY → Prop} {p q : Nat} (hp : p < 32) (hq : q < 32) (cp : C p ≠ none) (cq : C q ≠ none) (h1 : gw_Al P yow C T F p q → ∀ yro, post 1 (ycu, ydp, ylm, yde, yve, ypa, yow, yla, ycl, ypr, ypi, yar, yva, yfr, yma, ydo, yro)) (h0 : ¬ gw_Al P yow C T F p q → ∀ yro, post 0 (ycu, ydp, ylm, yde, yve, ypa, yow, yla, ycl, ypr, ypi, yar, yva, yfr, yma, ydo, yro)) : ∃ n27, wY_alike_27 post (nI p) (nI q) ycu ydp ylm n27 0 yde yve ypa yow yla ycl ypr ypi yar yva yfr yma ydo yro := by
  have all : ∀ u v, u < 32 → v < 32 → bt (gw_fi yro 0 32 (-1) u) v = true := fun u v hu hv => by rw [gw_fi_i (by omega)]; exact b_m1 v hv
  have cle := gw_cn_le (p := gw_bp (gw_fi yro 0 32 (-1))) 1024
  by_cases hA : gw_Al P yow C T F p q
  · have hH : gw_H P yow C T F (fun u v => gw_RP P yow C T p q u v) := fun u v h => by
      obtain ⟨a, _, _, b, _, _⟩ := gw_RP_l hO hp hq cp cq h
      exact ⟨a, b, hA u v h, fun z w he => gw_RP_s h he⟩
    refine ⟨33, gy_al27 32 0 yro (by omega) ⟨1026, gy_al51 hC hy hO ht hv hp hq hH (fun R hcl hs => ⟨fun _ => h1 hA R, fun z => absurd (hs p q gw_RP_0) z⟩) 1025 _ (by omega) (fun u v h => ?_)⟩⟩
    obtain ⟨a, b, _⟩ := hH u v h
    exact all u v a b
  · have hH : gw_H P yow C T F (fun _ _ => False) := fun u v h => h.elim
    refine ⟨33, gy_al27 32 0 yro (by omega) ⟨1026, gy_al51 hC hy hO ht hv hp hq hH (fun R hcl _ => ⟨fun hb => absurd ?_ hA, fun _ => h0 hA R⟩) 1025 _ (by omega) (fun u v h => h.elim)⟩⟩
    have mbs : ∀ u v, u < 32 → v < 32 → bt (R u) v = true → gw_mb P yow C T F R u v := fun u v hu hv hb => by
      have e1 : (32 * u + v) / 32 = u := by omega
      have e2 : (32 * u + v) % 32 = v := by omega
      have := hcl (32 * u + v) (by omega) (by unfold gw_bp; rw [e1, e2]; exact hb)
      rw [e1, e2] at this
      exact this
    intro u v huv
    have key := huv (fun u v => u < 32 ∧ v < 32 ∧ bt (R u) v = true) ⟨hp, hq, hb⟩ (fun a b z w hQ he => ?_)
    · obtain ⟨t, r, a, b, c, d⟩ := mbs u v key.1 key.2.1 key.2.2
      exact ⟨t, r, a, b, c, fun i hi hit => (d i hi hit).1⟩
    · obtain ⟨m1, m2, m3, m4, m5, m6⟩ := gw_ed_l hO hQ.1 hQ.2.1 he
      obtain ⟨t, r, i, c1, c2, c3, c4, c5, c6⟩ := he
      obtain ⟨t', r', a', b', _, d'⟩ := mbs a b hQ.1 hQ.2.1 hQ.2.2
      rw [c1] at a'
      rw [c2] at b'
      cases a'
      cases b'
      exact ⟨m1, m4, (d' i c3 c4).2 z w c5 c6⟩
end
theorem i_vc_alike {k : Nat} {u : SX} {v : SY} (I : i_Rel k u v) (hk : k + 5 ≤ 2560) (v1 : Int32) (v2 : Int32) : wpX_alike (fun r u' => wpY_alike (fun r' v' => r' = r ∧ i_Rel (k + 5) u' v') v v1 v2) u v1 v2 := by
  have I' := I
  obtain ⟨xcu, xar, xrc, xlc, xde, xpt, xve, xok, xlt, xty, xpi, xnu, xtg, xse, xso, xnf, xrn, xre, xrl, xrd, xll, xlr⟩ := u
  obtain ⟨ycu, ydp, ylm, yde, yve, ypa, yow, yla, ycl, ypr, ypi, yar, yva, yfr, yma, ydo, yro⟩ := v
  obtain ⟨D, V, K, P, L, C, S, T, B, F, cu, hC, hO, hX, hY⟩ := I
  obtain ⟨rfl, rfl, rfl, hxc, hxt, hxb, hxf, hxg, hxs, hxu⟩ := hX
  obtain ⟨rfl, rfl, rfl, hyc, hyt, hyb, hyv, hys, hyu⟩ := hY
  have fin : ∀ xlc xrd xll xlr yro, i_Rel (k + 5) (xcu, xar, xrc, xlc, yde, xpt, yve, yow, xlt, xty, xpi, xnu, xtg, xse, xso, xnf, xrn, xre, xrl, xrd, xll, xlr) (ycu, ydp, ylm, yde, yve, ypa, yow, yla, ycl, ypr, ypi, yar, yva, yfr, yma, ydo, yro) := fun _ _ _ _ _ => ⟨yde, yve, yow, P, L, C, S, T, B, F, cu, hC, hO, ⟨rfl, rfl, rfl, hxc, hxt, hxb, hxf, hxg, hxs, hxu⟩, ⟨rfl, rfl, rfl, hyc, hyt, hyb, hyv, hys, hyu⟩⟩
  unfold wpX_alike wpY_alike; dsimp only
  rcases gw_obj C v1 with ⟨p, t, hp, cp, rfl⟩ | hn1
  · have tv := hO.1 p hp t cp
    refine gx_obj1 hxt hp cp tv.1 (br_f (by decide) ?_)
    rcases gw_obj C v2 with ⟨q, r, hq, cq, rfl⟩ | hn2
    · have rv := hO.1 q hq r cq
      have cp' : C p ≠ none := by rw [cp]; simp
      have cq' : C q ≠ none := by rw [cq]; simp
      refine gx_obj1 hxt hq cq rv.1 (br_f (by decide) (gx_alike hC hxc hO hxt hxf hxg hp hq cp' cq' (fun hA lc rd ll lr => ?_) (fun hA lc rd ll lr => ?_)))
      · exact gy_obj1 hyt hp cp (gy_obj1 hyt hq cq (br_f (gw_p0 (by omega)) (br_t (nI_pos' (by omega)) (gy_alike hC hyc hO hyt hyv hp hq cp' cq' (fun z => absurd z hA) (fun _ ro => ⟨rfl, fin _ _ _ _ _⟩)))))
      · exact gy_obj1 hyt hp cp (gy_obj1 hyt hq cq (br_f (gw_p0 (by omega)) (br_t (nI_pos' (by omega)) (gy_alike hC hyc hO hyt hyv hp hq cp' cq' (fun _ ro => ⟨rfl, fin _ _ _ _ _⟩) (fun z => absurd hA z)))))
    · exact gx_obj0 hxt hn2 (br_t rfl (gy_obj1 hyt hp cp (gy_obj0 hyt hn2 (br_f (gw_p0 (by omega)) (br_f (by decide) ⟨rfl, I'⟩)))))
  · refine gx_obj0 hxt hn1 (br_t rfl (gy_obj0 hyt hn1 ?_))
    rcases gw_obj C v2 with ⟨q, r, hq, cq, rfl⟩ | hn2
    · exact gy_obj1 hyt hq cq (br_t (by decide) ⟨rfl, I'⟩)
    · exact gy_obj0 hyt hn2 (br_t (by decide) ⟨rfl, I'⟩)
end
end
section
/-! send: whether two classes fit -/
section
def gw_ok (K : Nat → Int32) (e f n : Nat) : Prop := ¬ K (10 * e + n) = -1 → ¬ K (10 * f + n) = -1 → K (10 * e + n) = K (10 * f + n)
def gw_sk (K : Nat → Int32) (c : Nat) : Prop := ∀ n, n < 10 → gw_ok K c (6 + c) n
theorem gw_sk_x {K : Nat → Int32} {s e f : Nat} (hs : s < 2) (he : e / 6 = s) (hf : f = 6 * (1 - s) + e % 6) : (∀ n, n < 10 → gw_ok K e f n) ↔ gw_sk K (e % 6) := by
  by_cases h : s = 0
  · have e1 : e % 6 = e := by omega
    have e2 : 6 + e % 6 = f := by omega
    unfold gw_sk
    rw [e2, e1]
  · have e1 : e % 6 = f := by omega
    have e2 : 6 + e % 6 = e := by omega
    unfold gw_sk
    rw [e2, e1]
    exact ⟨fun h n hn a b => (h n hn b a).symm, fun h n hn a b => (h n hn b a).symm⟩
/-- what parts the classes at level k of t's chain -/
noncomputable def gw_lv (P : Nat → Option Nat) (V K : Nat → Int32) (t r k : Nat) : Int32 := match gw_an P k (some t) with
  | none => 0
  | some e => @ite _ (gw_in P r (6 * (r / 6) + e % 6)) (Classical.propDecidable _) (if V e = V (6 * (r / 6) + e % 6) then @ite _ (gw_sk K (e % 6)) (Classical.propDecidable _) 0 (-4) else -3) 0
noncomputable def gw_mf (D : Nat → Int32) (P : Nat → Option Nat) (V K : Nat → Int32) (t r : Nat) : Int32 :=
  if D r = 0 then -2 else if gw_lv P V K t r 2 = 0 then (if gw_lv P V K t r 1 = 0 then gw_lv P V K t r 0 else gw_lv P V K t r 1) else gw_lv P V K t r 2
variable {D V K B : Nat → Int32} {P L C S T : Nat → Option Nat} {F : Nat → Int64} {cu : Option Nat}
theorem gw_lv_n {t r k : Nat} (h : gw_an P k (some t) = none) : gw_lv P V K t r k = 0 := by unfold gw_lv; rw [h]
theorem gw_lv_o {t r k e : Nat} (h : gw_an P k (some t) = some e) (hn : ¬ gw_in P r (6 * (r / 6) + e % 6)) : gw_lv P V K t r k = 0 := by unfold gw_lv; rw [h]; exact if_neg hn
theorem gw_lv_v {t r k e : Nat} (h : gw_an P k (some t) = some e) (hn : gw_in P r (6 * (r / 6) + e % 6)) (hv : ¬ V e = V (6 * (r / 6) + e % 6)) : gw_lv P V K t r k = -3 := by unfold gw_lv; rw [h]; dsimp only; rw [if_pos hn, if_neg hv]
theorem gw_lv_k {t r k e : Nat} (h : gw_an P k (some t) = some e) (hn : gw_in P r (6 * (r / 6) + e % 6)) (hv : V e = V (6 * (r / 6) + e % 6)) (hk : ¬ gw_sk K (e % 6)) : gw_lv P V K t r k = -4 := by unfold gw_lv; rw [h]; dsimp only; rw [if_pos hn, if_pos hv, if_neg hk]
theorem gw_lv_0 {t r k e : Nat} (h : gw_an P k (some t) = some e) (hn : gw_in P r (6 * (r / 6) + e % 6)) (hv : V e = V (6 * (r / 6) + e % 6)) (hk : gw_sk K (e % 6)) : gw_lv P V K t r k = 0 := by unfold gw_lv; rw [h]; dsimp only; rw [if_pos hn, if_pos hv, if_pos hk]
theorem gw_mf_0 {t r : Nat} (h : gw_mf D P V K t r = 0) : D r ≠ 0 ∧ ∀ k, k < 3 → gw_lv P V K t r k = 0 := by
  unfold gw_mf at h
  by_cases h0 : D r = 0
  · rw [if_pos h0] at h; exact absurd h (by decide)
  · rw [if_neg h0] at h
    by_cases h2 : gw_lv P V K t r 2 = 0
    · rw [if_pos h2] at h
      by_cases h1 : gw_lv P V K t r 1 = 0
      · rw [if_pos h1] at h
        refine ⟨h0, fun k hk => ?_⟩
        have : k = 0 ∨ k = 1 ∨ k = 2 := by omega
        rcases this with e | e | e
        · rw [e]; exact h
        · rw [e]; exact h1
        · rw [e]; exact h2
      · rw [if_neg h1] at h; exact absurd h h1
    · rw [if_neg h2] at h; exact absurd h h2
/-- of classes that fit, shared fields have one kind -/
theorem gw_fit {s t r k e n : Nat} (hC : gw_C D K P L) (hs : s < 2) (hv : gw_v D s (some t)) (hr : r = 6 * (1 - s) + t % 6) (h : gw_mf D P V K t r = 0) (hk : k < 3) (he : gw_an P k (some t) = some e) (hin : gw_in P r (6 * (r / 6) + e % 6)) (hn : n < 10) (h1 : ¬ K (10 * e + n) = -1) (h2 : ¬ K (10 * (6 * (r / 6) + e % 6) + n) = -1) : K (10 * e + n) = K (10 * (6 * (r / 6) + e % 6) + n) := by
  have hl := (gw_mf_0 h).2 k hk
  have ev := gw_v_an hC k _ hv e he
  have er : r / 6 = 1 - s := by have := (hv t rfl).1; omega
  by_cases hV : V e = V (6 * (r / 6) + e % 6)
  · by_cases hK : gw_sk K (e % 6)
    · have := (gw_sk_x (K := K) (s := s) (e := e) (f := 6 * (r / 6) + e % 6) hs ev.2.1 (by rw [er])).mpr hK n hn
      exact this h1 h2
    · rw [gw_lv_k he hin hV hK] at hl; exact absurd hl (by decide)
  · rw [gw_lv_v he hin hV] at hl; exact absurd hl (by decide)
section
variable {xcu xar xrc xlc : Int32} {xde xpt xve xok xlt xty xpi : Nat → Int32} {xnu : Nat → Int64} {xtg xse xso xnf xrn xre xrl xrd xll xlr : Nat → Int32}
theorem gx_cm20 {post : Int32 → Prop} {e f : Nat} (he : e < 12) (hf : f < 12) (h0 : (∀ n, n < 10 → gw_ok xok e f n) → post 0) (h4 : ¬ (∀ n, n < 10 → gw_ok xok e f n) → post (-4)) : ∀ d j, j + d = 10 → (∀ n, n < j → gw_ok xok e f n) → wX_classMisfit_20 post (nI e) (nI f) xcu xar xrc xlc xde xpt xve xok xlt xty xpi xnu xtg xse xso xnf xrn xre xrl xrd xll xlr (d + 1) (nI j) := by
  intro d
  induction d with
  | zero =>
    intro j hj ha
    have : j = 10 := by omega
    subst this
    exact br_t (nI_le (a := 10) (by omega) (by omega)) (h0 ha)
  | succ d ih =>
    intro j hj ha
    have b1 := gw_e3 e j
    have b2 := gw_e3 f j
    have nx : gw_ok xok e f j → wX_classMisfit_20 post (nI e) (nI f) xcu xar xrc xlc xde xpt xve xok xlt xty xpi xnu xtg xse xso xnf xrn xre xrl xrd xll xlr (d + 1) (nI (j + 1)) := fun h => ih (j + 1) (by omega) (fun n hn => by
      by_cases en : n = j
      · rw [en]; exact h
      · exact ha n (by omega))
    refine br_f (nI_ge (b := 10) (by omega) (by omega)) ⟨by rw [b1]; exact vp_in_nI (by omega) (by omega), nm_r (e' := xok (10 * e + j)) (by rw [b1, nI_clamp (by omega)]) ⟨by rw [b2]; exact vp_in_nI (by omega) (by omega), nm_r (e' := xok (10 * f + j)) (by rw [b2, nI_clamp (by omega)]) ?_⟩⟩
    refine br_c (fun h => nm_r (nI_1 j) (nx (fun a _ => absurd h a))) (fun h1 => br_c (fun h => nm_r (nI_1 j) (nx (fun _ b => absurd h b))) (fun h2 => br_c (fun h => nm_r (nI_1 j) (nx (fun _ _ => h))) (fun h => h4 (fun z => h (z j (by omega) h1 h2)))))
theorem gx_cm {post : Int32 → Prop} {s e f : Nat} (hs : s < 2) (he : e < 12) (hes : e / 6 = s) (hf : f = 6 * (1 - s) + e % 6) (hp : (¬ xve e = xve f → post (-3)) ∧ (xve e = xve f → ¬ gw_sk xok (e % 6) → post (-4)) ∧ (xve e = xve f → gw_sk xok (e % 6) → post 0)) : wpX_classMisfit post (xcu, xar, xrc, xlc, xde, xpt, xve, xok, xlt, xty, xpi, xnu, xtg, xse, xso, xnf, xrn, xre, xrl, xrd, xll, xlr) (nI e) (nI f) := by
  refine ⟨vp_in_nI he (by omega), vp_in_nI (by omega) (by omega), ?_⟩
  rw [nI_clamp (by omega), nI_clamp (by omega)]
  have q := gw_sk_x (K := xok) hs hes hf
  exact br_c (fun h => ⟨11, gx_cm20 he (by omega) (fun z => hp.2.2 h (q.mp z)) (fun z => hp.2.1 h (fun y => z (q.mpr y))) 10 0 (by omega) (fun n hn => by omega)⟩) (fun h => hp.1 h)
theorem gx_mfs (hC : gw_C D K P L) (hx : gx_C D P L xpt xlt) {post : Int32 → Prop} {J : Int32 → Int32 → Prop} {s t r k : Nat} (hs : s < 2) (hk : k < 3) (hv : gw_v D s (some t)) (hr : r = 6 * (1 - s) + t % 6) (hvr : gw_v D (1 - s) (some r)) (hJ : J (gw_lv P xve xok t r k) (nI k + (-1))) : wpX_ancestor (fun r_5 => (((r_5 = (-1) → (wX_misfit_52 post J (nI t) (nI r) 0 (nI k) r_5 (-1) xcu xar xrc xlc xde xpt xve xok xlt xty xpi xnu xtg xse xso xnf xrn xre xrl xrd xll xlr)) ∧ (¬ r_5 = (-1) → (wpX_namesake (fun r_29 => (wX_misfit_52 post J (nI t) (nI r) 0 (nI k) r_5 r_29 xcu xar xrc xlc xde xpt xve xok xlt xty xpi xnu xtg xse xso xnf xrn xre xrl xrd xll xlr)) (xcu, xar, xrc, xlc, xde, xpt, xve, xok, xlt, xty, xpi, xnu, xtg, xse, xso, xnf, xrn, xre, xrl, xrd, xll, xlr) (nI r) r_5))))) (xcu, xar, xrc, xlc, xde, xpt, xve, xok, xlt, xty, xpi, xnu, xtg, xse, xso, xnf, xrn, xre, xrl, xrd, xll, xlr) (nI t) (nI k) := by
  refine gx_ancestor hC hx (by omega) hv ?_
  have er : r / 6 = 1 - s := (hvr r rfl).2.1
  cases he : gw_an P k (some t) with
  | none =>
    rw [gw_lv_n he] at hJ
    exact br_t rfl (br_t rfl (nm_e hJ))
  | some e =>
    have ev := gw_v_an hC k _ hv e he
    refine br_f (gw_nm (by omega)) (gx_namesake hC hx (s := 1 - s) (by omega) rfl hvr (fun hin => ?_) (fun hin => ?_))
    · rw [← er] at hin
      refine br_f (gw_nm (by omega)) (gx_cm hs ev.1 ev.2.1 rfl ⟨fun h => ?_, fun h g => ?_, fun h g => ?_⟩)
      · rw [← er] at h
        rw [gw_lv_v he hin h] at hJ
        exact nm_e hJ
      · rw [← er] at h
        rw [gw_lv_k he hin h g] at hJ
        exact nm_e hJ
      · rw [← er] at h
        rw [gw_lv_0 he hin h g] at hJ
        exact nm_e hJ
    · rw [← er] at hin
      rw [gw_lv_o he hin] at hJ
      exact br_t rfl (nm_e hJ)
theorem gx_misfit (hC : gw_C xde K P L) (hx : gx_C xde P L xpt xlt) {post : Int32 → Prop} {s t r : Nat} (hs : s < 2) (hv : gw_v xde s (some t)) (hr : r = 6 * (1 - s) + t % 6) (hp : post (gw_mf xde P xve xok t r)) : wpX_misfit post (xcu, xar, xrc, xlc, xde, xpt, xve, xok, xlt, xty, xpi, xnu, xtg, xse, xso, xnf, xrn, xre, xrl, xrd, xll, xlr) (nI t) (nI r) := by
  have tv := hv t rfl
  refine ⟨vp_in_nI (by omega) (by omega), ?_⟩
  rw [nI_clamp (by omega)]
  unfold gw_mf at hp
  refine br_c (fun h => ?_) (fun h => ⟨4, ?_⟩)
  · rw [if_pos h] at hp; exact hp
  · rw [if_neg h] at hp
    have hvr : gw_v xde (1 - s) (some r) := gw_v_mk (by omega) (by omega) h
    refine br_f (by decide) (br_t rfl (gx_mfs hC hx hs (k := 2) (by omega) hv hr hvr ?_))
    refine br_f (by decide) (br_c (fun h2 => ?_) (fun h2 => ?_))
    · rw [if_pos h2] at hp
      rw [h2]
      refine gx_mfs hC hx hs (k := 1) (by omega) hv hr hvr ?_
      refine br_f (by decide) (br_c (fun h1 => ?_) (fun h1 => ?_))
      · rw [if_pos h1] at hp
        rw [h1]
        refine gx_mfs hC hx hs (k := 0) (by omega) hv hr hvr ?_
        exact br_t (by decide) hp
      · rw [if_neg h1] at hp; exact hp
    · rw [if_neg h2] at hp; exact hp
end
section
variable {ycu ydp ylm : Int32} {yde yve ypa yow yla ycl ypr ypi yar : Nat → Int32} {yva : Nat → Int64} {yfr yma ydo yro : Nat → Int32}
theorem gy_sk (hK : ∀ i, i < 120 → ¬ yow i = -1 → ∃ n, n ≤ 4 ∧ yow i = nI n) {post : Int32 → Prop} {c : Nat} (hc : c < 6) (h1 : gw_sk yow c → post 1) (h0 : ¬ gw_sk yow c → post 0) : ∀ d j, j + d = 10 → (∀ n, n < j → gw_ok yow c (6 + c) n) → wY_sameKinds_2 post (nI c) ycu ydp ylm yde yve ypa yow yla ycl ypr ypi yar yva yfr yma ydo yro (d + 1) (nI j) := by
  intro d
  induction d with
  | zero =>
    intro j hj ha
    have : j = 10 := by omega
    subst this
    exact br_t (nI_le (a := 10) (by omega) (by omega)) (h1 ha)
  | succ d ih =>
    intro j hj ha
    have nx : gw_ok yow c (6 + c) j → wY_sameKinds_2 post (nI c) ycu ydp ylm yde yve ypa yow yla ycl ypr ypi yar yva yfr yma ydo yro (d + 1) (nI (j + 1)) := fun h => ih (j + 1) (by omega) (fun n hn => by
      by_cases en : n = j
      · rw [en]; exact h
      · exact ha n (by omega))
    refine br_f (nI_ge (b := 10) (by omega) (by omega)) (gy_own (s := 0) (by omega) hc (by omega) (gy_own (s := 1) (by omega) hc (by omega) ?_))
    rw [show 6 * 0 + c = c by omega, show 6 * 1 + c = 6 + c by omega]
    by_cases g1 : yow (10 * c + j) = -1
    · exact br_t (by rw [g1]; decide) (nm_r (nI_1 j) (nx (fun a _ => absurd g1 a)))
    · obtain ⟨m1, l1, e1⟩ := hK _ (by omega) g1
      refine br_f (by rw [e1]; exact gw_p0 (by omega)) ?_
      by_cases g2 : yow (10 * (6 + c) + j) = -1
      · exact br_t (by rw [g2]; decide) (nm_r (nI_1 j) (nx (fun _ b => absurd g2 b)))
      · obtain ⟨m2, l2, e2⟩ := hK _ (by omega) g2
        refine br_f (by rw [e2]; exact gw_p0 (by omega)) (br_c (fun h => nm_r (nI_1 j) (nx (fun _ _ => h))) (fun h => h0 (fun z => h (z j (by omega) g1 g2))))
theorem gy_obs (hC : gw_C D yow P L) (hy : gy_C D P L ypa yla) {post : Int32 → Prop} {s c r k n : Nat} (hs : s < 2) (hk : k < 3) (hc : c < 6) (hv : gw_v D s (some (6 * s + c))) (hr : r = 6 * (1 - s) + c) (hvr : gw_v D (1 - s) (some r)) (h0 : gw_lv P yve yow (6 * s + c) r k = 0 → wY_obstacle_38 post (nI s) (nI c) (nI (1 - s)) ycu ydp ylm yde yve ypa yow yla ycl ypr ypi yar yva yfr yma ydo yro n (nI k + (-1))) (h1 : ¬ gw_lv P yve yow (6 * s + c) r k = 0 → post (gw_lv P yve yow (6 * s + c) r k)) : wY_obstacle_38 post (nI s) (nI c) (nI (1 - s)) ycu ydp ylm yde yve ypa yow yla ycl ypr ypi yar yva yfr yma ydo yro (n + 1) (nI k) := by
  have er : r / 6 = 1 - s := (hvr r rfl).2.1
  have hvr' : gw_v D (1 - s) (some (6 * (1 - s) + c)) := by rw [← hr]; exact hvr
  refine br_f (gw_p0 (by omega)) (gy_chain hC hy (by omega) hc hv ?_)
  cases he : gw_an P k (some (6 * s + c)) with
  | none => exact gy_inNone (br_t rfl (nm_e (h0 (gw_lv_n he))))
  | some e =>
    have ev := gw_v_an hC k _ hv e he
    have e1 : 6 * nI s + gw_c (some e) = nI e := by
      show 6 * nI s + nI (e % 6) = _
      rw [gw_e2]; exact congrArg nI (by omega)
    have e2 : 6 * nI (1 - s) + gw_c (some e) = nI (6 * (r / 6) + e % 6) := by
      show 6 * nI (1 - s) + nI (e % 6) = _
      rw [gw_e2, er]
    refine gy_inChain hC hy (by omega) hc (e := e) (by omega) rfl hvr' (fun hin => br_f (by decide) ⟨by rw [e1]; exact vp_in_nI ev.1 (by omega), by rw [e2]; exact vp_in_nI (by omega) (by omega), ?_⟩) (fun hin => br_t rfl (nm_e (h0 ?_)))
    · rw [← hr, ← er] at hin
      rw [e1, e2, nI_clamp (by omega), nI_clamp (by omega)]
      refine br_c (fun hV => ⟨11, gy_sk hC.2.1 (by omega) (fun hK => br_f (by decide) (nm_e (h0 (gw_lv_0 he hin hV hK)))) (fun hK => br_t rfl ?_) 10 0 (by omega) (fun n hn => by omega)⟩) (fun hV => ?_)
      · have := h1 (by rw [gw_lv_k he hin hV hK]; decide)
        rw [gw_lv_k he hin hV hK] at this
        exact this
      · have := h1 (by rw [gw_lv_v he hin hV]; decide)
        rw [gw_lv_v he hin hV] at this
        exact this
    · rw [← hr, ← er] at hin
      exact gw_lv_o he hin
/-- whether the object can arrive -/
noncomputable def gw_bar (D : Nat → Int32) (P : Nat → Option Nat) (V K : Nat → Int32) (C : Nat → Option Nat) (s t : Nat) : Int32 := if gw_mf D P V K t (6 * (1 - s) + t % 6) = 0 then (if gw_fr C (1 - s) = none then -5 else 0) else gw_mf D P V K t (6 * (1 - s) + t % 6)
theorem gy_obst (hC : gw_C yde yow P L) (hy : gy_C yde P L ypa yla) (hO : gw_O yde P yow C S T F) (ht : gy_t C ycl) {post : Int32 → Prop} {s o t : Nat} (hs : o / 16 = s) (ho : o < 32) (hc : C o = some t) (hp : post (gw_bar yde P yve yow C s t)) : wpY_obstacle post (ycu, ydp, ylm, yde, yve, ypa, yow, yla, ycl, ypr, ypi, yar, yva, yfr, yma, ydo, yro) (nI o) := by
  have hv := hO.1 o ho
  rw [hc, hs] at hv
  have tv := hv t rfl
  have et : 6 * s + t % 6 = t := by omega
  have e2 := gw_e2 (1 - s) (t % 6)
  refine ⟨gw_16, nm_r (e' := nI s) (by rw [gw_q16 (by omega), hs]) ⟨vp_in_nI ho (by omega), nm_r (e' := nI (t % 6)) (by rw [nI_clamp (by omega), ht o ho, hc]; rfl) (nm_r (gw_s1 (by omega)) ⟨by rw [e2]; exact vp_in_nI (by omega) (by omega), ?_⟩)⟩⟩
  rw [e2, nI_clamp (by omega)]
  unfold gw_bar at hp
  unfold gw_mf at hp
  refine br_c (fun h => ?_) (fun h => ⟨4, ?_⟩)
  · rw [if_pos h, if_neg (by decide)] at hp; exact hp
  · rw [if_neg h] at hp
    have hvr : gw_v yde (1 - s) (some (6 * (1 - s) + t % 6)) := gw_v_mk (by omega) (by omega) h
    have hv' : gw_v yde s (some (6 * s + t % 6)) := by rw [et]; exact hv
    rw [← et] at hp
    rw [show (6 * s + t % 6) % 6 = t % 6 by omega] at hp
    refine gy_obs hC hy (by omega) (k := 2) (by omega) (by omega) hv' rfl hvr (fun h2 => ?_) (fun h2 => ?_)
    · rw [if_pos h2] at hp
      refine gy_obs hC hy (by omega) (k := 1) (by omega) (by omega) hv' rfl hvr (fun h1 => ?_) (fun h1 => ?_)
      · rw [if_pos h1] at hp
        refine gy_obs hC hy (by omega) (k := 0) (by omega) (by omega) hv' rfl hvr (fun h0 => ?_) (fun h0 => ?_)
        · rw [if_pos h0] at hp
          refine br_t (by decide) (gy_free hO.1 ht (by omega) ?_)
          cases hf : gw_fr C (1 - s) with
          | none => rw [if_pos hf] at hp; exact br_f (by decide) hp
          | some q =>
            have := gw_fr_p hf
            rw [if_neg (by rw [hf]; simp)] at hp
            exact br_t (nI_pos' (by omega)) hp
        · rw [if_neg h0] at hp; exact hp
      · rw [if_neg h1, if_neg h1] at hp; exact hp
    · rw [if_neg h2, if_neg h2] at hp; exact hp
end
end
end
section
/-! send: the steps of both sides -/
section
variable {D V K B : Nat → Int32} {P L C S T : Nat → Option Nat} {F : Nat → Int64} {cu : Option Nat}
section
variable {xcu xar xrc xlc : Int32} {xde xpt xve xok xlt xty xpi : Nat → Int32} {xnu : Nat → Int64} {xtg xse xso xnf xrn xre xrl xrd xll xlr : Nat → Int32}
theorem gx_arrive (hC : gw_C xde xok P L) (hx : gx_C xde P L xpt xlt) (hO : gw_O xde P xok C S T F) (ht : gx_t C xty) {post : Int32 → SX → Prop} {s y t : Nat} {j : Int32} (hy : y < 32) (hs : y / 16 = s) (hc : C y = some t) (h1 : ¬ gw_bar xde P xve xok C s t = 0 → post (gw_bar xde P xve xok C s t) (nI (gw_d y), xar, xrc, xlc, xde, xpt, xve, xok, xlt, xty, xpi, xnu, xtg, xse, xso, xnf, xrn, xre, xrl, xrd, xll, xlr)) (h0 : gw_bar xde P xve xok C s t = 0 → ∀ o, gw_fr C (1 - s) = some o → post 0 (xcu, nI (gw_d o), xrc, xlc, xde, xpt, xve, xok, xlt, upd xty (gw_d o) (nI (6 * (1 - s) + t % 6)), upd xpi (gw_d o) 0, gw_fL xnu (10 * gw_d o) (10 * gw_d o + 10) 0, gw_fi xtg (10 * gw_d o) (10 * gw_d o + 10) (-1), if j = 0 then upd xse (gw_d o) (-1) else upd (upd xse (gw_d o) (-1)) (gw_d y) (nI (gw_d o)), upd xso (gw_d o) (nI (gw_d y)), upd xnf (gw_d o) 0, upd xrn (gw_d o) xar, xre, xrl, xrd, xll, xlr)) : wpX_arrive post (xcu, xar, xrc, xlc, xde, xpt, xve, xok, xlt, xty, xpi, xnu, xtg, xse, xso, xnf, xrn, xre, xrl, xrd, xll, xlr) (nI (gw_d y)) j := by
  have dy := gw_dlt hy
  have hv := hO.1 y hy
  rw [hc, hs] at hv
  have tv := hv t rfl
  have iy : vp_in (nI (gw_d y)) 48 := vp_in_nI dy (by omega)
  have ey : (nI (gw_d y)).toNatClampNeg = gw_d y := nI_clamp (by omega)
  have e3 : 1 - nI (gw_d y) / 32 = nI (1 - s) := by rw [gw_q32 (by omega), gw_dd, hs, gw_s1 (by omega)]
  have e4 : nI (1 - s) * 6 + (xty (nI (gw_d y)).toNatClampNeg - xty (nI (gw_d y)).toNatClampNeg / 6 * 6) = nI (6 * (1 - s) + t % 6) := by
    rw [ey, ht.1 y hy, hc]
    show nI (1 - s) * 6 + (nI t - nI t / 6 * 6) = _
    rw [gw_m6 (by omega), gw_e1]
  refine ⟨gw_32, nm_r e3 ⟨iy, gw_6, nm_r e4 (gx_free hO.1 ht (by omega) ⟨iy, ?_⟩)⟩⟩
  rw [ey, ht.1 y hy, hc]
  unfold gw_bar at h0 h1
  refine gx_misfit hC hx (by omega) hv rfl (br_c (fun hm => ?_) (fun hm => br_f hm ?_))
  · rw [if_pos hm] at h0 h1
    cases hf : gw_fr C (1 - s) with
    | none =>
      rw [if_pos hf] at h0 h1
      exact br_t rfl (br_f (by decide) (h1 (by decide)))
    | some o =>
      rw [if_neg (by rw [hf]; simp)] at h0 h1
      obtain ⟨f1, f2, f3⟩ := gw_fr_p hf
      have ho : o < 32 := by omega
      have dO := gw_dlt ho
      have io : vp_in (nI (gw_d o)) 48 := vp_in_nI dO (by omega)
      have eo : (nI (gw_d o)).toNatClampNeg = gw_d o := nI_clamp (by omega)
      have hp := h0 rfl o hf
      refine br_f (gw_nm (by omega)) (br_t hm (gx_place dO ?_))
      by_cases hj : j = 0
      · rw [if_pos hj] at hp
        exact br_t hj ⟨io, nm_r (by rw [show gw_g (some o) = nI (gw_d o) from rfl, eo]) ⟨io, nm_r (by rw [show gw_g (some o) = nI (gw_d o) from rfl, eo]) ⟨io, nm_r (by rw [show gw_g (some o) = nI (gw_d o) from rfl, eo]) hp⟩⟩⟩
      · rw [if_neg hj] at hp
        exact br_f hj ⟨iy, nm_r (by rw [ey]; rfl) ⟨io, nm_r (by rw [show gw_g (some o) = nI (gw_d o) from rfl, eo]) ⟨io, nm_r (by rw [show gw_g (some o) = nI (gw_d o) from rfl, eo]) ⟨io, nm_r (by rw [show gw_g (some o) = nI (gw_d o) from rfl, eo]) hp⟩⟩⟩⟩
  · rw [if_neg hm] at h1
    exact h1 hm
theorem gx_fillField (hC : gw_C xde xok P L) (hx : gx_C xde P L xpt xlt) (hO : gw_O xde P xok C S T F) (ht : gx_t C xty) (hf : gx_f F xnu) (hg : gx_g T xtg) (hS : gx_s S xse) {post : SX → Prop} {y o r e n : Nat} (hy : y < 32) (ho : o < 32) (cy : C y ≠ none) (co : C o = some r) (he : e < 12) (hn : n < 10) (hso : xso (gw_d o) = nI (gw_d y)) (h1 : gw_in P r (6 * (r / 6) + e % 6) → ¬ xok (10 * (6 * (r / 6) + e % 6) + n) = -1 → post (xcu, xar, xrc, xlc, xde, xpt, xve, xok, xlt, xty, xpi, vp_updL xnu (10 * gw_d o + n) (F (10 * y + n)), upd xtg (10 * gw_d o + n) (gw_g ((T (10 * y + n)).bind S)), xse, xso, xnf, xrn, xre, xrl, xrd, xll, xlr)) (h0 : ¬ (gw_in P r (6 * (r / 6) + e % 6) ∧ ¬ xok (10 * (6 * (r / 6) + e % 6) + n) = -1) → post (xcu, xar, xrc, xlc, xde, xpt, xve, xok, xlt, xty, xpi, xnu, xtg, xse, xso, xnf, xrn, xre, xrl, xrd, xll, xlr)) : wpX_fillField post (xcu, xar, xrc, xlc, xde, xpt, xve, xok, xlt, xty, xpi, xnu, xtg, xse, xso, xnf, xrn, xre, xrl, xrd, xll, xlr) (nI (gw_d o)) (nI e) (nI n) := by
  have dO := gw_dlt ho
  have dy := gw_dlt hy
  have hvr := hO.1 o ho
  rw [co] at hvr
  have rv := hvr r rfl
  have io : vp_in (nI (gw_d o)) 48 := vp_in_nI dO (by omega)
  have eo : (nI (gw_d o)).toNatClampNeg = gw_d o := nI_clamp (by omega)
  refine ⟨io, ?_⟩
  rw [eo, ht.1 o ho, co]
  refine gx_namesake hC hx (s := r / 6) (by omega) rfl (by rw [rv.2.1]; exact hvr) (fun hin => ?_) (fun hin => br_t rfl (h0 (fun z => hin z.1)))
  have b1 := gw_e3 (6 * (r / 6) + e % 6) n
  refine br_f (gw_nm (by omega)) ⟨by rw [b1]; exact vp_in_nI (by omega) (by omega), ?_⟩
  rw [b1, nI_clamp (by omega)]
  refine br_c (fun h => h0 (fun z => z.2 h)) (fun h => ⟨io, ?_⟩)
  have hp := h1 hin h
  have i5 : vp_in (nI (10 * gw_d y + n)) 480 := vp_in_nI (by omega) (by omega)
  have i6 : vp_in (nI (10 * gw_d o + n)) 480 := vp_in_nI (by omega) (by omega)
  have c5 : (nI (10 * gw_d y + n)).toNatClampNeg = 10 * gw_d y + n := nI_clamp (by omega)
  have c6 : (nI (10 * gw_d o + n)).toNatClampNeg = 10 * gw_d o + n := nI_clamp (by omega)
  refine nm_r (e' := nI (10 * gw_d y + n)) (by rw [hso]; exact gw_e3 _ _) (nm_r (gw_e3 _ _) ⟨i5, i6, nm_r (by rw [c5, c6, hf y n hy hn]) ⟨i5, ?_⟩⟩)
  rw [c5, hg y n hy hn]
  cases hT : T (10 * y + n) with
  | none =>
    rw [hT] at hp
    exact br_t rfl ⟨i6, nm_r (by rw [c6]; rfl) hp⟩
  | some z =>
    rw [hT] at hp
    have hz := (hO.2.2.2 y n z hy hn cy hT).1
    have dz := gw_dlt hz
    refine br_f (gw_nm (by omega)) ⟨i5, vp_in_nI dz (by omega), i6, nm_r ?_ hp⟩
    rw [c6, show gw_g (some z) = nI (gw_d z) from rfl, nI_clamp (by omega), hS z hz]
    rfl
/-- the top frame: o is filled from y, d places are done -/
def gx_top (xar : Int32) (xso xnf : Nat → Int32) (y o d : Nat) : Prop := xar = nI (gw_d o) ∧ xso (gw_d o) = nI (gw_d y) ∧ xnf (gw_d o) = nI d
theorem gx_fp {post : Int32 → SX → Prop} {y o d : Nat} (ho : o < 32) (hd : d = 30) (hT : gx_top xar xso xnf y o d) (hp : post 0 (xcu, xrn (gw_d o), xrc, xlc, xde, xpt, xve, xok, xlt, xty, xpi, xnu, xtg, xse, xso, xnf, xrn, xre, xrl, xrd, xll, xlr)) : wpX_fillNextField post (xcu, xar, xrc, xlc, xde, xpt, xve, xok, xlt, xty, xpi, xnu, xtg, xse, xso, xnf, xrn, xre, xrl, xrd, xll, xlr) xar := by
  obtain ⟨h1, h2, h3⟩ := hT
  subst h1
  have dO := gw_dlt ho
  have io : vp_in (nI (gw_d o)) 48 := vp_in_nI dO (by omega)
  have eo : (nI (gw_d o)).toNatClampNeg = gw_d o := nI_clamp (by omega)
  refine ⟨io, nm_r (e' := nI d) (by rw [eo, h3]) (br_f (nI_nlt (a := d) (b := 30) (by omega) (by omega)) ⟨io, nm_r (by rw [eo]) hp⟩)⟩
/-- the next place of the top frame, seen to its kind -/
theorem gx_f79 (hC : gw_C xde xok P L) (hx : gx_C xde P L xpt xlt) (hO : gw_O xde P xok C S T F) (ht : gx_t C xty) {post : Int32 → SX → Prop} {y o d t : Nat} (hy : y < 32) (ho : o < 32) (hd : d < 30) (cy : C y = some t) (hT : gx_top xar xso xnf y o d) (h0 : gw_an P (2 - d / 10) (some t) = none → wX_fillNextField_79 post (nI (gw_d o)) (nI d) (nI (gw_d y)) (nI (d % 10)) (-1) (-1) xcu xar xrc xlc xde xpt xve xok xlt xty xpi xnu xtg xse xso xnf xrn xre xrl xrd xll xlr) (h1 : ∀ e, e < 12 → gw_an P (2 - d / 10) (some t) = some e → wX_fillNextField_79 post (nI (gw_d o)) (nI d) (nI (gw_d y)) (nI (d % 10)) (nI e) (xok (10 * e + d % 10)) xcu xar xrc xlc xde xpt xve xok xlt xty xpi xnu xtg xse xso xnf xrn xre xrl xrd xll xlr) : wpX_fillNextField post (xcu, xar, xrc, xlc, xde, xpt, xve, xok, xlt, xty, xpi, xnu, xtg, xse, xso, xnf, xrn, xre, xrl, xrd, xll, xlr) xar := by
  obtain ⟨g1, g2, g3⟩ := hT
  subst g1
  have dO := gw_dlt ho
  have dy := gw_dlt hy
  have hv := hO.1 y hy
  rw [cy] at hv
  have io : vp_in (nI (gw_d o)) 48 := vp_in_nI dO (by omega)
  have eo : (nI (gw_d o)).toNatClampNeg = gw_d o := nI_clamp (by omega)
  have e10 : 2 - nI d / 10 = nI (2 - d / 10) := by rw [gw_q10 (by omega), gw_s2 (by omega)]
  refine ⟨io, nm_r (e' := nI d) (by rw [eo, g3]) (br_t (nI_lt (b := 30) hd (by omega)) ⟨io, nm_r (e' := nI (gw_d y)) (by rw [eo, g2]) ⟨gw_10, nm_r (gw_m10 (by omega)) ⟨vp_in_nI dy (by omega), gw_10, ?_⟩⟩⟩)⟩
  rw [e10, nI_clamp (by omega), ht.1 y hy, cy]
  refine gx_ancestor hC hx (by omega) hv ?_
  cases he : gw_an P (2 - d / 10) (some t) with
  | none => exact br_t rfl (h0 he)
  | some e =>
    have ev := gw_v_an hC _ _ hv e he
    have b1 := gw_e3 e (d % 10)
    refine br_f (gw_nm (by omega)) ⟨by show vp_in (nI e * 10 + nI (d % 10)) 120; rw [b1]; exact vp_in_nI (by omega) (by omega), ?_⟩
    show wX_fillNextField_79 post (nI (gw_d o)) (nI d) (nI (gw_d y)) (nI (d % 10)) (nI e) (xok (nI e * 10 + nI (d % 10)).toNatClampNeg) xcu (nI (gw_d o)) xrc xlc xde xpt xve xok xlt xty xpi xnu xtg xse xso xnf xrn xre xrl xrd xll xlr
    rw [b1, nI_clamp (by omega)]
    exact h1 e ev.1 he
theorem gx_f141 {post : Int32 → SX → Prop} {o d : Nat} (ho : o < 32) (hp : post 0 (xcu, xar, xrc, xlc, xde, xpt, xve, xok, xlt, xty, xpi, xnu, xtg, xse, xso, upd xnf (gw_d o) (nI (d + 1)), xrn, xre, xrl, xrd, xll, xlr)) : wX_fillNextField_141 post (nI (gw_d o)) (nI d) xcu xar xrc xlc xde xpt xve xok xlt xty xpi xnu xtg xse xso xnf xrn xre xrl xrd xll xlr := by
  have dO := gw_dlt ho
  exact ⟨vp_in_nI dO (by omega), nm_r (by rw [nI_clamp (by omega), nI_1]) hp⟩
/-- a place without a field -/
theorem gx_fs (hC : gw_C xde xok P L) (hx : gx_C xde P L xpt xlt) (hO : gw_O xde P xok C S T F) (ht : gx_t C xty) {post : Int32 → SX → Prop} {y o d t : Nat} (hy : y < 32) (ho : o < 32) (hd : d < 30) (cy : C y = some t) (hT : gx_top xar xso xnf y o d) (hn : ∀ e, gw_an P (2 - d / 10) (some t) = some e → xok (10 * e + d % 10) = -1) (hp : post 0 (xcu, xar, xrc, xlc, xde, xpt, xve, xok, xlt, xty, xpi, xnu, xtg, xse, xso, upd xnf (gw_d o) (nI (d + 1)), xrn, xre, xrl, xrd, xll, xlr)) : wpX_fillNextField post (xcu, xar, xrc, xlc, xde, xpt, xve, xok, xlt, xty, xpi, xnu, xtg, xse, xso, xnf, xrn, xre, xrl, xrd, xll, xlr) xar :=
  gx_f79 hC hx hO ht hy ho hd cy hT (fun _ => br_f (by decide) (br_t rfl (gx_f141 ho hp))) (fun e _ he => by
    rw [hn e he]
    exact br_f (by decide) (br_t rfl (gx_f141 ho hp)))
/-- a field that is copied -/
theorem gx_fc (hC : gw_C xde xok P L) (hx : gx_C xde P L xpt xlt) (hO : gw_O xde P xok C S T F) (ht : gx_t C xty) (hf : gx_f F xnu) (hg : gx_g T xtg) (hS : gx_s S xse) {post : Int32 → SX → Prop} {y o d t r e : Nat} (hy : y < 32) (ho : o < 32) (hd : d < 30) (cy : C y = some t) (co : C o = some r) (hT : gx_top xar xso xnf y o d) (he : gw_an P (2 - d / 10) (some t) = some e) (hk : ¬ xok (10 * e + d % 10) = -1) (hz : xok (10 * e + d % 10) = 4 → ∀ z, T (10 * y + d % 10) = some z → S z ≠ none) (h1 : gw_in P r (6 * (r / 6) + e % 6) → ¬ xok (10 * (6 * (r / 6) + e % 6) + d % 10) = -1 → post 0 (xcu, xar, xrc, xlc, xde, xpt, xve, xok, xlt, xty, xpi, vp_updL xnu (10 * gw_d o + d % 10) (F (10 * y + d % 10)), upd xtg (10 * gw_d o + d % 10) (gw_g ((T (10 * y + d % 10)).bind S)), xse, xso, upd xnf (gw_d o) (nI (d + 1)), xrn, xre, xrl, xrd, xll, xlr)) (h0 : ¬ (gw_in P r (6 * (r / 6) + e % 6) ∧ ¬ xok (10 * (6 * (r / 6) + e % 6) + d % 10) = -1) → post 0 (xcu, xar, xrc, xlc, xde, xpt, xve, xok, xlt, xty, xpi, xnu, xtg, xse, xso, upd xnf (gw_d o) (nI (d + 1)), xrn, xre, xrl, xrd, xll, xlr)) : wpX_fillNextField post (xcu, xar, xrc, xlc, xde, xpt, xve, xok, xlt, xty, xpi, xnu, xtg, xse, xso, xnf, xrn, xre, xrl, xrd, xll, xlr) xar := by
  refine gx_f79 hC hx hO ht hy ho hd cy hT (fun z => by rw [he] at z; exact absurd z (by simp)) (fun e' he12 he' => ?_)
  rw [he] at he'
  cases he'
  have dy := gw_dlt hy
  have hcy : C y ≠ none := by rw [cy]; simp
  have go : wX_fillNextField_126 post (nI (gw_d o)) (nI d) (nI (d % 10)) (nI e) (xok (10 * e + d % 10)) xcu xar xrc xlc xde xpt xve xok xlt xty xpi xnu xtg xse xso xnf xrn xre xrl xrd xll xlr := by
    refine br_f hk (gx_fillField hC hx hO ht hf hg hS hy ho hcy co he12 (by omega) hT.2.1 (fun a b => gx_f141 ho (h1 a b)) (fun a => gx_f141 ho (h0 a)))
  refine br_c (fun h4 => ?_) (fun _ => go)
  have b1 := gw_e3 (gw_d y) (d % 10)
  refine ⟨by rw [b1]; exact vp_in_nI (by omega) (by omega), nm_r (e' := gw_g (T (10 * y + d % 10))) (by rw [b1, nI_clamp (by omega)]; exact hg y _ hy (by omega)) ?_⟩
  cases hTz : T (10 * y + d % 10) with
  | none => exact br_t rfl go
  | some z =>
    have hz32 := (hO.2.2.2 y _ z hy (by omega) hcy hTz).1
    have dz := gw_dlt hz32
    refine br_f (gw_nm (by omega)) ⟨vp_in_nI dz (by omega), br_f ?_ go⟩
    rw [show gw_g (some z) = nI (gw_d z) from rfl, nI_clamp (by omega), hS z hz32]
    cases hSz : S z with
    | none => exact absurd hSz (hz h4 z hTz)
    | some q =>
      have dq := gw_dlt (hO.2.1 z q hz32 hSz).1
      exact gw_nm (by omega)
/-- a target that must arrive first -/
theorem gx_fa (hC : gw_C xde xok P L) (hx : gx_C xde P L xpt xlt) (hO : gw_O xde P xok C S T F) (ht : gx_t C xty) (hg : gx_g T xtg) (hS : gx_s S xse) {post : Int32 → SX → Prop} {y o d t e z : Nat} (hy : y < 32) (ho : o < 32) (hd : d < 30) (cy : C y = some t) (hT : gx_top xar xso xnf y o d) (he : gw_an P (2 - d / 10) (some t) = some e) (hk : xok (10 * e + d % 10) = 4) (hTz : T (10 * y + d % 10) = some z) (hSz : S z = none) (hp : wpX_arrive (fun r u => match u with | (xcu68, xar68, xrc68, xlc68, xde68, xpt68, xve68, xok68, xlt68, xty68, xpi68, xnu68, xtg68, xse68, xso68, xnf68, xrn68, xre68, xrl68, xrd68, xll68, xlr68) => post r (xcu68, xar68, xrc68, xlc68, xde68, xpt68, xve68, xok68, xlt68, xty68, xpi68, xnu68, xtg68, xse68, xso68, xnf68, xrn68, xre68, xrl68, xrd68, xll68, xlr68)) (xcu, xar, xrc, xlc, xde, xpt, xve, xok, xlt, xty, xpi, xnu, xtg, xse, xso, xnf, xrn, xre, xrl, xrd, xll, xlr) (nI (gw_d z)) 1) : wpX_fillNextField post (xcu, xar, xrc, xlc, xde, xpt, xve, xok, xlt, xty, xpi, xnu, xtg, xse, xso, xnf, xrn, xre, xrl, xrd, xll, xlr) xar := by
  refine gx_f79 hC hx hO ht hy ho hd cy hT (fun z => by rw [he] at z; exact absurd z (by simp)) (fun e' he12 he' => ?_)
  rw [he] at he'
  cases he'
  have dy := gw_dlt hy
  have hcy : C y ≠ none := by rw [cy]; simp
  have b1 := gw_e3 (gw_d y) (d % 10)
  have hz32 := (hO.2.2.2 y _ z hy (by omega) hcy hTz).1
  have dz := gw_dlt hz32
  refine br_t hk ⟨by rw [b1]; exact vp_in_nI (by omega) (by omega), nm_r (e' := nI (gw_d z)) (by rw [b1, nI_clamp (by omega), hg y _ hy (by omega), hTz]; rfl) (br_f (gw_nm (by omega)) ⟨vp_in_nI dz (by omega), br_t ?_ hp⟩)⟩
  rw [nI_clamp (by omega), hS z hz32, hSz]
  rfl
end
section
variable {ycu ydp ylm : Int32} {yde yve ypa yow yla ycl ypr ypi yar : Nat → Int32} {yva : Nat → Int64} {yfr yma ydo yro : Nat → Int32}
theorem gy_begin (hC : gw_C yde yow P L) (hy : gy_C yde P L ypa yla) (hO : gw_O yde P yow C S T F) (ht : gy_t C ycl) {post : Int32 → SY → Prop} {s y t m : Nat} {p1 j : Int32} (hy' : y < 32) (hs : y / 16 = s) (hc : C y = some t) (hm : m < 40) (hd : ydp = nI m) (hj : (j = 0) ↔ (m = 0 ∧ ¬ p1 = 0)) (h1 : ¬ gw_bar yde P yve yow C s t = 0 → post (gw_bar yde P yve yow C s t) (nI (gw_d y), ydp, ylm, yde, yve, ypa, yow, yla, ycl, ypr, ypi, yar, yva, yfr, yma, ydo, yro)) (h0 : gw_bar yde P yve yow C s t = 0 → ∀ o, gw_fr C (1 - s) = some o → post 0 (ycu, nI (m + 1), ylm, yde, yve, ypa, yow, yla, upd ycl o (nI ((6 * (1 - s) + t % 6) % 6)), if j = 0 then upd ypr o (-1) else upd (upd ypr o (-1)) y (nI o), upd ypi o 0, upd yar o 1, gw_cv P yow (6 * (1 - s) + t % 6) yva o 0, upd yfr m (nI y), upd yma m (nI o), upd ydo m 0, yro)) : wpY_begin post (ycu, ydp, ylm, yde, yve, ypa, yow, yla, ycl, ypr, ypi, yar, yva, yfr, yma, ydo, yro) (nI y) p1 := by
  subst hd
  unfold wpY_begin; dsimp only
  have hv := hO.1 y hy'
  rw [hc, hs] at hv
  have tv := hv t rfl
  refine gy_obst hC hy hO ht hs hy' hc (br_c (fun hb => ⟨gw_16, ?_⟩) (fun hb => gy_id hy' (h1 hb)))
  rw [gw_q16 (by omega), hs, gw_s1 (by omega)]
  refine gy_free hO.1 ht (by omega) ⟨vp_in_nI hy' (by omega), ?_⟩
  cases hf : gw_fr C (1 - s) with
  | none =>
    unfold gw_bar at hb
    by_cases hmf : gw_mf yde P yve yow t (6 * (1 - s) + t % 6) = 0
    · rw [if_pos hmf, if_pos hf] at hb; exact absurd hb (by decide)
    · rw [if_neg hmf] at hb; exact absurd hb hmf
  | some o =>
    obtain ⟨f1, f2, f3⟩ := gw_fr_p hf
    have ho : o < 32 := by omega
    have hmf : gw_mf yde P yve yow t (6 * (1 - s) + t % 6) = 0 := by
      unfold gw_bar at hb
      by_cases hmf : gw_mf yde P yve yow t (6 * (1 - s) + t % 6) = 0
      · exact hmf
      · rw [if_neg hmf] at hb; exact absurd hb hmf
    have hDr := (gw_mf_0 hmf).1
    have hvr : gw_v yde (o / 16) (some (6 * (1 - s) + t % 6)) := gw_v_mk (by omega) (by omega) hDr
    have hp := h0 hb o hf
    rw [nI_clamp (by omega), ht y hy', hc]
    have ec : gw_c (some t) = nI ((6 * (1 - s) + t % 6) % 6) := congrArg nI (by omega)
    rw [ec]
    have io : vp_in (nI o) 32 := vp_in_nI ho (by omega)
    have eo : (nI o).toNatClampNeg = o := nI_clamp (by omega)
    have im : vp_in (nI m) 40 := vp_in_nI hm (by omega)
    have em : (nI m).toNatClampNeg = m := nI_clamp (by omega)
    refine gy_create hC hy ho hvr ⟨io, nm_r (by rw [show gw_o (some o) = nI o from rfl, eo, gw_n1]) ?_⟩
    have h72 : ∀ ypr2, post 0 (ycu, nI (m + 1), ylm, yde, yve, ypa, yow, yla, upd ycl o (nI ((6 * (1 - s) + t % 6) % 6)), ypr2, upd ypi o 0, upd yar o 1, gw_cv P yow (6 * (1 - s) + t % 6) yva o 0, upd yfr m (nI y), upd yma m (nI o), upd ydo m 0, yro) → wY_begin_72 post (nI y) (nI o) ycu (nI m) ylm yde yve ypa yow yla (upd ycl o (nI ((6 * (1 - s) + t % 6) % 6))) ypr2 (upd ypi o 0) (upd yar o 1) (gw_cv P yow (6 * (1 - s) + t % 6) yva o 0) yfr yma ydo yro := fun ypr2 hq =>
      ⟨im, nm_r (by rw [em]) ⟨im, nm_r (by rw [em]) ⟨im, nm_r (by rw [em]) (nm_r (nI_1 m) hq)⟩⟩⟩
    have h64 : ¬ j = 0 → wY_begin_64 post (nI y) (nI o) ycu (nI m) ylm yde yve ypa yow yla (upd ycl o (nI ((6 * (1 - s) + t % 6) % 6))) (upd ypr o (-1)) (upd ypi o 0) (upd yar o 1) (gw_cv P yow (6 * (1 - s) + t % 6) yva o 0) yfr yma ydo yro := fun hj0 => by
      rw [if_neg hj0] at hp
      exact ⟨vp_in_nI hy' (by omega), nm_r (by rw [nI_clamp (by omega)]) (h72 _ hp)⟩
    refine pk_lt 0 m (fun h => h64 (fun z => by have := (hj.mp z).1; omega)) (fun h => br_c (fun hp1 => h64 (fun z => (hj.mp z).2 hp1)) (fun hp1 => ?_))
    have hj0 := hj.mpr ⟨by omega, hp1⟩
    rw [if_pos hj0] at hp
    exact h72 _ hp
theorem gy_give (hC : gw_C yde yow P L) (hy : gy_C yde P L ypa yla) (hO : gw_O yde P yow C S T F) (ht : gy_t C ycl) {post : SY → Prop} {s y o d t r e m : Nat} {x : Int64} (hy' : y < 32) (hs : y / 16 = s) (ho : o < 32) (cy : C y = some t) (co : C o = some r) (hr : r = 6 * (1 - s) + t % 6) (hd : d < 30) (hm : m < 40) (f1 : yfr m = nI y) (f2 : yma m = nI o) (f3 : ydo m = nI d) (he : gw_an P (2 - d / 10) (some t) = some e) (h1 : gw_in P r (6 * (r / 6) + e % 6) → ¬ yow (10 * (6 * (r / 6) + e % 6) + d % 10) = -1 → post (ycu, ydp, ylm, yde, yve, ypa, yow, yla, ycl, ypr, ypi, yar, vp_updL yva (10 * o + d % 10) x, yfr, yma, upd ydo m (nI (d + 1)), yro)) (h0 : ¬ (gw_in P r (6 * (r / 6) + e % 6) ∧ ¬ yow (10 * (6 * (r / 6) + e % 6) + d % 10) = -1) → post (ycu, ydp, ylm, yde, yve, ypa, yow, yla, ycl, ypr, ypi, yar, yva, yfr, yma, upd ydo m (nI (d + 1)), yro)) : wpY_give post (ycu, ydp, ylm, yde, yve, ypa, yow, yla, ycl, ypr, ypi, yar, yva, yfr, yma, ydo, yro) (nI m) x := by
  have hv := hO.1 y hy'
  rw [cy, hs] at hv
  have tv := hv t rfl
  have hvr := hO.1 o ho
  rw [co] at hvr
  have rv := hvr r rfl
  have et : 6 * s + t % 6 = t := by omega
  have er : r / 6 = 1 - s := by omega
  have im : vp_in (nI m) 40 := vp_in_nI hm (by omega)
  have em : (nI m).toNatClampNeg = m := nI_clamp (by omega)
  have iy : vp_in (nI y) 32 := vp_in_nI hy' (by omega)
  have h111 : ∀ yva2, post (ycu, ydp, ylm, yde, yve, ypa, yow, yla, ycl, ypr, ypi, yar, yva2, yfr, yma, upd ydo m (nI (d + 1)), yro) → wY_give_111 post (nI m) ycu ydp ylm yde yve ypa yow yla ycl ypr ypi yar yva2 yfr yma ydo yro := fun yva2 hp => ⟨im, im, nm_r (by rw [em, f3, nI_1]) hp⟩
  refine ⟨im, nm_r (e' := nI y) (by rw [em, f1]) ⟨im, nm_r (e' := nI o) (by rw [em, f2]) ⟨gw_16, nm_r (e' := nI s) (by rw [gw_q16 (by omega), hs]) (nm_r (gw_s1 (by omega)) ⟨im, gw_10, nm_r (e' := nI (d % 10)) (by rw [em, f3]; exact gw_m10 (by omega)) ⟨iy, im, gw_10, ?_⟩⟩)⟩⟩⟩
  rw [em, f3, nI_clamp (by omega), ht y hy', cy, show 2 - nI d / 10 = nI (2 - d / 10) by rw [gw_q10 (by omega), gw_s2 (by omega)]]
  refine gy_chain hC hy (by omega) (by omega) (by rw [et]; exact hv) ⟨iy, ?_⟩
  rw [et, he]
  have ev := gw_v_an hC _ _ hv e he
  have hvr2 : gw_v yde (1 - s) (some (6 * (1 - s) + t % 6)) := by rw [← hr]; exact gw_v_mk rv.1 (by omega) rv.2.2
  refine gy_inChain hC hy (by omega) (by omega) (e := e) (by omega) rfl hvr2 (fun hin => br_f (by decide) (gy_own (by omega) (by omega) (by omega) ?_)) (fun hin => br_t rfl (h111 _ (h0 (fun z => hin ?_))))
  · rw [← hr, ← er] at hin
    rw [← er]
    by_cases hk : yow (10 * (6 * (r / 6) + e % 6) + d % 10) = -1
    · exact br_t (by rw [hk]; decide) (h111 _ (h0 (fun z => z.2 hk)))
    · obtain ⟨q, q1, q2⟩ := hC.2.1 _ (by omega) hk
      refine br_f (by rw [q2]; exact gw_p0 (by omega)) ⟨by rw [gw_e7]; exact vp_in_nI (by omega) (by omega), nm_r (by rw [gw_e7, nI_clamp (by omega)]) (h111 _ (h1 hin hk))⟩
  · rw [← hr, ← er]; exact z.1
def gy_top (yfr yma ydo : Nat → Int32) (m y o d : Nat) : Prop := yfr m = nI y ∧ yma m = nI o ∧ ydo m = nI d
/-- the next place of the top frame, seen to its kind -/
theorem gy_g128 (hC : gw_C yde yow P L) (hy : gy_C yde P L ypa yla) (hO : gw_O yde P yow C S T F) (ht : gy_t C ycl) {post : Int32 → SY → Prop} {s y o d t m : Nat} {p0 : Int32} (hy' : y < 32) (hs : y / 16 = s) (cy : C y = some t) (hd : d < 30) (hm : m < 40) (hdp : ydp = nI (m + 1)) (hT : gy_top yfr yma ydo m y o d) (h0 : gw_an P (2 - d / 10) (some t) = none → wY_goOn_128 post p0 (nI m) (nI y) (nI (d % 10)) (-1) ycu ydp ylm yde yve ypa yow yla ycl ypr ypi yar yva yfr yma ydo yro) (h1 : ∀ e, e < 12 → gw_an P (2 - d / 10) (some t) = some e → wY_goOn_128 post p0 (nI m) (nI y) (nI (d % 10)) (yow (10 * e + d % 10)) ycu ydp ylm yde yve ypa yow yla ycl ypr ypi yar yva yfr yma ydo yro) : wpY_goOn post (ycu, ydp, ylm, yde, yve, ypa, yow, yla, ycl, ypr, ypi, yar, yva, yfr, yma, ydo, yro) p0 := by
  obtain ⟨f1, f2, f3⟩ := hT
  have hv := hO.1 y hy'
  rw [cy, hs] at hv
  have tv := hv t rfl
  have et : 6 * s + t % 6 = t := by omega
  have im : vp_in (nI m) 40 := vp_in_nI hm (by omega)
  have em : (nI m).toNatClampNeg = m := nI_clamp (by omega)
  have iy : vp_in (nI y) 32 := vp_in_nI hy' (by omega)
  refine nm_r (e' := nI m) (by rw [hdp, nI_pred]) ⟨im, nm_r (e' := nI y) (by rw [em, f1]) ⟨im, nm_r (e' := nI o) (by rw [em, f2]) ⟨im, nm_r (e' := nI d) (by rw [em, f3]) (br_f (fun z => ?_) ⟨gw_16, nm_r (e' := nI s) (by rw [gw_q16 (by omega), hs]) ⟨iy, gw_10, ?_⟩⟩)⟩⟩⟩
  · have z' : nI d = nI 30 := z
    rw [nI_eq (by omega) (by omega)] at z'
    omega
  · rw [nI_clamp (by omega), ht y hy', cy, show 2 - nI d / 10 = nI (2 - d / 10) by rw [gw_q10 (by omega), gw_s2 (by omega)]]
    refine gy_chain hC hy (by omega) (by omega) (by rw [et]; exact hv) ⟨gw_10, nm_r (gw_m10 (by omega)) ?_⟩
    rw [et]
    cases he : gw_an P (2 - d / 10) (some t) with
    | none => exact br_f (by decide) (h0 he)
    | some e =>
      have ev := gw_v_an hC _ _ hv e he
      refine br_t (nI_pos' (by omega)) (gy_own (by omega) (by omega) (by omega) ?_)
      rw [show 6 * s + e % 6 = e by omega]
      exact h1 e ev.1 he
theorem gy_gs (hC : gw_C yde yow P L) (hy : gy_C yde P L ypa yla) (hO : gw_O yde P yow C S T F) (ht : gy_t C ycl) {post : Int32 → SY → Prop} {s y o d t m : Nat} {p0 : Int32} (hy' : y < 32) (hs : y / 16 = s) (cy : C y = some t) (hd : d < 30) (hm : m < 40) (hdp : ydp = nI (m + 1)) (hT : gy_top yfr yma ydo m y o d) (hn : ∀ e, gw_an P (2 - d / 10) (some t) = some e → yow (10 * e + d % 10) = -1) (hp : post 0 (ycu, ydp, ylm, yde, yve, ypa, yow, yla, ycl, ypr, ypi, yar, yva, yfr, yma, upd ydo m (nI (d + 1)), yro)) : wpY_goOn post (ycu, ydp, ylm, yde, yve, ypa, yow, yla, ycl, ypr, ypi, yar, yva, yfr, yma, ydo, yro) p0 := by
  have im : vp_in (nI m) 40 := vp_in_nI hm (by omega)
  have em : (nI m).toNatClampNeg = m := nI_clamp (by omega)
  have go : wY_goOn_128 post p0 (nI m) (nI y) (nI (d % 10)) (-1) ycu ydp ylm yde yve ypa yow yla ycl ypr ypi yar yva yfr yma ydo yro := br_f (by decide) (br_t (by decide) ⟨im, im, nm_r (by rw [em, hT.2.2, nI_1]) hp⟩)
  exact gy_g128 hC hy hO ht hy' hs cy hd hm hdp hT (fun _ => go) (fun e _ he => by rw [hn e he]; exact go)
theorem gy_gc (hC : gw_C yde yow P L) (hy : gy_C yde P L ypa yla) (hO : gw_O yde P yow C S T F) (ht : gy_t C ycl) (hv' : gy_v P yow C T F yva) (hS : gy_s S ypr) {post : Int32 → SY → Prop} {s y o d t r e m : Nat} {p0 : Int32} (hy' : y < 32) (hs : y / 16 = s) (ho : o < 32) (cy : C y = some t) (co : C o = some r) (hr : r = 6 * (1 - s) + t % 6) (hd : d < 30) (hm : m < 40) (hdp : ydp = nI (m + 1)) (hT : gy_top yfr yma ydo m y o d) (he : gw_an P (2 - d / 10) (some t) = some e) (hk : ¬ yow (10 * e + d % 10) = -1) (hz : yow (10 * e + d % 10) = 4 → ∀ z, T (10 * y + d % 10) = some z → S z ≠ none) (h1 : ∀ x, x = (if gw_kd P yow t (d % 10) = 4 then (gw_o ((T (10 * y + d % 10)).bind S)).toInt64 else F (10 * y + d % 10)) → gw_in P r (6 * (r / 6) + e % 6) → ¬ yow (10 * (6 * (r / 6) + e % 6) + d % 10) = -1 → post 0 (ycu, ydp, ylm, yde, yve, ypa, yow, yla, ycl, ypr, ypi, yar, vp_updL yva (10 * o + d % 10) x, yfr, yma, upd ydo m (nI (d + 1)), yro)) (h0 : ¬ (gw_in P r (6 * (r / 6) + e % 6) ∧ ¬ yow (10 * (6 * (r / 6) + e % 6) + d % 10) = -1) → post 0 (ycu, ydp, ylm, yde, yve, ypa, yow, yla, ycl, ypr, ypi, yar, yva, yfr, yma, upd ydo m (nI (d + 1)), yro)) : wpY_goOn post (ycu, ydp, ylm, yde, yve, ypa, yow, yla, ycl, ypr, ypi, yar, yva, yfr, yma, ydo, yro) p0 := by
  have hv := hO.1 y hy'
  rw [cy, hs] at hv
  have tv := hv t rfl
  have ev := gw_v_an hC _ _ hv e he
  have hcy : C y ≠ none := by rw [cy]; simp
  have kk := hC.2.2.2.1 t tv.1 tv.2.2 e (d % 10) ⟨2 - d / 10, by omega, he⟩ (by omega) hk
  have b7 := gw_e7 y (d % 10)
  have i7 : vp_in (10 * nI y + nI (d % 10)) 320 := by rw [b7]; exact vp_in_nI (by omega) (by omega)
  have hval := hv' y (d % 10) t hy' (by omega) cy
  have give : ∀ x, x = (if gw_kd P yow t (d % 10) = 4 then (gw_o ((T (10 * y + d % 10)).bind S)).toInt64 else F (10 * y + d % 10)) → wpY_give (fun u => match u with | (ycu59, ydp59, ylm59, yde59, yve59, ypa59, yow59, yla59, ycl59, ypr59, ypi59, yar59, yva59, yfr59, yma59, ydo59, yro59) => (post 0 (ycu59, ydp59, ylm59, yde59, yve59, ypa59, yow59, yla59, ycl59, ypr59, ypi59, yar59, yva59, yfr59, yma59, ydo59, yro59))) (ycu, ydp, ylm, yde, yve, ypa, yow, yla, ycl, ypr, ypi, yar, yva, yfr, yma, ydo, yro) (nI m) x := fun x hx =>
    gy_give hC hy hO ht hy' hs ho cy co hr hd hm hT.1 hT.2.1 hT.2.2 he (fun a b => h1 x hx a b) (fun a => h0 a)
  have g202 : yow (10 * e + d % 10) = 4 ∧ T (10 * y + d % 10) = none ∨ ¬ yow (10 * e + d % 10) = 4 → wY_goOn_202 post (nI m) (nI y) (nI (d % 10)) (yow (10 * e + d % 10)) ycu ydp ylm yde yve ypa yow yla ycl ypr ypi yar yva yfr yma ydo yro := fun hh => by
    obtain ⟨q, q1, q2⟩ := hC.2.1 _ (by omega) hk
    refine br_f (by rw [q2]; exact gw_p0 (by omega)) ⟨i7, ?_⟩
    rw [b7, nI_clamp (by omega)]
    refine give _ ?_
    rw [hval]
    rcases hh with ⟨a, b⟩ | a
    · rw [if_pos (kk.trans a), if_pos (kk.trans a), b]; rfl
    · rw [if_neg (fun z => a (kk.symm.trans z)), if_neg (fun z => a (kk.symm.trans z))]
  refine gy_g128 hC hy hO ht hy' hs cy hd hm hdp hT (fun z => by rw [he] at z; exact absurd z (by simp)) (fun e' he12 he' => ?_)
  rw [he] at he'
  cases he'
  refine br_c (fun h4 => ⟨i7, ?_⟩) (fun h4 => g202 (Or.inr h4))
  rw [b7, nI_clamp (by omega), hval, if_pos (kk.trans h4)]
  cases hTz : T (10 * y + d % 10) with
  | none => exact br_t gw_tl0 (g202 (Or.inl ⟨h4, hTz⟩))
  | some z =>
    have hz32 := (hO.2.2.2 y _ z hy' (by omega) hcy hTz).1
    refine br_f (gw_tln (by omega)) ⟨by rw [← b7]; exact i7, nm_r (gw_toI (by omega)) ⟨vp_in_nI hz32 (by omega), ?_⟩⟩
    rw [nI_clamp (by omega), hS z hz32]
    cases hSz : S z with
    | none => exact absurd hSz (hz h4 z hTz)
    | some q =>
      have hq := (hO.2.1 z q hz32 hSz).1
      refine br_t (nI_pos' (by omega)) ⟨vp_in_nI hz32 (by omega), give _ ?_⟩
      rw [if_pos (kk.trans h4), hTz]
      show _ = (gw_o (S z)).toInt64
      rw [hSz]
theorem gy_gb (hC : gw_C yde yow P L) (hy : gy_C yde P L ypa yla) (hO : gw_O yde P yow C S T F) (ht : gy_t C ycl) (hv' : gy_v P yow C T F yva) (hS : gy_s S ypr) {post : Int32 → SY → Prop} {s y o d t e z m : Nat} {p0 : Int32} (hy' : y < 32) (hs : y / 16 = s) (cy : C y = some t) (hd : d < 30) (hm : m < 40) (hdp : ydp = nI (m + 1)) (hT : gy_top yfr yma ydo m y o d) (he : gw_an P (2 - d / 10) (some t) = some e) (hk : yow (10 * e + d % 10) = 4) (hTz : T (10 * y + d % 10) = some z) (hSz : S z = none) (hp : wpY_begin (fun r u => match u with | (ycu102, ydp102, ylm102, yde102, yve102, ypa102, yow102, yla102, ycl102, ypr102, ypi102, yar102, yva102, yfr102, yma102, ydo102, yro102) => (post r (ycu102, ydp102, ylm102, yde102, yve102, ypa102, yow102, yla102, ycl102, ypr102, ypi102, yar102, yva102, yfr102, yma102, ydo102, yro102))) (ycu, ydp, ylm, yde, yve, ypa, yow, yla, ycl, ypr, ypi, yar, yva, yfr, yma, ydo, yro) (nI z) p0) : wpY_goOn post (ycu, ydp, ylm, yde, yve, ypa, yow, yla, ycl, ypr, ypi, yar, yva, yfr, yma, ydo, yro) p0 := by
  have hv := hO.1 y hy'
  rw [cy, hs] at hv
  have tv := hv t rfl
  have hcy : C y ≠ none := by rw [cy]; simp
  have kk := hC.2.2.2.1 t tv.1 tv.2.2 e (d % 10) ⟨2 - d / 10, by omega, he⟩ (by omega) (by rw [hk]; decide)
  have b7 := gw_e7 y (d % 10)
  have i7 : vp_in (10 * nI y + nI (d % 10)) 320 := by rw [b7]; exact vp_in_nI (by omega) (by omega)
  have hval := hv' y (d % 10) t hy' (by omega) cy
  have hz32 := (hO.2.2.2 y _ z hy' (by omega) hcy hTz).1
  refine gy_g128 hC hy hO ht hy' hs cy hd hm hdp hT (fun z => by rw [he] at z; exact absurd z (by simp)) (fun e' he12 he' => ?_)
  rw [he] at he'
  cases he'
  refine br_t hk ⟨i7, ?_⟩
  rw [b7, nI_clamp (by omega), hval, if_pos (kk.trans hk), hTz]
  refine br_f (gw_tln (by omega)) ⟨by rw [← b7]; exact i7, nm_r (gw_toI (by omega)) ⟨vp_in_nI hz32 (by omega), ?_⟩⟩
  rw [nI_clamp (by omega), hS z hz32, hSz]
  exact br_f (by decide) hp
/-- the last frame is done -/
theorem gy_gl {post : Int32 → SY → Prop} {y o d : Nat} {p0 : Int32} (hd : d = 30) (hdp : ydp = nI 1) (hT : gy_top yfr yma ydo 0 y o d) (hp : post 0 (ycu, 0, nI o, yde, yve, ypa, yow, yla, ycl, ypr, ypi, yar, yva, yfr, yma, ydo, yro)) : wpY_goOn post (ycu, ydp, ylm, yde, yve, ypa, yow, yla, ycl, ypr, ypi, yar, yva, yfr, yma, ydo, yro) p0 := by
  obtain ⟨f1, f2, f3⟩ := hT
  have im : vp_in (nI 0) 40 := vp_in_nI (by omega) (by omega)
  have em : (nI 0).toNatClampNeg = 0 := nI_clamp (by omega)
  refine nm_r (e' := nI 0) (by rw [hdp]; exact nI_pred 0) ⟨im, nm_r (e' := nI y) (by rw [em, f1]) ⟨im, nm_r (e' := nI o) (by rw [em, f2]) ⟨im, nm_r (e' := nI d) (by rw [em, f3]) (br_t (by rw [hd]; rfl) (nm_r (e' := nI 0) (by rw [hdp]; exact nI_pred 0) (br_t (by decide) hp)))⟩⟩⟩
/-- a frame is done, and its object given to the one below -/
theorem gy_gp {post : Int32 → SY → Prop} {y o d m : Nat} {p0 : Int32} (hd : d = 30) (hm : m + 1 < 40) (hdp : ydp = nI (m + 2)) (hT : gy_top yfr yma ydo (m + 1) y o d) (hp : wpY_give (fun u => match u with | (ycu122, ydp122, ylm122, yde122, yve122, ypa122, yow122, yla122, ycl122, ypr122, ypi122, yar122, yva122, yfr122, yma122, ydo122, yro122) => (post 0 (ycu122, ydp122, ylm122, yde122, yve122, ypa122, yow122, yla122, ycl122, ypr122, ypi122, yar122, yva122, yfr122, yma122, ydo122, yro122))) (ycu, nI (m + 1), nI o, yde, yve, ypa, yow, yla, ycl, ypr, ypi, yar, yva, yfr, yma, ydo, yro) (nI m) (nI o).toInt64) : wpY_goOn post (ycu, ydp, ylm, yde, yve, ypa, yow, yla, ycl, ypr, ypi, yar, yva, yfr, yma, ydo, yro) p0 := by
  obtain ⟨f1, f2, f3⟩ := hT
  have im : vp_in (nI (m + 1)) 40 := vp_in_nI hm (by omega)
  have em : (nI (m + 1)).toNatClampNeg = m + 1 := nI_clamp (by omega)
  refine nm_r (e' := nI (m + 1)) (by rw [hdp]; exact nI_pred (m + 1)) ⟨im, nm_r (e' := nI y) (by rw [em, f1]) ⟨im, nm_r (e' := nI o) (by rw [em, f2]) ⟨im, nm_r (e' := nI d) (by rw [em, f3]) (br_t (by rw [hd]; rfl) (nm_r (e' := nI (m + 1)) (by rw [hdp]; exact nI_pred (m + 1)) (br_f (nI_nle (by omega) (by omega)) ?_)))⟩⟩⟩
  rw [nI_pred]
  exact hp
end
end
end
section
/-! send: the frames, what a step keeps, undoing -/
section
def gx_ch (so nf rn : Nat → Int32) : Int32 → List (Nat × Nat × Nat) → Prop
  | x, [] => x = -1
  | x, f :: st => gx_top x so nf f.1 f.2.1 f.2.2 ∧ gx_ch so nf rn (rn (gw_d f.2.1)) st
def gy_ch (fr ma dn : Nat → Int32) : Nat → List (Nat × Nat × Nat) → Prop
  | n, [] => n = 0
  | n, f :: st => ∃ m, n = m + 1 ∧ gy_top fr ma dn m f.1 f.2.1 f.2.2 ∧ gy_ch fr ma dn m st
def gw_fv (D : Nat → Int32) (P : Nat → Option Nat) (V K : Nat → Int32) (C : Nat → Option Nat) (A : Nat → Bool) (s : Nat) (f : Nat × Nat × Nat) : Prop := f.1 < 32 ∧ f.1 / 16 = s ∧ f.2.1 < 32 ∧ f.2.1 / 16 = 1 - s ∧ f.2.2 ≤ 30 ∧ A f.2.1 = true ∧ ∃ t, C f.1 = some t ∧ C f.2.1 = some (6 * (1 - s) + t % 6) ∧ gw_mf D P V K t (6 * (1 - s) + t % 6) = 0
def gw_nd : List (Nat × Nat × Nat) → Prop
  | [] => True
  | f :: st => (∀ g, g ∈ st → g.2.1 ≠ f.2.1) ∧ gw_nd st
def gw_wa (P : Nat → Option Nat) (K : Nat → Int32) (C S T : Nat → Option Nat) (f : Nat × Nat × Nat) (q : Nat) : Prop := f.2.2 < 30 ∧ ∃ t e z, C f.1 = some t ∧ gw_an P (2 - f.2.2 / 10) (some t) = some e ∧ K (10 * e + f.2.2 % 10) = 4 ∧ T (10 * f.1 + f.2.2 % 10) = some z ∧ S z = some q
def gw_wt (P : Nat → Option Nat) (K : Nat → Int32) (C S T : Nat → Option Nat) : Nat → List (Nat × Nat × Nat) → Prop
  | _, [] => True
  | q, f :: st => gw_wa P K C S T f q ∧ gw_wt P K C S T f.2.1 st
def gw_bt : Nat → List (Nat × Nat × Nat) → Prop
  | _, [] => False
  | o, f :: st => (st = [] ∧ f.2.1 = o) ∨ gw_bt o st
def gw_fm : List (Nat × Nat × Nat) → Nat
  | [] => 0
  | f :: st => (31 - f.2.2) + gw_fm st
def gw_A (C S T : Nat → Option Nat) (A : Nat → Bool) (s : Nat) : Prop := (∀ o, o < 32 → A o = true → o / 16 = 1 - s ∧ S o = none) ∧ (∀ o n z, o < 32 → n < 10 → A o = false → C o ≠ none → T (10 * o + n) = some z → A z = false)
def gx_A (A : Nat → Bool) (a : Nat → Int32) : Prop := (∀ o, o < 32 → (a (gw_d o) = -1 ↔ A o = false)) ∧ ∀ i, 16 ≤ i → i < 32 → a i = -1
def gy_A (A : Nat → Bool) (a : Nat → Int32) : Prop := ∀ o, o < 32 → (a o = 0 ↔ A o = false)
def gw_fc (C : Nat → Option Nat) (s : Nat) : Nat := gw_cn (fun n => (C (16 * (1 - s) + n)).isNone) 16
/-- all that holds within a sending, the frames below the top being w -/
def gs_I (D : Nat → Int32) (P : Nat → Option Nat) (V K : Nat → Int32) (C S T : Nat → Option Nat) (F : Nat → Int64) (A : Nat → Bool) (s : Nat) (st : List (Nat × Nat × Nat)) : Prop :=
  gw_O D P K C S T F ∧ gw_A C S T A s ∧ (∀ f, f ∈ st → gw_fv D P V K C A s f) ∧ gw_nd st ∧ (∀ f w, st = f :: w → gw_wt P K C S T f.2.1 w) ∧ st.length + gw_fc C s ≤ 16
variable {D V K B : Nat → Int32} {P L C S T : Nat → Option Nat} {F : Nat → Int64} {A : Nat → Bool}
theorem gx_ch_k {so nf rn so' nf' rn' : Nat → Int32} : ∀ (st : List (Nat × Nat × Nat)) (x : Int32), (∀ f, f ∈ st → so' (gw_d f.2.1) = so (gw_d f.2.1) ∧ nf' (gw_d f.2.1) = nf (gw_d f.2.1) ∧ rn' (gw_d f.2.1) = rn (gw_d f.2.1)) → gx_ch so nf rn x st → gx_ch so' nf' rn' x st := by
  intro st
  induction st with
  | nil => intro x _ h; exact h
  | cons f st ih =>
    intro x hh h
    obtain ⟨⟨a, b, c⟩, d⟩ := h
    obtain ⟨h1, h2, h3⟩ := hh f (List.mem_cons_self ..)
    refine ⟨⟨a, h1.trans b, h2.trans c⟩, ?_⟩
    rw [h3]
    exact ih _ (fun g hg => hh g (List.mem_cons_of_mem _ hg)) d
theorem gy_ch_k {fr ma dn fr' ma' dn' : Nat → Int32} : ∀ (st : List (Nat × Nat × Nat)) (n : Nat), (∀ i, i < n → fr' i = fr i ∧ ma' i = ma i ∧ dn' i = dn i) → gy_ch fr ma dn n st → gy_ch fr' ma' dn' n st := by
  intro st
  induction st with
  | nil => intro n _ h; exact h
  | cons f st ih =>
    intro n hh h
    obtain ⟨m, rfl, ⟨a, b, c⟩, d⟩ := h
    obtain ⟨h1, h2, h3⟩ := hh m (by omega)
    exact ⟨m, rfl, ⟨h1.trans a, h2.trans b, h3.trans c⟩, ih m (fun i hi => hh i (by omega)) d⟩
theorem gy_ch_l {fr ma dn : Nat → Int32} : ∀ (st : List (Nat × Nat × Nat)) (n : Nat), gy_ch fr ma dn n st → n = st.length := by
  intro st
  induction st with
  | nil => intro n h; exact h
  | cons f st ih =>
    intro n h
    obtain ⟨m, rfl, _, d⟩ := h
    rw [ih m d]; rfl
theorem gw_wt_k {S' T' C' : Nat → Option Nat} : ∀ (st : List (Nat × Nat × Nat)) (q : Nat), (∀ f, f ∈ st → C' f.1 = C f.1 ∧ (∀ n, n < 10 → T' (10 * f.1 + n) = T (10 * f.1 + n)) ∧ ∀ n z q, n < 10 → T (10 * f.1 + n) = some z → S z = some q → S' z = some q) → gw_wt P K C S T q st → gw_wt P K C' S' T' q st := by
  intro st
  induction st with
  | nil => intro q _ h; exact h
  | cons f st ih =>
    intro q hh h
    obtain ⟨⟨a, t, e, z, b1, b2, b3, b4, b5⟩, c⟩ := h
    obtain ⟨h1, h2, h3⟩ := hh f (List.mem_cons_self ..)
    exact ⟨⟨a, t, e, z, h1.trans b1, b2, b3, (h2 _ (by omega)).trans b4, h3 _ z q (by omega) b4 b5⟩, ih _ (fun g hg => hh g (List.mem_cons_of_mem _ hg)) c⟩
/-! an object begun -/
theorem gw_O_S (h : gw_O D P K C S T F) {y o : Nat} (ho : o < 32) (hs : o / 16 ≠ y / 16) (cy : C y ≠ none) (co : C o ≠ none) : gw_O D P K C (gw_u S y (some o)) T F := by
  refine ⟨h.1, fun p q hp hq => ?_, h.2.2.1, h.2.2.2⟩
  by_cases e : p = y
  · rw [e, gw_us] at hq
    injection hq with hq
    subst hq
    rw [e]
    exact ⟨ho, hs, cy, co⟩
  · rw [gw_un e] at hq; exact h.2.1 p q hp hq
theorem gw_fc_u {s o r : Nat} (hs : s < 2) (h1 : 16 * (1 - s) ≤ o) (h2 : o < 16 * (1 - s) + 16) (hc : C o = none) : gw_fc (gw_u C o (some r)) s < gw_fc C s := by
  refine gw_cn_s (m := o - 16 * (1 - s)) ?_ ?_ 16 (by omega) (fun n hn h => ?_)
  · show ¬ (gw_u C o (some r) (16 * (1 - s) + (o - 16 * (1 - s)))).isNone = true
    rw [show 16 * (1 - s) + (o - 16 * (1 - s)) = o by omega, gw_us]
    simp
  · show (C (16 * (1 - s) + (o - 16 * (1 - s)))).isNone = true
    rw [show 16 * (1 - s) + (o - 16 * (1 - s)) = o by omega, hc]
    rfl
  · by_cases e : 16 * (1 - s) + n = o
    · rw [e, hc]
      rfl
    · rw [gw_un e] at h
      exact h
theorem gs_beg (hC : gw_C D K P L) {s y o t : Nat} {j : Int32} {st : List (Nat × Nat × Nat)} (I : gs_I D P V K C S T F A s st) (hs : s < 2) (hy : y < 32) (hys : y / 16 = s) (cy : C y = some t) (hb : gw_bar D P V K C s t = 0) (hf : gw_fr C (1 - s) = some o) (hw : ∀ f w, st = f :: w → ¬ j = 0 ∧ S y = none ∧ f.2.2 < 30 ∧ ∃ t e, C f.1 = some t ∧ gw_an P (2 - f.2.2 / 10) (some t) = some e ∧ K (10 * e + f.2.2 % 10) = 4 ∧ T (10 * f.1 + f.2.2 % 10) = some y) : gs_I D P V K (gw_u C o (some (6 * (1 - s) + t % 6))) (if j = 0 then gw_u S o none else gw_u (gw_u S o none) y (some o)) (gw_fg T (10 * o) (10 * o + 10) none) (gw_fg F (10 * o) (10 * o + 10) 0) (gw_u A o true) s ((y, o, 0) :: st) ∧ gw_fc (gw_u C o (some (6 * (1 - s) + t % 6))) s < gw_fc C s := by
  obtain ⟨hO, hA, hfv, hnd, hwt, hlen⟩ := I
  obtain ⟨f1, f2, f3⟩ := gw_fr_p hf
  have ho : o < 32 := by omega
  have hyo : y ≠ o := by omega
  have hmf : gw_mf D P V K t (6 * (1 - s) + t % 6) = 0 := by
    unfold gw_bar at hb
    by_cases hmf : gw_mf D P V K t (6 * (1 - s) + t % 6) = 0
    · exact hmf
    · rw [if_neg hmf] at hb; exact absurd hb hmf
  have hDr := (gw_mf_0 hmf).1
  have hvr : gw_v D (o / 16) (some (6 * (1 - s) + t % 6)) := gw_v_mk (by omega) (by omega) hDr
  have hO2 := gw_O_new hO ho f3 hvr
  have hlt := gw_fc_u (r := 6 * (1 - s) + t % 6) hs f1 f2 f3
  have kC : ∀ p, C p ≠ none → gw_u C o (some (6 * (1 - s) + t % 6)) p = C p := fun p hp => gw_un (fun z => hp (by rw [z]; exact f3))
  have cyn : C y ≠ none := by rw [cy]; simp
  -- the pairs kept
  have kS : ∀ z q, z / 16 = s → S z = some q → (∀ f w, st = f :: w → z ≠ y) → st ≠ [] → (if j = 0 then gw_u S o none else gw_u (gw_u S o none) y (some o)) z = some q := fun z q hz hq hzy hne => by
    cases st with
    | nil => exact absurd rfl hne
    | cons f w =>
      rw [if_neg (hw f w rfl).1, gw_un (hzy f w rfl), gw_un (by omega)]
      exact hq
  refine ⟨⟨?_, ⟨fun p hp hAp => ?_, fun p n z hp hn hAp hcp hz => ?_⟩, fun f hfm => ?_, ⟨fun g hg => ?_, hnd⟩, fun f w hfw => ?_, ?_⟩, hlt⟩
  · by_cases hj : j = 0
    · rw [if_pos hj]; exact hO2
    · rw [if_neg hj]
      refine gw_O_S hO2 ho (by omega) (by rw [kC y cyn]; exact cyn) (by rw [gw_us]; simp)
  · have hp2 : p / 16 = 1 - s := by
      by_cases e : p = o
      · omega
      · rw [gw_un e] at hAp; exact (hA.1 p hp hAp).1
    refine ⟨hp2, ?_⟩
    have hS2 : gw_u S o none p = none := by
      by_cases e : p = o
      · rw [e, gw_us]
      · rw [gw_un e] at hAp ⊢; exact (hA.1 p hp hAp).2
    by_cases hj : j = 0
    · rw [if_pos hj]; exact hS2
    · rw [if_neg hj, gw_un (by omega)]; exact hS2
  · have e : p ≠ o := fun e => by rw [e, gw_us] at hAp; exact absurd hAp (by decide)
    rw [gw_un e] at hAp hcp
    rw [gw_fg_o (by omega)] at hz
    have hz2 := hO.2.2.2 p n z hp hn hcp hz
    rw [gw_un (fun x => hz2.2.2 (by rw [x]; exact f3))]
    exact hA.2 p n z hp hn hAp hcp hz
  · rcases List.mem_cons.mp hfm with h | h
    · subst h
      refine ⟨hy, hys, ho, by dsimp only; omega, by dsimp only; omega, gw_us, t, ?_, gw_us, hmf⟩
      dsimp only
      rw [kC y cyn]; exact cy
    · obtain ⟨a1, a2, a3, a4, a5, a6, t', a7, a8, a9⟩ := hfv f h
      refine ⟨a1, a2, a3, a4, a5, ?_, t', ?_, ?_, a9⟩
      · by_cases e : f.2.1 = o
        · rw [e, gw_us]
        · rw [gw_un e]; exact a6
      · rw [kC _ (by rw [a7]; simp)]; exact a7
      · rw [kC _ (by rw [a8]; simp)]; exact a8
  · obtain ⟨a1, a2, a3, a4, a5, a6, t', a7, a8, a9⟩ := hfv g hg
    dsimp only
    intro e
    rw [e, f3] at a8
    exact absurd a8 (by simp)
  · injection hfw with e1 e2
    subst e1 e2
    -- everything below keeps its waiting
    have keep : ∀ w q, (∀ f, f ∈ w → f ∈ st) → st ≠ [] → gw_wt P K C S T q w → gw_wt P K (gw_u C o (some (6 * (1 - s) + t % 6))) (if j = 0 then gw_u S o none else gw_u (gw_u S o none) y (some o)) (gw_fg T (10 * o) (10 * o + 10) none) q w := fun w q hsub hne h => by
      refine gw_wt_k w q (fun f hf => ?_) h
      obtain ⟨a1, a2, a3, a4, a5, a6, t', a7, a8, a9⟩ := hfv f (hsub f hf)
      refine ⟨kC _ (by rw [a7]; simp), fun n hn => gw_fg_o (by omega), fun n z q' hn hz hq => ?_⟩
      have hz2 := hO.2.2.2 f.1 n z a1 hn (by rw [a7]; simp) hz
      refine kS z q' (by omega) hq (fun f' w' hst e => ?_) hne
      rw [e, (hw f' w' hst).2.1] at hq
      exact absurd hq (by simp)
    cases st with
    | nil => trivial
    | cons g w =>
      obtain ⟨b1, b2, b3, t', e, b4, b5, b6, b7⟩ := hw g w rfl
      have hg := hfv g (List.mem_cons_self ..)
      refine ⟨⟨b3, t', e, y, ?_, b5, b6, ?_, ?_⟩, keep w _ (fun f hf => List.mem_cons_of_mem _ hf) (by simp) (hwt g w rfl)⟩
      · rw [kC _ (by rw [b4]; simp)]; exact b4
      · have := hg.1
        have := hg.2.1
        rw [gw_fg_o (by omega)]; exact b7
      · dsimp only
        rw [if_neg b1, gw_us]
  · show st.length + 1 + _ ≤ 16
    omega
/-! a place done -/
theorem gs_skip {s y o d : Nat} {w : List (Nat × Nat × Nat)} (I : gs_I D P V K C S T F A s ((y, o, d) :: w)) (hd : d < 30) : gs_I D P V K C S T F A s ((y, o, d + 1) :: w) := by
  obtain ⟨hO, hA, hfv, hnd, hwt, hlen⟩ := I
  refine ⟨hO, hA, fun f hf => ?_, hnd, fun f w' h => ?_, hlen⟩
  · rcases List.mem_cons.mp hf with h | h
    · subst h
      obtain ⟨a1, a2, a3, a4, a5, a6, a7⟩ := hfv (y, o, d) (List.mem_cons_self ..)
      exact ⟨a1, a2, a3, a4, by dsimp only; omega, a6, a7⟩
    · exact hfv f (List.mem_cons_of_mem _ h)
  · injection h with h1 h2
    subst h1 h2
    exact hwt (y, o, d) w rfl
theorem gw_O_cp (h : gw_O D P K C S T F) {o n r : Nat} {x : Option Nat} {v : Int64} (hn : n < 10) (co : C o = some r) (h1 : gw_kd P K r n ≠ 4 → x = none) (h2 : gw_kd P K r n = 4 → v = 0) (h3 : ∀ z, x = some z → z < 32 ∧ z / 16 = o / 16 ∧ C z ≠ none) : gw_O D P K C S (gw_u T (10 * o + n) x) (gw_u F (10 * o + n) v) := by
  refine ⟨h.1, h.2.1, fun p m t hp hm ht => ?_, fun p m z hp hm hc hz => ?_⟩
  · by_cases e : 10 * p + m = 10 * o + n
    · have e1 : p = o := by omega
      have e2 : m = n := by omega
      subst e1 e2
      rw [co] at ht
      cases ht
      rw [gw_us, gw_us]
      exact ⟨h1, h2⟩
    · rw [gw_un e, gw_un e]; exact h.2.2.1 p m t hp hm ht
  · by_cases e : 10 * p + m = 10 * o + n
    · have e1 : p = o := by omega
      rw [e, gw_us] at hz
      rw [e1]
      exact h3 z hz
    · rw [gw_un e] at hz; exact h.2.2.2 p m z hp hm hc hz
theorem gy_v_cp {a : Nat → Int64} (h : gy_v P K C T F a) {o n r : Nat} {x : Option Nat} {v w : Int64} (hn : n < 10) (co : C o = some r) (hw : w = if gw_kd P K r n = 4 then (gw_o x).toInt64 else v) : gy_v P K C (gw_u T (10 * o + n) x) (gw_u F (10 * o + n) v) (vp_updL a (10 * o + n) w) := fun p m t hp hm ht => by
  by_cases e : 10 * p + m = 10 * o + n
  · have e1 : p = o := by omega
    have e2 : m = n := by omega
    subst e1 e2
    rw [co] at ht
    cases ht
    rw [gw_us, gw_us, pk_uLs, hw]
  · rw [gw_un e, gw_un e, pk_uLn e]; exact h p m t hp hm ht
theorem gs_cp {s y o d n : Nat} {w : List (Nat × Nat × Nat)} {x : Option Nat} {v : Int64} (I : gs_I D P V K C S T F A s ((y, o, d) :: w)) (hn : n < 10) (hO2 : gw_O D P K C S (gw_u T (10 * o + n) x) (gw_u F (10 * o + n) v)) : gs_I D P V K C S (gw_u T (10 * o + n) x) (gw_u F (10 * o + n) v) A s ((y, o, d) :: w) := by
  obtain ⟨hO, hA, hfv, hnd, hwt, hlen⟩ := I
  obtain ⟨a1, a2, a3, a4, a5, a6, a7⟩ := hfv (y, o, d) (List.mem_cons_self ..)
  dsimp only at a1 a2 a3 a4 a5 a6
  refine ⟨hO2, ⟨hA.1, fun p m z hp hm hAp hcp hz => ?_⟩, hfv, hnd, fun f w' h => ?_, hlen⟩
  · have e : p ≠ o := fun e => by rw [e, a6] at hAp; exact absurd hAp (by decide)
    rw [gw_un (by omega)] at hz
    exact hA.2 p m z hp hm hAp hcp hz
  · refine gw_wt_k w' _ (fun g hg => ?_) (hwt f w' h)
    injection h with h1 h2
    subst h2
    obtain ⟨b1, b2, b3, _⟩ := hfv g (List.mem_cons_of_mem _ hg)
    exact ⟨rfl, fun m hm => gw_un (by omega), fun m z q hm hz hq => hq⟩
theorem gs_pop {s : Nat} {f : Nat × Nat × Nat} {w : List (Nat × Nat × Nat)} (I : gs_I D P V K C S T F A s (f :: w)) : gs_I D P V K C S T F A s w := by
  obtain ⟨hO, hA, hfv, hnd, hwt, hlen⟩ := I
  refine ⟨hO, hA, fun g hg => hfv g (List.mem_cons_of_mem _ hg), hnd.2, fun g w' h => ?_, ?_⟩
  · subst h
    exact (hwt f _ rfl).2
  · have : (f :: w).length = w.length + 1 := rfl
    omega
/-! undoing -/
def gw_ua (C : Nat → Option Nat) (A : Nat → Bool) : Nat → Option Nat := fun o => if A o = true then none else C o
theorem gw_O_ua (hO : gw_O D P K C S T F) {s : Nat} (hA : gw_A C S T A s) (hs : s < 2) : gw_O D P K (gw_ua C A) (gw_fg S (16 * s) (16 * s + 16) none) T F := by
  have le : ∀ o t, gw_ua C A o = some t → C o = some t := fun o t h => by
    unfold gw_ua at h
    by_cases c : A o = true
    · rw [if_pos c] at h; exact absurd h (by simp)
    · rw [if_neg c] at h; exact h
  have nA : ∀ o, gw_ua C A o ≠ none → A o = false ∧ C o ≠ none := fun o h => by
    unfold gw_ua at h
    by_cases c : A o = true
    · rw [if_pos c] at h; exact absurd rfl h
    · rw [if_neg c] at h
      exact ⟨by cases hh : A o; rfl; exact absurd hh c, h⟩
  have kp : ∀ o, A o = false → C o ≠ none → gw_ua C A o ≠ none := fun o h c => by
    unfold gw_ua
    rw [if_neg (by rw [h]; decide)]
    exact c
  have fa : ∀ o, ¬ A o = true → A o = false := fun o h => by cases hh : A o; rfl; exact absurd hh h
  refine ⟨fun o ho t h => hO.1 o ho t (le o t h), fun o q ho hq => ?_, fun o n t ho hn h => hO.2.2.1 o n t ho hn (le o t h), fun o n z ho hn hc hz => ?_⟩
  · by_cases e : 16 * s ≤ o ∧ o < 16 * s + 16
    · rw [gw_fg_i e] at hq; exact absurd hq (by simp)
    · rw [gw_fg_o e] at hq
      obtain ⟨a, b, c, d⟩ := hO.2.1 o q ho hq
      refine ⟨a, b, kp o (fa o (fun z => ?_)) c, kp q (fa q (fun z => ?_)) d⟩
      · rw [(hA.1 o ho z).2] at hq; exact absurd hq (by simp)
      · have := (hA.1 q a z).1
        omega
  · obtain ⟨a, b⟩ := nA o hc
    obtain ⟨z1, z2, z3⟩ := hO.2.2.2 o n z ho hn b hz
    exact ⟨z1, z2, kp z (hA.2 o n z ho hn a b hz) z3⟩
theorem gy_v_ua {a : Nat → Int64} (h : gy_v P K C T F a) : gy_v P K (gw_ua C A) T F a := fun o n t ho hn hc => by
  refine h o n t ho hn ?_
  unfold gw_ua at hc
  by_cases c : A o = true
  · rw [if_pos c] at hc; exact absurd hc (by simp)
  · rw [if_neg c] at hc; exact hc
section
variable {xcu xar xrc xlc : Int32} {xde xpt xve xok xlt xty xpi : Nat → Int32} {xnu : Nat → Int64} {xtg xse xso xnf xrn xre xrl xrd xll xlr : Nat → Int32}
theorem gx_un2 (hA : gx_A A xso) {post : SX → Prop} {s : Nat} (hs : s < 2) (hp : ∀ xty, gx_t (gw_ua C A) xty → post (xcu, xar, xrc, xlc, xde, xpt, xve, xok, xlt, xty, xpi, xnu, xtg, gw_fi xse (32 * s) (32 * s + 16) (-1), xso, xnf, xrn, xre, xrl, xrd, xll, xlr)) : ∀ d j xty, j + d = 48 → gx_t (fun o => if A o = true ∧ gw_d o < j then none else C o) xty → wX_undoSending_2 post (nI s) xcu xar xrc xlc (d + 1) (nI j) xde xpt xve xok xlt xty xpi xnu xtg xse xso xnf xrn xre xrl xrd xll xlr := by
  intro d
  induction d with
  | zero =>
    intro j xty hj ht
    refine br_t (nI_le (a := 48) (by omega) (by omega)) (gx_empty hs (hp xty ⟨fun o ho => ?_, ht.2⟩))
    rw [ht.1 o ho]
    have := gw_dlt ho
    show gw_o (if A o = true ∧ gw_d o < j then none else C o) = gw_o (if A o = true then none else C o)
    by_cases c : A o = true
    · rw [if_pos c, if_pos ⟨c, by omega⟩]
    · rw [if_neg c, if_neg (fun z => c z.1)]
  | succ d ih =>
    intro j xty hj ht
    have ij : vp_in (nI j) 48 := vp_in_nI (by omega) (by omega)
    have ej : (nI j).toNatClampNeg = j := nI_clamp (by omega)
    refine br_f (nI_ge (b := 48) (by omega) (by omega)) ⟨ij, ?_⟩
    rw [ej]
    by_cases hm : 16 ≤ j ∧ j < 32
    · refine br_t (hA.2 j hm.1 hm.2) (nm_r (nI_1 j) (ih (j + 1) xty (by omega) ⟨fun o ho => ?_, ht.2⟩))
      rw [ht.1 o ho]
      show gw_o (if A o = true ∧ gw_d o < j then none else C o) = gw_o (if A o = true ∧ gw_d o < j + 1 then none else C o)
      have e : (gw_d o < j ↔ gw_d o < j + 1) := by unfold gw_d; omega
      by_cases c : A o = true ∧ gw_d o < j
      · rw [if_pos c, if_pos ⟨c.1, e.mp c.2⟩]
      · rw [if_neg c, if_neg (fun z => c ⟨z.1, e.mpr z.2⟩)]
    · have ed : gw_d (j - j / 32 * 16) = j := by unfold gw_d; omega
      have ho : j - j / 32 * 16 < 32 := by omega
      have hAo := hA.1 _ ho
      rw [ed] at hAo
      refine ek_if hAo (fun h => nm_r (nI_1 j) (ih (j + 1) xty (by omega) ⟨fun o ho2 => ?_, ht.2⟩)) (fun h => ⟨ij, nm_e (nm_r (nI_1 j) (ih (j + 1) _ (by omega) ⟨fun o ho2 => ?_, fun i i1 i2 => ?_⟩))⟩)
      · rw [ht.1 o ho2]
        show gw_o (if A o = true ∧ gw_d o < j then none else C o) = gw_o (if A o = true ∧ gw_d o < j + 1 then none else C o)
        by_cases c : A o = true ∧ gw_d o < j
        · rw [if_pos c, if_pos ⟨c.1, by omega⟩]
        · rw [if_neg c, if_neg (fun z => ?_)]
          by_cases e : gw_d o = j
          · have := gw_dinj (e.trans ed.symm)
            rw [this, h] at z
            exact absurd z.1 (by decide)
          · exact c ⟨z.1, by omega⟩
      · by_cases e : gw_d o = j
        · have e2 := gw_dinj (e.trans ed.symm)
          have hAt : A o = true := by rw [e2]; cases hh : A (j - j / 32 * 16); exact absurd hh h; rfl
          show _ = gw_o (if A o = true ∧ gw_d o < j + 1 then none else C o)
          rw [e, pk_us, if_pos ⟨hAt, by omega⟩]
          rfl
        · rw [pk_un e, ht.1 o ho2]
          show gw_o (if A o = true ∧ gw_d o < j then none else C o) = gw_o (if A o = true ∧ gw_d o < j + 1 then none else C o)
          by_cases c : A o = true ∧ gw_d o < j
          · rw [if_pos c, if_pos ⟨c.1, by omega⟩]
          · rw [if_neg c, if_neg (fun z => c ⟨z.1, by omega⟩)]
      · rw [pk_un (by omega)]; exact ht.2 i i1 i2
theorem gx_undo (hA : gx_A A xso) (ht : gx_t C xty) {post : SX → Prop} {s : Nat} (hs : s < 2) (hp : ∀ xty, gx_t (gw_ua C A) xty → post (xcu, xar, xrc, xlc, xde, xpt, xve, xok, xlt, xty, xpi, xnu, xtg, gw_fi xse (32 * s) (32 * s + 16) (-1), xso, xnf, xrn, xre, xrl, xrd, xll, xlr)) : wpX_undoSending post (xcu, xar, xrc, xlc, xde, xpt, xve, xok, xlt, xty, xpi, xnu, xtg, xse, xso, xnf, xrn, xre, xrl, xrd, xll, xlr) (nI s) :=
  ⟨49, gx_un2 (C := C) hA hs hp 48 0 xty (by omega) ⟨fun o ho => by rw [ht.1 o ho]; show _ = gw_o (if A o = true ∧ gw_d o < 0 then none else C o); rw [if_neg (fun z => by omega)], ht.2⟩⟩
theorem gx_start {post : SX → Prop} (hp : post (xcu, -1, xrc, xlc, xde, xpt, xve, xok, xlt, xty, xpi, xnu, xtg, xse, gw_fi xso 0 48 (-1), xnf, xrn, xre, xrl, xrd, xll, xlr)) : wpX_startSending post (xcu, xar, xrc, xlc, xde, xpt, xve, xok, xlt, xty, xpi, xnu, xtg, xse, xso, xnf, xrn, xre, xrl, xrd, xll, xlr) := by
  have go : ∀ d j xar xso, j + d = 48 → post (xcu, xar, xrc, xlc, xde, xpt, xve, xok, xlt, xty, xpi, xnu, xtg, xse, gw_fi xso j 48 (-1), xnf, xrn, xre, xrl, xrd, xll, xlr) → wX_startSending_7 post xcu xar xrc xlc (d + 1) (nI j) xde xpt xve xok xlt xty xpi xnu xtg xse xso xnf xrn xre xrl xrd xll xlr := by
    intro d
    induction d with
    | zero =>
      intro j xar xso h1 hp
      rw [gw_fi_e (by omega)] at hp
      exact br_t (nI_le (a := 48) (by omega) (by omega)) hp
    | succ d ih =>
      intro j xar xso h1 hp
      refine br_f (nI_ge (b := 48) (by omega) (by omega)) ⟨vp_in_nI (by omega) (by omega), nm_r (by rw [nI_clamp (by omega)]) (nm_r (nI_1 j) (ih (j + 1) _ _ (by omega) ?_))⟩
      rw [gw_fi_s (by omega)]
      exact hp
  exact ⟨49, go 48 0 (-1) xso (by omega) hp⟩
end
section
variable {ycu ydp ylm : Int32} {yde yve ypa yow yla ycl ypr ypi yar : Nat → Int32} {yva : Nat → Int64} {yfr yma ydo yro : Nat → Int32}
theorem gy_un2 (hA : gy_A A yar) {post : SY → Prop} {s : Nat} (hs : s < 2) (hp : ∀ ycl, gy_t (gw_ua C A) ycl → post (ycu, ydp, ylm, yde, yve, ypa, yow, yla, ycl, gw_fi ypr (16 * s) (16 * s + 16) (-1), ypi, yar, yva, yfr, yma, ydo, yro)) : ∀ d j ycl, j + d = 32 → gy_t (fun o => if A o = true ∧ o < j then none else C o) ycl → wY_undo_2 post (nI s) ycu ydp ylm (d + 1) (nI j) yde yve ypa yow yla ycl ypr ypi yar yva yfr yma ydo yro := by
  intro d
  induction d with
  | zero =>
    intro j ycl hj ht
    refine br_t (nI_le (a := 32) (by omega) (by omega)) (gy_empty hs (hp ycl (fun o ho => ?_)))
    rw [ht o ho]
    show gw_c (if A o = true ∧ o < j then none else C o) = gw_c (if A o = true then none else C o)
    by_cases c : A o = true
    · rw [if_pos c, if_pos ⟨c, by omega⟩]
    · rw [if_neg c, if_neg (fun z => c z.1)]
  | succ d ih =>
    intro j ycl hj ht
    have ij : vp_in (nI j) 32 := vp_in_nI (by omega) (by omega)
    have ej : (nI j).toNatClampNeg = j := nI_clamp (by omega)
    refine br_f (nI_ge (b := 32) (by omega) (by omega)) ⟨ij, ?_⟩
    rw [ej]
    refine ek_if (hA j (by omega)) (fun h => nm_r (nI_1 j) (ih (j + 1) ycl (by omega) (fun o ho => ?_))) (fun h => ⟨ij, nm_e (nm_r (nI_1 j) (ih (j + 1) _ (by omega) (fun o ho => ?_)))⟩)
    · rw [ht o ho]
      show gw_c (if A o = true ∧ o < j then none else C o) = gw_c (if A o = true ∧ o < j + 1 then none else C o)
      by_cases c : A o = true ∧ o < j
      · rw [if_pos c, if_pos ⟨c.1, by omega⟩]
      · rw [if_neg c, if_neg (fun z => ?_)]
        by_cases e : o = j
        · rw [e, h] at z; exact absurd z.1 (by decide)
        · exact c ⟨z.1, by omega⟩
    · by_cases e : o = j
      · have hAt : A o = true := by rw [e]; cases hh : A j; exact absurd hh h; rfl
        show _ = gw_c (if A o = true ∧ o < j + 1 then none else C o)
        rw [if_pos ⟨hAt, by omega⟩, e, pk_us]
        rfl
      · rw [pk_un e, ht o ho]
        show gw_c (if A o = true ∧ o < j then none else C o) = gw_c (if A o = true ∧ o < j + 1 then none else C o)
        by_cases c : A o = true ∧ o < j
        · rw [if_pos c, if_pos ⟨c.1, by omega⟩]
        · rw [if_neg c, if_neg (fun z => c ⟨z.1, by omega⟩)]
theorem gy_undo (hA : gy_A A yar) (ht : gy_t C ycl) {post : SY → Prop} {s : Nat} (hs : s < 2) (hp : ∀ ycl, gy_t (gw_ua C A) ycl → post (ycu, ydp, ylm, yde, yve, ypa, yow, yla, ycl, gw_fi ypr (16 * s) (16 * s + 16) (-1), ypi, yar, yva, yfr, yma, ydo, yro)) : wpY_undo post (ycu, ydp, ylm, yde, yve, ypa, yow, yla, ycl, ypr, ypi, yar, yva, yfr, yma, ydo, yro) (nI s) :=
  ⟨33, gy_un2 (C := C) hA hs hp 32 0 ycl (by omega) (fun o ho => by rw [ht o ho]; show _ = gw_c (if A o = true ∧ o < 0 then none else C o); rw [if_neg (fun z => by omega)])⟩
theorem gy_s50 {post : Int32 → SY → Prop} {x2 x3 : Int32} : ∀ d j yar, j + d = 32 → wpY_begin (fun r_23 u => match u with | (ycu24, ydp24, ylm24, yde24, yve24, ypa24, yow24, yla24, ycl24, ypr24, ypi24, yar24, yva24, yfr24, yma24, ydo24, yro24) => (∃ n84 : Nat, wY_send_84 post x2 x3 n84 r_23 ycu24 ydp24 ylm24 yde24 yve24 ypa24 yow24 yla24 ycl24 ypr24 ypi24 yar24 yva24 yfr24 yma24 ydo24 yro24)) (ycu, 0, ylm, yde, yve, ypa, yow, yla, ycl, ypr, ypi, gw_fi yar j 32 0, yva, yfr, yma, ydo, yro) x3 x2 → wY_send_50 post x2 x3 ycu ydp ylm (d + 1) (nI j) yde yve ypa yow yla ycl ypr ypi yar yva yfr yma ydo yro := by
  intro d
  induction d with
  | zero =>
    intro j yar h1 hp
    rw [gw_fi_e (by omega)] at hp
    exact br_t (nI_le (a := 32) (by omega) (by omega)) hp
  | succ d ih =>
    intro j yar h1 hp
    refine br_f (nI_ge (b := 32) (by omega) (by omega)) ⟨vp_in_nI (by omega) (by omega), nm_r (by rw [nI_clamp (by omega), gw_n0]) (nm_r (nI_1 j) (ih (j + 1) _ (by omega) ?_))⟩
    rw [gw_fi_s (by omega)]
    exact hp
end
end
end
section
/-! send: both sides, step by step -/
section
variable {B : Nat → Int32} {P L C S T : Nat → Option Nat} {F : Nat → Int64} {A : Nat → Bool}
theorem gx_s_j {a : Nat → Int32} (h : gx_s S a) {o y : Nat} {j : Int32} : gx_s (if j = 0 then gw_u S o none else gw_u (gw_u S o none) y (some o)) (if j = 0 then upd a (gw_d o) (-1) else upd (upd a (gw_d o) (-1)) (gw_d y) (nI (gw_d o))) := by
  by_cases hj : j = 0
  · rw [if_pos hj, if_pos hj]; exact gx_s_u h none
  · rw [if_neg hj, if_neg hj]; exact gx_s_u (gx_s_u h none) (some o)
theorem gy_s_j {a : Nat → Int32} (h : gy_s S a) {o y : Nat} {j : Int32} : gy_s (if j = 0 then gw_u S o none else gw_u (gw_u S o none) y (some o)) (if j = 0 then upd a o (-1) else upd (upd a o (-1)) y (nI o)) := by
  by_cases hj : j = 0
  · rw [if_pos hj, if_pos hj]; exact gy_s_u h none
  · rw [if_neg hj, if_neg hj]; exact gy_s_u (gy_s_u h none) (some o)
theorem gx_A_u {a : Nat → Int32} (h : gx_A A a) {o y : Nat} (ho : o < 32) (hy : y < 32) : gx_A (gw_u A o true) (upd a (gw_d o) (nI (gw_d y))) := by
  refine ⟨fun p hp => ?_, fun i i1 i2 => ?_⟩
  · by_cases e : p = o
    · rw [e, pk_us, gw_us]
      have := gw_dlt hy
      exact ⟨fun z => absurd z (gw_nm (by omega)), fun z => absurd z (by decide)⟩
    · rw [pk_un (fun z => e (gw_dinj z)), gw_un e]; exact h.1 p hp
  · rw [pk_un (by unfold gw_d; omega)]; exact h.2 i i1 i2
theorem gy_A_u {a : Nat → Int32} (h : gy_A A a) {o : Nat} : gy_A (gw_u A o true) (upd a o 1) := fun p hp => by
  by_cases e : p = o
  · rw [e, pk_us, gw_us]
    exact ⟨fun z => absurd z (by decide), fun z => absurd z (by decide)⟩
  · rw [pk_un e, gw_un e]; exact h p hp
/-- what a copied field is -/
theorem gs_cpO {D V K : Nat → Int32} (hC : gw_C D K P L) (hO : gw_O D P K C S T F) {s y o t e d : Nat} (hs : s < 2) (hy : y < 32) (hys : y / 16 = s) (ho : o < 32) (hos : o / 16 = 1 - s) (cy : C y = some t) (co : C o = some (6 * (1 - s) + t % 6)) (hmf : gw_mf D P V K t (6 * (1 - s) + t % 6) = 0) (he : gw_an P (2 - d / 10) (some t) = some e) (hk : ¬ K (10 * e + d % 10) = -1) (h1 : gw_in P (6 * (1 - s) + t % 6) (6 * ((6 * (1 - s) + t % 6) / 6) + e % 6)) (h2 : ¬ K (10 * (6 * ((6 * (1 - s) + t % 6) / 6) + e % 6) + d % 10) = -1) : gw_kd P K (6 * (1 - s) + t % 6) (d % 10) = gw_kd P K t (d % 10) ∧ gw_kd P K t (d % 10) = K (10 * e + d % 10) ∧ gw_O D P K C S (gw_u T (10 * o + d % 10) ((T (10 * y + d % 10)).bind S)) (gw_u F (10 * o + d % 10) (F (10 * y + d % 10))) := by
  have hv := hO.1 y hy
  rw [cy, hys] at hv
  have tv := hv t rfl
  have hvr := hO.1 o ho
  rw [co] at hvr
  have rv := hvr _ rfl
  have k1 := hC.2.2.2.1 t tv.1 tv.2.2 e (d % 10) ⟨2 - d / 10, by omega, he⟩ (by omega) hk
  have k2 := hC.2.2.2.1 _ rv.1 rv.2.2 _ (d % 10) h1 (by omega) h2
  have k3 := gw_fit hC hs hv rfl hmf (by omega) he h1 (by omega) hk h2
  have kk : gw_kd P K (6 * (1 - s) + t % 6) (d % 10) = gw_kd P K t (d % 10) := by rw [k1, k2, k3]
  have o3 := hO.2.2.1 y (d % 10) t hy (by omega) cy
  refine ⟨kk, k1, gw_O_cp hO (by omega) co (fun h => ?_) (fun h => ?_) (fun q hq => ?_)⟩
  · rw [kk] at h
    rw [o3.1 h]; rfl
  · rw [kk] at h
    exact o3.2 h
  · cases hT : T (10 * y + d % 10) with
    | none => rw [hT] at hq; exact absurd hq (by simp)
    | some z =>
      rw [hT] at hq
      have hq' : S z = some q := hq
      obtain ⟨z1, z2, z3⟩ := hO.2.2.2 y _ z hy (by omega) (by rw [cy]; simp) hT
      obtain ⟨q1, q2, q3, q4⟩ := hO.2.1 z q z1 hq'
      exact ⟨q1, by omega, q4⟩
variable {xcu xar xrc xlc : Int32} {xde xpt xve xok xlt xty xpi : Nat → Int32} {xnu : Nat → Int64} {xtg xse xso xnf xrn xre xrl xrd xll xlr : Nat → Int32}
variable {ycu ydp ylm : Int32} {yde yve ypa yow yla ycl ypr ypi yar : Nat → Int32} {yva : Nat → Int64} {yfr yma ydo yro : Nat → Int32}
theorem gs_err {k s x z c N : Nat} {r p1 x4 : Int32} {WY : (Int32 → SY → Prop) → Prop} (hC : gw_C yde yow P L) (hxc : gx_C yde P L xpt xlt) (hyc : gy_C yde P L ypa yla) (hO : gw_O yde P yow C S T F) (hA : gw_A C S T A s) (hs : s < 2) (hxt : gx_t C xty) (hxb : gx_b B xpi) (hxf : gx_f F xnu) (hxg : gx_g T xtg) (hxs : gx_s S xse) (hxA : gx_A A xso) (hyt : gy_t C ycl) (hyb : gy_b B ypi) (hyv : gy_v P yow C T F yva) (hys : gy_s S ypr) (hyA : gy_A A yar) (hx : x < 32) (hxs' : x / 16 = s) (hr : ¬ r = 0) (hc : c < 1000000) (hY : ∀ postY, (∃ n, wY_send_84 postY p1 (nI x) n r (nI (gw_d z)) ydp ylm yde yve ypa yow yla ycl ypr ypi yar yva yfr yma ydo yro) → WY postY) : wX_send_74 (fun r u' => WY (fun r' v' => r' = r ∧ i_Rel (k + 5) u' v')) (nI (gw_d x)) x4 (N + 1) r (nI c) (nI (gw_d z)) xar xrc xlc yde xpt yve yow xlt xty xpi xnu xtg xse xso xnf xrn xre xrl xrd xll xlr := by
  have dx := gw_dlt hx
  refine br_f (nI_ge (b := 1000000) hc (by omega)) (br_f hr (br_f hr ⟨gw_32, ?_⟩))
  rw [gw_q32 (by omega), gw_dd, hxs']
  refine gx_undo hxA hxt hs (fun xty' hx' => hY _ ⟨1, br_f hr (br_f hr ⟨gw_16, ?_⟩)⟩)
  rw [gw_q16 (by omega), hxs']
  refine gy_undo hyA hyt hs (fun ycl' hy' => ⟨rfl, ?_⟩)
  exact ⟨yde, yve, yow, P, L, gw_ua C A, gw_fg S (16 * s) (16 * s + 16) none, T, B, F, some z, hC, gw_O_ua hO hA hs, ⟨rfl, rfl, rfl, hxc, hx', hxb, hxf, hxg, gx_s_z hxs hs, rfl⟩, ⟨rfl, rfl, rfl, hyc, hy', hyb, gy_v_ua hyv, gy_s_z hys, rfl⟩⟩
theorem gs_loop {k s x o0 : Nat} {p1 : Int32} {cu : Option Nat} {WY : (Int32 → SY → Prop) → Prop} (hC : gw_C yde yow P L) (hxc : gx_C yde P L xpt xlt) (hyc : gy_C yde P L ypa yla) (hs : s < 2) (hx : x < 32) (hxs' : x / 16 = s) (hxu : xcu = gw_g cu) (hyu : ycu = gw_g cu) : ∀ (m : Nat) (C S T : Nat → Option Nat) (B : Nat → Int32) (F : Nat → Int64) (A : Nat → Bool) (st : List (Nat × Nat × Nat)) (xar : Int32) (xty xpi : Nat → Int32) (xnu : Nat → Int64) (xtg xse xso xnf xrn : Nat → Int32) (ydp ylm : Int32) (ycl ypr ypi yar : Nat → Int32) (yva : Nat → Int64) (yfr yma ydo : Nat → Int32) (c N : Nat), gw_fm st + 33 * gw_fc C s < m → c + 2 * m ≤ 900000 → 2 * m + 1 ≤ N → gs_I yde P yve yow C S T F A s st → gw_bt o0 st → gx_t C xty → gx_b B xpi → gx_f F xnu → gx_g T xtg → gx_s S xse → gx_A A xso → gx_ch xso xnf xrn xar st → gy_t C ycl → gy_b B ypi → gy_v P yow C T F yva → gy_s S ypr → gy_A A yar → (∃ n, ydp = nI n ∧ gy_ch yfr yma ydo n st) → (∀ postY, (∃ n, wY_send_84 postY p1 (nI x) n 0 ycu ydp ylm yde yve ypa yow yla ycl ypr ypi yar yva yfr yma ydo yro) → WY postY) → wX_send_74 (fun r u' => WY (fun r' v' => r' = r ∧ i_Rel (k + 5) u' v')) (nI (gw_d x)) (nI (gw_d o0)) N 0 (nI c) xcu xar xrc xlc yde xpt yve yow xlt xty xpi xnu xtg xse xso xnf xrn xre xrl xrd xll xlr := by
  intro m
  induction m with
  | zero => intro C S T B F A st xar xty xpi xnu xtg xse xso xnf xrn ydp ylm ycl ypr ypi yar yva yfr yma ydo c N h; omega
  | succ m ih =>
    intro C S T B F A st xar xty xpi xnu xtg xse xso xnf xrn ydp ylm ycl ypr ypi yar yva yfr yma ydo c N hmu hcm hN I hbt hxt hxb hxf hxg hxs hxA hxch hyt hyb hyv hys hyA hych hY
    cases st with
    | nil => exact hbt.elim
    | cons f w =>
      obtain ⟨y, o, d⟩ := f
      have I' := I
      obtain ⟨hO, hA, hfv, hnd, hwt, hlen⟩ := I
      obtain ⟨hy, hys', ho, hos, hd30, hAo, t, cy, co, hmf⟩ := hfv (y, o, d) (List.mem_cons_self ..)
      dsimp only at hy hys' ho hos hd30 hAo cy co
      obtain ⟨htop, hrest⟩ := hxch
      dsimp only at htop hrest
      obtain ⟨n, hdp, m', hn', hytop, hyrest⟩ := hych
      dsimp only at hytop
      subst hn'
      have hml := gy_ch_l w m' hyrest
      have hlen' : (((y, o, d) :: w : List (Nat × Nat × Nat))).length = w.length + 1 := rfl
      have hm40 : m' + 1 < 40 := by omega
      have dO := gw_dlt ho
      have dpos : ¬ ydp ≤ 0 := by rw [hdp]; exact nI_nle (by omega) (by omega)
      have hfm : gw_fm ((y, o, d) :: w) = (31 - d) + gw_fm w := rfl
      have cyn : C y ≠ none := by rw [cy]; simp
      obtain ⟨N', rfl⟩ : ∃ N', N = N' + 1 := ⟨N - 1, by omega⟩
      refine br_f (nI_ge (b := 1000000) (by omega) (by omega)) (br_t rfl (br_f (by rw [htop.1]; exact gw_nm (by omega)) ?_))
      by_cases hd : d = 30
      · cases w with
        | nil =>
          -- the last one is done
          obtain ⟨N'', rfl⟩ : ∃ N'', N' = N'' + 1 := ⟨N' - 1, by omega⟩
          have eo : o = o0 := by
            rcases hbt with h | h
            · exact h.2
            · exact h.elim
          subst eo
          have hm0 : m' = 0 := hyrest
          subst hm0
          refine gx_fp ho hd htop (nm_r (nI_1 c) (br_f (nI_ge (b := 1000000) (by omega) (by omega)) (br_t rfl (br_t hrest (br_t rfl ⟨vp_in_nI dO (by omega), nm_r (by rw [nI_clamp (by omega), gw_n1]) ⟨gw_32, hY _ ⟨2, br_t rfl (br_f dpos (gy_gl hd hdp hytop (br_t rfl (br_t (by decide) (br_t rfl ⟨vp_in_nI ho (by omega), nm_r (by rw [nI_clamp (by omega), gw_n1]) ⟨gw_16, ?_, ?_⟩⟩)))))⟩⟩⟩)))))
          · rw [gw_m16 (by omega), gw_m32 (by omega), gw_dm]
          · exact ⟨yde, yve, yow, P, L, C, S, T, gw_u B o 1, F, cu, hC, hO, ⟨rfl, rfl, rfl, hxc, hxt, gx_b_u hxb _, hxf, hxg, hxs, hxu⟩, ⟨rfl, rfl, rfl, hyc, hyt, gy_b_u hyb _, hyv, hys, hyu⟩⟩
        | cons g w' =>
          -- given to the one below
          obtain ⟨y', o', d'⟩ := g
          obtain ⟨N'', rfl⟩ : ∃ N'', N' = N'' + 1 := ⟨N' - 1, by omega⟩
          obtain ⟨⟨gd, t', e, z, gc, ge, gk, gT, gS⟩, gw⟩ := hwt (y, o, d) ((y', o', d') :: w') rfl
          dsimp only at gd gc ge gk gT gS
          obtain ⟨py, pys, po, pos, pd30, pA, t2, pc, pco, pmf⟩ := hfv (y', o', d') (List.mem_cons_of_mem _ (List.mem_cons_self ..))
          dsimp only at py pys po pos pd30 pA pc pco
          rw [gc] at pc
          cases pc
          obtain ⟨ptop, prest⟩ := hrest
          dsimp only at ptop prest
          obtain ⟨m'', hn'', pytop, pyrest⟩ := hyrest
          dsimp only at pytop
          subst hn''
          have dp' := gw_dlt po
          have gk' : ¬ yow (10 * e + d' % 10) = -1 := by rw [gk]; decide
          have hnd2 := hnd.2
          have bt2 : gw_bt o0 ((y', o', d' + 1) :: w') := by
            rcases hbt with h | h
            · exact absurd h.1 (by simp)
            · rcases h with h | h
              · exact Or.inl h
              · exact Or.inr h
          have fm2 : gw_fm ((y', o', d') :: w') = (31 - d') + gw_fm w' := rfl
          have fm3 : gw_fm ((y', o', d' + 1) :: w') = (31 - (d' + 1)) + gw_fm w' := rfl
          have hch2 : gx_ch xso (upd xnf (gw_d o') (nI (d' + 1))) xrn (xrn (gw_d o)) ((y', o', d' + 1) :: w') := ⟨⟨ptop.1, ptop.2.1, pk_us⟩, gx_ch_k w' _ (fun f hf => ⟨rfl, pk_un (fun h => hnd2.1 f hf (gw_dinj h)), rfl⟩) prest⟩
          have hych2 : gy_ch yfr yma (upd ydo m'' (nI (d' + 1))) (m'' + 1) ((y', o', d' + 1) :: w') := ⟨m'', rfl, ⟨pytop.1, pytop.2.1, pk_us⟩, gy_ch_k w' m'' (fun i hi => ⟨rfl, rfl, pk_un (by omega)⟩) pyrest⟩
          have kk := hC.2.2.2.1 t' ((hO.1 y' py t' gc).1) ((hO.1 y' py t' gc).2.2) e (d' % 10) ⟨2 - d' / 10, by omega, ge⟩ (by omega) gk'
          refine gx_fp ho hd htop (nm_r (nI_1 c) (br_f (nI_ge (b := 1000000) (by omega) (by omega)) (br_t rfl (br_f (by rw [ptop.1]; exact gw_nm (by omega)) ?_))))
          have hzS : yow (10 * e + d' % 10) = 4 → ∀ z', T (10 * y' + d' % 10) = some z' → S z' ≠ none := fun _ z' hz' => by
            rw [gT] at hz'
            cases hz'
            rw [gS]; simp
          by_cases hsh : gw_in P (6 * (1 - s) + t' % 6) (6 * ((6 * (1 - s) + t' % 6) / 6) + e % 6) ∧ ¬ yow (10 * (6 * ((6 * (1 - s) + t' % 6) / 6) + e % 6) + d' % 10) = -1
          · obtain ⟨c1, c2, c3⟩ := gs_cpO hC hO hs py pys po pos gc pco pmf ge gk' hsh.1 hsh.2
            refine gx_fc hC hxc hO hxt hxf hxg hxs py po gd gc pco ptop ge gk' hzS (fun _ _ => nm_r (nI_1 (c + 1)) (ih C S _ B _ A ((y', o', d' + 1) :: w') _ _ _ _ _ _ _ _ _ (nI (m'' + 1)) (nI o) _ _ _ _ _ _ _ _ (c + 1 + 1) N'' (by omega) (by omega) (by omega) (gs_skip (gs_cp (gs_pop I') (by omega) c3) gd) bt2 hxt hxb (gx_f_u hxf (by omega) _) (gx_g_u hxg (by omega) _) hxs hxA hch2 hyt hyb (gy_v_cp hyv (by omega) pco rfl) hys hyA ⟨m'' + 1, rfl, hych2⟩ (fun postY ⟨n, h⟩ => hY postY ⟨n + 1, br_t rfl (br_f dpos (gy_gp (m := m'') hd (by omega) hdp hytop ?_))⟩))) (fun hn => absurd hsh hn)
            refine gy_give hC hyc hO hyt py pys po gc pco rfl gd (by omega) pytop.1 pytop.2.1 pytop.2.2 ge (fun _ _ => ?_) (fun hn => absurd hsh hn)
            rw [if_pos (by rw [c1, c2]; exact gk), gT] at h
            have e1 : (some z).bind S = some o := gS
            rw [e1] at h
            exact h
          · refine gx_fc hC hxc hO hxt hxf hxg hxs py po gd gc pco ptop ge gk' hzS (fun a b => absurd ⟨a, b⟩ hsh) (fun _ => nm_r (nI_1 (c + 1)) (ih C S T B F A ((y', o', d' + 1) :: w') _ _ _ _ _ _ _ _ _ (nI (m'' + 1)) (nI o) _ _ _ _ _ _ _ _ (c + 1 + 1) N'' (by omega) (by omega) (by omega) (gs_skip (gs_pop I') gd) bt2 hxt hxb hxf hxg hxs hxA hch2 hyt hyb hyv hys hyA ⟨m'' + 1, rfl, hych2⟩ (fun postY ⟨n, h⟩ => hY postY ⟨n + 1, br_t rfl (br_f dpos (gy_gp (m := m'') hd (by omega) hdp hytop (gy_give hC hyc hO hyt py pys po gc pco rfl gd (by omega) pytop.1 pytop.2.1 pytop.2.2 ge (fun a b => absurd ⟨a, b⟩ hsh) (fun _ => h))))⟩)))
      · have hd' : d < 30 := by omega
        have bt2 : gw_bt o0 ((y, o, d + 1) :: w) := hbt
        have fm3 : gw_fm ((y, o, d + 1) :: w) = (31 - (d + 1)) + gw_fm w := rfl
        have hch2 : gx_ch xso (upd xnf (gw_d o) (nI (d + 1))) xrn xar ((y, o, d + 1) :: w) := ⟨⟨htop.1, htop.2.1, pk_us⟩, gx_ch_k w _ (fun f hf => ⟨rfl, pk_un (fun h => hnd.1 f hf (gw_dinj h)), rfl⟩) hrest⟩
        have hych2 : gy_ch yfr yma (upd ydo m' (nI (d + 1))) (m' + 1) ((y, o, d + 1) :: w) := ⟨m', rfl, ⟨hytop.1, hytop.2.1, pk_us⟩, gy_ch_k w m' (fun i hi => ⟨rfl, rfl, pk_un (by omega)⟩) hyrest⟩
        by_cases hno : ∀ e, gw_an P (2 - d / 10) (some t) = some e → yow (10 * e + d % 10) = -1
        · -- no field here
          exact gx_fs hC hxc hO hxt hy ho hd' cy htop hno (nm_r (nI_1 c) (ih C S T B F A ((y, o, d + 1) :: w) _ _ _ _ _ _ _ _ _ _ _ _ _ _ _ _ _ _ _ (c + 1) N' (by omega) (by omega) (by omega) (gs_skip I' hd') bt2 hxt hxb hxf hxg hxs hxA hch2 hyt hyb hyv hys hyA ⟨m' + 1, hdp, hych2⟩ (fun postY ⟨n, h⟩ => hY postY ⟨n + 1, br_t rfl (br_f dpos (gy_gs hC hyc hO hyt hy hys' cy hd' (by omega) hdp hytop hno h))⟩)))
        · have : ∃ e, gw_an P (2 - d / 10) (some t) = some e ∧ ¬ yow (10 * e + d % 10) = -1 := by
            apply Classical.byContradiction
            intro hh
            apply hno
            intro e he
            apply Classical.byContradiction
            intro hk
            exact hh ⟨e, he, hk⟩
          obtain ⟨e, he, hk⟩ := this
          by_cases har : yow (10 * e + d % 10) = 4 ∧ ∃ z, T (10 * y + d % 10) = some z ∧ S z = none
          · -- the target arrives first
            obtain ⟨h4, z, hTz, hSz⟩ := har
            obtain ⟨z1, z2, z3⟩ := hO.2.2.2 y _ z hy (by omega) cyn hTz
            cases cz : C z with
            | none => exact absurd cz z3
            | some tz =>
              refine gx_fa hC hxc hO hxt hxg hxs hy ho hd' cy htop he h4 hTz hSz (gx_arrive hC hxc hO hxt z1 (s := s) (by omega) cz (fun hb => nm_r (nI_1 c) ?_) (fun hb o2 hf => nm_r (nI_1 c) ?_))
              · obtain ⟨N'', rfl⟩ : ∃ N'', N' = N'' + 1 := ⟨N' - 1, by omega⟩
                refine gs_err (p1 := p1) (ydp := ydp) (ylm := ylm) (yfr := yfr) (yma := yma) (ydo := ydo) (yro := yro) hC hxc hyc hO hA hs hxt hxb hxf hxg hxs hxA hyt hyb hyv hys hyA hx hxs' hb (by omega) (fun postY ⟨n, h⟩ => hY postY ⟨n + 1, br_t rfl (br_f dpos (gy_gb hC hyc hO hyt hyv hys hy hys' cy hd' (by omega) hdp hytop he h4 hTz hSz (gy_begin hC hyc hO hyt z1 (s := s) (j := 1) (by omega) cz hm40 hdp ⟨fun q => absurd q (by decide), fun q => absurd q.1 (by omega)⟩ (fun _ => h) (fun q => absurd q hb))))⟩)
              · obtain ⟨f1, f2, f3⟩ := gw_fr_p hf
                have ho2 : o2 < 32 := by omega
                obtain ⟨J, hlt⟩ := gs_beg (j := 1) hC I' hs z1 (by omega) cz hb hf (fun f w2 hfw => by
                  injection hfw with q1 q2
                  subst q1
                  exact ⟨by decide, hSz, hd', t, e, cy, he, h4, hTz⟩)
                have fm4 : gw_fm ((z, o2, 0) :: (y, o, d) :: w) = 31 + ((31 - d) + gw_fm w) := rfl
                have neo : ∀ f, f ∈ (y, o, d) :: w → f.2.1 ≠ o2 := fun f hfm q => by
                  obtain ⟨_, _, _, _, _, _, t9, _, c9, _⟩ := hfv f hfm
                  rw [q, f3] at c9
                  exact absurd c9 (by simp)
                refine ih _ _ _ _ _ (gw_u A o2 true) ((z, o2, 0) :: (y, o, d) :: w) _ _ _ _ _ _ _ _ _ _ ylm _ _ _ _ _ (upd yfr (m' + 1) (nI z)) (upd yma (m' + 1) (nI o2)) (upd ydo (m' + 1) 0) (c + 1) N' (by omega) (by omega) (by omega) J (Or.inr hbt) (gx_t_u hxt ho2 _) (gx_b_u hxb _) (gx_f_z hxf _) (gx_g_z hxg none) (gx_s_j (j := 1) hxs) (gx_A_u hxA ho2 z1) ?_ (gy_t_u hyt (some (6 * (1 - s) + tz % 6))) (gy_b_u hyb _) (gy_v_new hyv) (gy_s_j (j := 1) hys) (gy_A_u hyA) ⟨m' + 1 + 1, rfl, ?_⟩ (fun postY ⟨n, h⟩ => hY postY ⟨n + 1, br_t rfl (br_f dpos (gy_gb hC hyc hO hyt hyv hys hy hys' cy hd' (by omega) hdp hytop he h4 hTz hSz (gy_begin hC hyc hO hyt z1 (s := s) (j := 1) (by omega) cz hm40 hdp ⟨fun q => absurd q (by decide), fun q => absurd q.1 (by omega)⟩ (fun q => absurd hb q) (fun _ o3 hf3 => by
                  rw [hf] at hf3
                  cases hf3
                  exact h))))⟩)
                · refine ⟨⟨rfl, pk_us, pk_us⟩, ?_⟩
                  dsimp only
                  rw [pk_us]
                  refine gx_ch_k _ _ (fun f hfm => ?_) (show gx_ch xso xnf xrn xar ((y, o, d) :: w) from ⟨htop, hrest⟩)
                  have q : gw_d f.2.1 ≠ gw_d o2 := fun q => neo f hfm (gw_dinj q)
                  exact ⟨pk_un q, pk_un q, pk_un q⟩
                · refine ⟨m' + 1, rfl, ⟨pk_us, pk_us, pk_us⟩, ?_⟩
                  refine gy_ch_k _ _ (fun i hi => ?_) (show gy_ch yfr yma ydo (m' + 1) ((y, o, d) :: w) from ⟨m', rfl, hytop, hyrest⟩)
                  have q : i ≠ m' + 1 := by omega
                  exact ⟨pk_un q, pk_un q, pk_un q⟩
          · -- a field that is copied
            have hzS : yow (10 * e + d % 10) = 4 → ∀ z', T (10 * y + d % 10) = some z' → S z' ≠ none := fun h4 z' hz' hn => har ⟨h4, z', hz', hn⟩
            by_cases hsh : gw_in P (6 * (1 - s) + t % 6) (6 * ((6 * (1 - s) + t % 6) / 6) + e % 6) ∧ ¬ yow (10 * (6 * ((6 * (1 - s) + t % 6) / 6) + e % 6) + d % 10) = -1
            · obtain ⟨c1, c2, c3⟩ := gs_cpO hC hO hs hy hys' ho hos cy co hmf he hk hsh.1 hsh.2
              refine gx_fc hC hxc hO hxt hxf hxg hxs hy ho hd' cy co htop he hk hzS (fun _ _ => nm_r (nI_1 c) (ih C S _ B _ A ((y, o, d + 1) :: w) _ _ _ _ _ _ _ _ _ ydp ylm _ _ _ _ _ _ _ _ (c + 1) N' (by omega) (by omega) (by omega) (gs_skip (gs_cp I' (by omega) c3) hd') bt2 hxt hxb (gx_f_u hxf (by omega) _) (gx_g_u hxg (by omega) _) hxs hxA hch2 hyt hyb (gy_v_cp hyv (by omega) co rfl) hys hyA ⟨m' + 1, hdp, hych2⟩ (fun postY ⟨n, h⟩ => hY postY ⟨n + 1, br_t rfl (br_f dpos (gy_gc hC hyc hO hyt hyv hys hy hys' ho cy co rfl hd' (by omega) hdp hytop he hk hzS (fun x9 hx9 _ _ => ?_) (fun hn => absurd hsh hn)))⟩))) (fun hn => absurd hsh hn)
              rw [hx9, ← c1]
              exact h
            · exact gx_fc hC hxc hO hxt hxf hxg hxs hy ho hd' cy co htop he hk hzS (fun a b => absurd ⟨a, b⟩ hsh) (fun _ => nm_r (nI_1 c) (ih C S T B F A ((y, o, d + 1) :: w) _ _ _ _ _ _ _ _ _ ydp ylm _ _ _ _ _ _ _ _ (c + 1) N' (by omega) (by omega) (by omega) (gs_skip I' hd') bt2 hxt hxb hxf hxg hxs hxA hch2 hyt hyb hyv hys hyA ⟨m' + 1, hdp, hych2⟩ (fun postY ⟨n, h⟩ => hY postY ⟨n + 1, br_t rfl (br_f dpos (gy_gc hC hyc hO hyt hyv hys hy hys' ho cy co rfl hd' (by omega) hdp hytop he hk hzS (fun _ _ a b => absurd ⟨a, b⟩ hsh) (fun _ => h)))⟩)))
end
end
section
/-! send: the method -/
theorem i_vc_send {k : Nat} {u : SX} {v : SY} (I : i_Rel k u v) (hk : k + 5 ≤ 2560) (v1 : Int32) (v2 : Int32) : wpX_send (fun r u' => wpY_send (fun r' v' => r' = r ∧ i_Rel (k + 5) u' v') v v1 (lw_bz v2)) u v1 (lw_bz v2) := by
  have I' := I
  obtain ⟨xcu, xar, xrc, xlc, xde, xpt, xve, xok, xlt, xty, xpi, xnu, xtg, xse, xso, xnf, xrn, xre, xrl, xrd, xll, xlr⟩ := u
  obtain ⟨ycu, ydp, ylm, yde, yve, ypa, yow, yla, ycl, ypr, ypi, yar, yva, yfr, yma, ydo, yro⟩ := v
  obtain ⟨D, V, K, P, L, C, S, T, B, F, cu, hC, hO, hX, hY⟩ := I
  obtain ⟨rfl, rfl, rfl, hxc, hxt, hxb, hxf, hxg, hxs, hxu⟩ := hX
  obtain ⟨rfl, rfl, rfl, hyc, hyt, hyb, hyv, hys, hyu⟩ := hY
  rcases gw_obj C v1 with ⟨x, t, hx, cx, rfl⟩ | hno
  · have tv := hO.1 x hx t cx
    have dx := gw_dlt hx
    have ix : vp_in (nI (gw_d x)) 48 := vp_in_nI dx (by omega)
    have ex : (nI (gw_d x)).toNatClampNeg = gw_d x := nI_clamp (by omega)
    have jx : vp_in (nI x) 32 := vp_in_nI hx (by omega)
    have fx : (nI x).toNatClampNeg = x := nI_clamp (by omega)
    generalize lw_bz v2 = p1
    -- the reference, as far as its first begin
    have hY0 : (S x = none ∨ ¬ p1 = 0) → ∀ postY, wpY_begin (fun r_23 u => match u with | (ycu24, ydp24, ylm24, yde24, yve24, ypa24, yow24, yla24, ycl24, ypr24, ypi24, yar24, yva24, yfr24, yma24, ydo24, yro24) => (∃ n84 : Nat, wY_send_84 postY p1 (nI x) n84 r_23 ycu24 ydp24 ylm24 yde24 yve24 ypa24 yow24 yla24 ycl24 ypr24 ypi24 yar24 yva24 yfr24 yma24 ydo24 yro24)) (ycu, 0, ylm, yde, yve, ypa, yow, yla, ycl, ypr, ypi, gw_fi yar 0 32 0, yva, yfr, yma, ydo, yro) (nI x) p1 → wpY_send postY (ycu, ydp, ylm, yde, yve, ypa, yow, yla, ycl, ypr, ypi, yar, yva, yfr, yma, ydo, yro) (nI (gw_d x)) p1 := fun hS postY hb => by
      unfold wpY_send; dsimp only
      refine gy_obj1 hyt hx cx (br_t (nI_pos' (by omega)) ⟨jx, ?_⟩)
      rw [fx, hys x hx]
      cases hSx : S x with
      | none => exact br_t (by decide) ⟨33, gy_s50 32 0 yar (by omega) hb⟩
      | some q =>
        have hq := (hO.2.1 x q hx hSx).1
        refine br_f (gw_p0 (by omega)) (br_f (hS.resolve_left (by rw [hSx]; simp)) ⟨33, gy_s50 32 0 yar (by omega) hb⟩)
    have gA : gw_A C S T (fun _ => false) (x / 16) := ⟨fun o _ h => absurd h Bool.false_ne_true, fun o n z _ _ _ _ _ => rfl⟩
    have gI : gs_I yde P yve yow C S T F (fun _ => false) (x / 16) [] := ⟨hO, gA, fun f hf => absurd hf (by simp), trivial, fun f w h => absurd h (by simp), by show 0 + gw_fc C (x / 16) ≤ 16; have := gw_cn_le (p := fun n => (C (16 * (1 - x / 16) + n)).isNone) 16; unfold gw_fc; omega⟩
    have xA : gx_A (fun _ => false) (gw_fi xso 0 48 (-1)) := ⟨fun o ho => ⟨fun _ => rfl, fun _ => gw_fi_i (by have := gw_dlt ho; omega)⟩, fun i _ h => gw_fi_i (by omega)⟩
    have yA : gy_A (fun _ => false) (gw_fi yar 0 32 0) := fun o ho => ⟨fun _ => rfl, fun _ => gw_fi_i (by omega)⟩
    -- the component from its first arrive on
    have go : (S x = none ∨ ¬ p1 = 0) → wX_send_46 (fun r u' => wpY_send (fun r' v' => r' = r ∧ i_Rel (k + 5) u' v') (ycu, ydp, ylm, yde, yve, ypa, yow, yla, ycl, ypr, ypi, yar, yva, yfr, yma, ydo, yro) (nI (gw_d x)) p1) (nI (gw_d x)) p1 xcu xar xrc xlc yde xpt yve yow xlt xty xpi xnu xtg xse xso xnf xrn xre xrl xrd xll xlr := fun hS => by
      have arr : ∀ j : Int32, ((j = 0) ↔ ¬ p1 = 0) → wX_send_61 (fun r u' => wpY_send (fun r' v' => r' = r ∧ i_Rel (k + 5) u' v') (ycu, ydp, ylm, yde, yve, ypa, yow, yla, ycl, ypr, ypi, yar, yva, yfr, yma, ydo, yro) (nI (gw_d x)) p1) (nI (gw_d x)) j (nI (gw_d x)) xcu (-1) xrc xlc yde xpt yve yow xlt xty xpi xnu xtg xse (gw_fi xso 0 48 (-1)) xnf xrn xre xrl xrd xll xlr := fun j hj => by
        have hj' : (j = 0) ↔ (0 = 0 ∧ ¬ p1 = 0) := ⟨fun z => ⟨rfl, hj.mp z⟩, fun z => hj.mpr z.2⟩
        refine gx_arrive hC hxc hO hxt hx rfl cx (fun hb => ⟨1, ?_⟩) (fun hb o hf => ⟨1201, ?_⟩)
        · exact gs_err (c := 0) (N := 0) (p1 := p1) (ydp := 0) (ylm := ylm) (yfr := yfr) (yma := yma) (ydo := ydo) (yro := yro) (WY := fun postY => wpY_send postY (ycu, ydp, ylm, yde, yve, ypa, yow, yla, ycl, ypr, ypi, yar, yva, yfr, yma, ydo, yro) (nI (gw_d x)) p1) hC hxc hyc hO gA (by omega) hxt hxb hxf hxg hxs xA hyt hyb hyv hys yA hx rfl hb (by omega) (fun postY hn => hY0 hS postY (gy_begin hC hyc hO hyt hx rfl cx (m := 0) (by omega) rfl hj' (fun _ => hn) (fun z => absurd z hb)))
        · obtain ⟨f1, f2, f3⟩ := gw_fr_p hf
          have ho : o < 32 := by omega
          obtain ⟨J, hlt⟩ := gs_beg (j := j) hC gI (by omega) hx rfl cx hb hf (fun f w h => absurd h (by simp))
          have hle := gw_cn_le (p := fun n => (C (16 * (1 - x / 16) + n)).isNone) 16
          have hfc : gw_fc C (x / 16) ≤ 16 := hle
          have fm : gw_fm [(x, o, 0)] = 31 := rfl
          exact gs_loop (k := k) (o0 := o) (cu := cu) (p1 := p1) (WY := fun postY => wpY_send postY (ycu, ydp, ylm, yde, yve, ypa, yow, yla, ycl, ypr, ypi, yar, yva, yfr, yma, ydo, yro) (nI (gw_d x)) p1) hC hxc hyc (by omega) hx rfl hxu hyu 600 _ _ _ _ _ _ [(x, o, 0)] _ _ _ _ _ _ _ _ _ (nI (0 + 1)) ylm _ _ _ _ _ (upd yfr 0 (nI x)) (upd yma 0 (nI o)) (upd ydo 0 0) 0 1201 (by omega) (by omega) (by omega) J (Or.inl ⟨rfl, rfl⟩) (gx_t_u hxt ho _) (gx_b_u hxb _) (gx_f_z hxf _) (gx_g_z hxg none) (gx_s_j hxs) (gx_A_u xA ho hx) ⟨⟨rfl, pk_us, pk_us⟩, pk_us⟩ (gy_t_u hyt (some (6 * (1 - x / 16) + t % 6))) (gy_b_u hyb _) (gy_v_new hyv) (gy_s_j (y := x) (j := j) hys) (gy_A_u yA) ⟨0 + 1, rfl, ⟨0, rfl, ⟨pk_us, pk_us, pk_us⟩, rfl⟩⟩ (fun postY hn => hY0 hS postY (gy_begin hC hyc hO hyt hx rfl cx (m := 0) (by omega) rfl hj' (fun z => absurd hb z) (fun _ o3 hf3 => by
            rw [hf] at hf3
            cases hf3
            exact hn)))
      refine gx_start (br_c (fun h => arr 1 ⟨fun z => absurd z (by decide), fun z => absurd h z⟩) (fun h => arr 0 ⟨fun _ => h, fun _ => rfl⟩))
    unfold wpX_send; dsimp only
    refine gx_obj1 hxt hx cx tv.1 (br_f (by decide) (br_c (fun h0 => ⟨ix, ?_⟩) (fun h0 => go (Or.inr h0))))
    rw [ex, hxs x hx]
    cases hSx : S x with
    | none => exact br_t rfl (go (Or.inl hSx))
    | some q =>
      have hq := (hO.2.1 x q hx hSx).1
      have dq := gw_dlt hq
      have eq : (gw_g (some q)).toNatClampNeg = gw_d q := nI_clamp (by omega)
      refine br_f (gw_nm (by omega)) ⟨ix, vp_in_nI dq (by omega), nm_r (by rw [eq, gw_n1]) ⟨ix, gw_32, ?_⟩⟩
      unfold wpY_send; dsimp only
      refine gy_obj1 hyt hx cx (br_t (nI_pos' (by omega)) ⟨jx, ?_⟩)
      rw [fx, hys x hx, hSx]
      have eq2 : (gw_o (some q)).toNatClampNeg = q := nI_clamp (by omega)
      refine br_f (gw_p0 (by omega)) (br_t h0 ⟨jx, vp_in_nI hq (by omega), nm_r (by rw [eq2, gw_n1]) ⟨jx, gw_16, ?_, ?_⟩⟩)
      · show nI q - nI q / 16 * 16 = nI (gw_d q) - nI (gw_d q) / 32 * 32
        rw [gw_m16 (by omega), gw_m32 (by omega), gw_dm]
      · exact ⟨yde, yve, yow, P, L, C, S, T, gw_u B q 1, F, cu, hC, hO, ⟨rfl, rfl, rfl, hxc, hxt, gx_b_u hxb _, hxf, hxg, hxs, hxu⟩, ⟨rfl, rfl, rfl, hyc, hyt, gy_b_u hyb _, hyv, hys, hyu⟩⟩
  · unfold wpX_send wpY_send; dsimp only
    exact gx_obj0 hxt hno (br_t rfl (gy_obj0 hyt hno (br_f (by decide) ⟨rfl, I'⟩)))
end
