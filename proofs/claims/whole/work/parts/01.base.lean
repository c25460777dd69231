/-! base: numbers, codes of 'none or an index', stores, bits -/
theorem pk_us {f : Nat → Int32} {k : Nat} {x : Int32} : upd f k x k = x := if_pos rfl
theorem pk_un {f : Nat → Int32} {k j : Nat} {x : Int32} (h : j ≠ k) : upd f k x j = f j := if_neg h
theorem pk_uLs {f : Nat → Int64} {k : Nat} {x : Int64} : vp_updL f k x k = x := if_pos rfl
theorem pk_uLn {f : Nat → Int64} {k j : Nat} {x : Int64} (h : j ≠ k) : vp_updL f k x j = f j := if_neg h
theorem pk_sub {a b : Nat} (h : b ≤ a) : nI a - nI b = nI (a - b) := by
  obtain ⟨c, rfl⟩ : ∃ c, a = c + b := ⟨a - b, by omega⟩
  rw [← nI_add, Int32.add_sub_cancel, Nat.add_sub_cancel]
theorem pk_m1 (n : Nat) : nI (n + 1) + (-1) = nI n := by
  rw [← nI_1, Int32.add_assoc, show (1 : Int32) + (-1) = 0 from rfl, Int32.add_zero]
theorem pk_mul (a b : Nat) : nI a * nI b = nI (a * b) := (Int32.ofNat_mul a b).symm
theorem pk_div {a d : Nat} (ha : a < 2 ^ 31) (h0 : 0 < d) (hd : d < 2 ^ 31) : nI a / nI d = nI (a / d) := by
  apply Int32.toInt_inj.mp
  rw [lg_idiv_nonneg (by rw [nI_toInt ha]; omega) (by rw [nI_toInt hd]; omega), nI_toInt ha, nI_toInt hd, nI_toInt (Nat.lt_of_le_of_lt (Nat.div_le_self a d) ha)]
  first | rfl | exact (Int.natCast_ediv _ _).symm
theorem pk_rem {a d : Nat} (ha : a < 2 ^ 31) (h0 : 0 < d) (hd : d < 2 ^ 31) : nI a - nI a / nI d * nI d = nI (a % d) := by
  rw [pk_div ha h0 hd, pk_mul, pk_sub (Nat.div_mul_le_self a d)]
  exact congrArg nI (by have := Nat.div_add_mod' a d; omega)
theorem pk_ix (x : Int32) {n : Nat} (hn : n < 2 ^ 31) : x < 0 ∨ nI n ≤ x ∨ ∃ j : Nat, j < n ∧ x = nI j := by
  by_cases h : x < 0
  · exact Or.inl h
  · obtain ⟨j, hj, rfl⟩ := nI_of h
    by_cases h2 : j < n
    · exact Or.inr (Or.inr ⟨j, h2, rfl⟩)
    · exact Or.inr (Or.inl (nI_le (by omega) hj))
theorem pk_le {x y : Int32} {A B : Prop} (a b : Nat) (f : a ≤ b → A) (g : b < a → B) (hx : x = nI a := by rfl) (hy : y = nI b := by rfl) (ha : a < 2 ^ 31 := by omega) (hb : b < 2 ^ 31 := by omega) : (x ≤ y → A) ∧ (¬ x ≤ y → B) := by
  subst hx hy
  rw [nI_leI ha hb]
  exact ⟨f, fun z => g (by omega)⟩
theorem pk_lt {x y : Int32} {A B : Prop} (a b : Nat) (f : a < b → A) (g : b ≤ a → B) (hx : x = nI a := by rfl) (hy : y = nI b := by rfl) (ha : a < 2 ^ 31 := by omega) (hb : b < 2 ^ 31 := by omega) : (x < y → A) ∧ (¬ x < y → B) := by
  subst hx hy
  rw [nI_ltI ha hb]
  exact ⟨f, fun z => g (by omega)⟩
theorem pk_eq {x y : Int32} {A B : Prop} (a b : Nat) (f : a = b → A) (g : a ≠ b → B) (hx : x = nI a := by rfl) (hy : y = nI b := by rfl) (ha : a < 2 ^ 31 := by omega) (hb : b < 2 ^ 31 := by omega) : (x = y → A) ∧ (¬ x = y → B) := by
  subst hx hy
  rw [nI_eq ha hb]
  exact ⟨f, g⟩
theorem pk_in {x : Int32} (n N : Nat) (h : n < N) (hx : x = nI n := by rfl) (hN : N < 2 ^ 31 := by omega) : vp_in x N := by
  subst hx
  exact vp_in_nI h hN
theorem pk_cl {x : Int32} (n : Nat) (hx : x = nI n := by rfl) (h : n < 2 ^ 31 := by omega) : x.toNatClampNeg = n := by
  subst hx
  exact nI_clamp h
theorem ek_if {c d A B : Prop} (e : c ↔ d) (f : d → A) (g : ¬ d → B) : (c → A) ∧ (¬ c → B) :=
  ⟨fun z => f (e.mp z), fun z => g (fun y => z (e.mpr y))⟩
def bt (x : Int32) (i : Nat) : Bool := x.toBitVec.getLsbD i
theorem b_or (x y : Int32) (i : Nat) : bt (x ||| y) i = (bt x i || bt y i) := by unfold bt; rw [Int32.toBitVec_or, BitVec.getLsbD_or]
theorem b_and (x y : Int32) (i : Nat) : bt (x &&& y) i = (bt x i && bt y i) := by unfold bt; rw [Int32.toBitVec_and, BitVec.getLsbD_and]
theorem b_xor (x y : Int32) (i : Nat) : bt (x ^^^ y) i = (bt x i ^^ bt y i) := by unfold bt; rw [Int32.toBitVec_xor, BitVec.getLsbD_xor]
theorem b_m1 : ∀ i, i < 32 → bt (-1) i = true := by decide +kernel
theorem b_0 (i : Nat) : bt 0 i = false := BitVec.getLsbD_zero
theorem s_l : ∀ n, n < 32 → ((nI n &&& 31).toBitVec.smod 32).toNat = n := by decide +kernel
theorem b_shl (n : Nat) (hn : n < 32) (x : Int32) {i : Nat} (hi : i < 32) : bt (x <<< (nI n &&& 31)) i = (decide (n ≤ i) && bt x (i - n)) := by
  unfold bt
  rw [Int32.toBitVec_shiftLeft]
  show (x.toBitVec <<< ((nI n &&& 31).toBitVec.smod 32).toNat).getLsbD i = _
  rw [s_l n hn, BitVec.getLsbD_shiftLeft]
  rcases Nat.lt_or_ge i n with h | h
  · simp [h, Nat.not_le.mpr h]
  · simp [hi, h, Nat.not_lt.mpr h]
theorem b_sshr (n : Nat) (hn : n < 32) (x : Int32) {i : Nat} (hi : i < 32) : bt (x >>> (nI n &&& 31)) i = if n + i < 32 then bt x (n + i) else bt x 31 := by
  unfold bt
  rw [Int32.toBitVec_shiftRight]
  show (x.toBitVec.sshiftRight ((nI n &&& 31).toBitVec.smod 32).toNat).getLsbD i = _
  rw [s_l n hn, BitVec.getLsbD_sshiftRight, BitVec.msb_eq_getLsbD_last]
  simp [hi]
/-- the ID of object o -/
def gw_d (o : Nat) : Nat := o + o / 16 * 16
def gw_o : Option Nat → Int32
  | none => -1
  | some n => nI n
def gw_c : Option Nat → Int32
  | none => -1
  | some n => nI (n % 6)
def gw_g : Option Nat → Int32
  | none => -1
  | some n => nI (gw_d n)
theorem gw_nm {n : Nat} (h : n < 2 ^ 31) : ¬ nI n = -1 := fun e => by
  have := nI_pos' h
  rw [e] at this
  exact absurd this (by decide)
theorem gw_p0 {n : Nat} (h : n < 2 ^ 31) : ¬ nI n < 0 := nI_pos h
theorem gw_dlt {o : Nat} (h : o < 32) : gw_d o < 48 := by unfold gw_d; omega
theorem gw_dinj {a b : Nat} (h : gw_d a = gw_d b) : a = b := by unfold gw_d at h; omega
theorem gw_d1 {s n : Nat} (hn : n < 16) : gw_d (16 * s + n) = 32 * s + n := by unfold gw_d; omega
theorem gw_dd {o : Nat} : gw_d o / 32 = o / 16 := by unfold gw_d; omega
theorem gw_dm {o : Nat} : gw_d o % 32 = o % 16 := by unfold gw_d; omega
/-! arithmetic, as both sides print it -/
theorem gw_e1 (s c : Nat) : nI s * 6 + nI c = nI (6 * s + c) := by
  have h : nI s * nI 6 + nI c = nI (6 * s + c) := by rw [pk_mul, nI_add]; exact congrArg nI (by omega)
  exact h
theorem gw_e2 (s c : Nat) : 6 * nI s + nI c = nI (6 * s + c) := by
  have h : nI 6 * nI s + nI c = nI (6 * s + c) := by rw [pk_mul, nI_add]
  exact h
theorem gw_e3 (s c : Nat) : nI s * 10 + nI c = nI (10 * s + c) := by
  have h : nI s * nI 10 + nI c = nI (10 * s + c) := by rw [pk_mul, nI_add]; exact congrArg nI (by omega)
  exact h
theorem gw_e4 (s c n : Nat) : 60 * nI s + 10 * nI c + nI n = nI (10 * (6 * s + c) + n) := by
  have h : nI 60 * nI s + nI 10 * nI c + nI n = nI (10 * (6 * s + c) + n) := by rw [pk_mul, pk_mul, nI_add, nI_add]; exact congrArg nI (by omega)
  exact h
theorem gw_e5 (s c : Nat) : nI s * 32 + nI c = nI (32 * s + c) := by
  have h : nI s * nI 32 + nI c = nI (32 * s + c) := by rw [pk_mul, nI_add]; exact congrArg nI (by omega)
  exact h
theorem gw_e6 (s : Nat) : 16 * nI s = nI (16 * s) := by
  have h : nI 16 * nI s = nI (16 * s) := pk_mul _ _
  exact h
theorem gw_e6a (s c : Nat) : 16 * nI s + nI c = nI (16 * s + c) := by rw [gw_e6, nI_add]
theorem gw_e6b (s : Nat) : 16 * nI s + 16 = nI (16 * s + 16) := by
  have h : 16 * nI s + nI 16 = nI (16 * s + 16) := gw_e6a s 16
  exact h
theorem gw_e7 (s c : Nat) : 10 * nI s + nI c = nI (10 * s + c) := by
  have h : nI 10 * nI s + nI c = nI (10 * s + c) := by rw [pk_mul, nI_add]
  exact h
theorem gw_m6 {a : Nat} (h : a < 2 ^ 31) : nI a - nI a / 6 * 6 = nI (a % 6) := pk_rem (d := 6) h (by omega) (by omega)
theorem gw_m10 {a : Nat} (h : a < 2 ^ 31) : nI a - nI a / 10 * 10 = nI (a % 10) := pk_rem (d := 10) h (by omega) (by omega)
theorem gw_m16 {a : Nat} (h : a < 2 ^ 31) : nI a - nI a / 16 * 16 = nI (a % 16) := pk_rem (d := 16) h (by omega) (by omega)
theorem gw_m32 {a : Nat} (h : a < 2 ^ 31) : nI a - nI a / 32 * 32 = nI (a % 32) := pk_rem (d := 32) h (by omega) (by omega)
theorem gw_q10 {a : Nat} (h : a < 2 ^ 31) : nI a / 10 = nI (a / 10) := pk_div (d := 10) h (by omega) (by omega)
theorem gw_q16 {a : Nat} (h : a < 2 ^ 31) : nI a / 16 = nI (a / 16) := pk_div (d := 16) h (by omega) (by omega)
theorem gw_q32 {a : Nat} (h : a < 2 ^ 31) : nI a / 32 = nI (a / 32) := pk_div (d := 32) h (by omega) (by omega)
theorem gw_s1 {s : Nat} (h : s ≤ 1) : 1 - nI s = nI (1 - s) := pk_sub (a := 1) h
theorem gw_s2 {s : Nat} (h : s ≤ 2) : 2 - nI s = nI (2 - s) := pk_sub (a := 2) h
theorem gw_id {a : Nat} (h : a < 2 ^ 20) : nI a / 16 * 32 + (nI a - nI a / 16 * 16) = nI (gw_d a) := by
  rw [gw_m16 (by omega), gw_q16 (by omega), gw_e5]
  exact congrArg nI (by unfold gw_d; omega)
theorem gw_ob {a : Nat} (h : a < 2 ^ 20) : nI a / 32 * 16 + (nI a - nI a / 32 * 32) = nI (16 * (a / 32) + a % 32) := by
  rw [gw_m32 (by omega), gw_q32 (by omega)]
  have h : nI (a / 32) * nI 16 + nI (a % 32) = nI (16 * (a / 32) + a % 32) := by rw [pk_mul, nI_add]; exact congrArg nI (by omega)
  exact h
theorem gw_n1 : vp_nar .boolean 1 = 1 := by decide
theorem gw_n0 : vp_nar .boolean 0 = 0 := by decide
theorem gw_6 : ¬ (6 : Int32) = 0 := by decide
theorem gw_10 : ¬ (10 : Int32) = 0 := by decide
theorem gw_16 : ¬ (16 : Int32) = 0 := by decide
theorem gw_32 : ¬ (32 : Int32) = 0 := by decide
/-! an array given by its values: a fill of lo .. hi - 1 -/
def gw_fi (a : Nat → Int32) (lo hi : Nat) (v : Int32) : Nat → Int32 := fun i => if lo ≤ i ∧ i < hi then v else a i
theorem gw_fi_e {a : Nat → Int32} {lo hi : Nat} {v : Int32} (h : hi ≤ lo) : gw_fi a lo hi v = a := funext fun i => if_neg (by omega)
theorem gw_fi_s {a : Nat → Int32} {lo hi : Nat} {v : Int32} (h : lo < hi) : gw_fi (upd a lo v) (lo + 1) hi v = gw_fi a lo hi v := funext fun i => by
  unfold gw_fi upd
  by_cases h1 : i = lo
  · rw [if_neg (by omega), if_pos h1, if_pos (by omega)]
  · by_cases h2 : lo + 1 ≤ i ∧ i < hi
    · rw [if_pos h2, if_pos (by omega)]
    · rw [if_neg h2, if_neg h1, if_neg (by omega)]
theorem gw_fi_i {a : Nat → Int32} {lo hi i : Nat} {v : Int32} (h : lo ≤ i ∧ i < hi) : gw_fi a lo hi v i = v := if_pos h
theorem gw_fi_o {a : Nat → Int32} {lo hi i : Nat} {v : Int32} (h : ¬ (lo ≤ i ∧ i < hi)) : gw_fi a lo hi v i = a i := if_neg h
def gw_fL (a : Nat → Int64) (lo hi : Nat) (v : Int64) : Nat → Int64 := fun i => if lo ≤ i ∧ i < hi then v else a i
theorem gw_fL_e {a : Nat → Int64} {lo hi : Nat} {v : Int64} (h : hi ≤ lo) : gw_fL a lo hi v = a := funext fun i => if_neg (by omega)
theorem gw_fL_s {a : Nat → Int64} {lo hi : Nat} {v : Int64} (h : lo < hi) : gw_fL (vp_updL a lo v) (lo + 1) hi v = gw_fL a lo hi v := funext fun i => by
  unfold gw_fL vp_updL
  by_cases h1 : i = lo
  · rw [if_neg (by omega), if_pos h1, if_pos (by omega)]
  · by_cases h2 : lo + 1 ≤ i ∧ i < hi
    · rw [if_pos h2, if_pos (by omega)]
    · rw [if_neg h2, if_neg h1, if_neg (by omega)]
theorem gw_fL_i {a : Nat → Int64} {lo hi i : Nat} {v : Int64} (h : lo ≤ i ∧ i < hi) : gw_fL a lo hi v i = v := if_pos h
theorem gw_fL_o {a : Nat → Int64} {lo hi i : Nat} {v : Int64} (h : ¬ (lo ≤ i ∧ i < hi)) : gw_fL a lo hi v i = a i := if_neg h
/-- a pure store -/
def gw_u {α : Type} (f : Nat → α) (k : Nat) (x : α) : Nat → α := fun j => if j = k then x else f j
theorem gw_us {α : Type} {f : Nat → α} {k : Nat} {x : α} : gw_u f k x k = x := if_pos rfl
theorem gw_un {α : Type} {f : Nat → α} {k j : Nat} {x : α} (h : j ≠ k) : gw_u f k x j = f j := if_neg h
/-! bits -/
theorem gw_b1 : ∀ i, i < 32 → bt 1 i = decide (i = 0) := by decide +kernel
theorem gw_bit (x : Int32) (n : Nat) (hn : n < 32) : ((x >>> (nI n &&& 31)) &&& 1) = if bt x n = true then 1 else 0 := by
  have h : ∀ i, i < 32 → bt ((x >>> (nI n &&& 31)) &&& 1) i = bt (if bt x n = true then 1 else 0) i := by
    intro i hi
    rw [b_and, b_sshr n hn x hi, gw_b1 i hi]
    by_cases h0 : i = 0
    · subst h0
      rw [if_pos (by omega), Nat.add_zero]
      by_cases hb : bt x n = true
      · rw [if_pos hb, hb, gw_b1 0 hi]; rfl
      · rw [if_neg hb, b_0]; cases hx : bt x n
        · rfl
        · exact absurd hx hb
    · rw [decide_eq_false h0, Bool.and_false]
      by_cases hb : bt x n = true
      · rw [if_pos hb, gw_b1 i hi, decide_eq_false h0]
      · rw [if_neg hb, b_0]
  exact Int32.toBitVec_inj.mp (BitVec.eq_of_getLsbD_eq (fun i hi => h i hi))
theorem gw_bit1 {x : Int32} {n : Nat} (hn : n < 32) : ((x >>> (nI n &&& 31)) &&& 1) = 1 ↔ bt x n = true := by
  rw [gw_bit x n hn]
  by_cases hb : bt x n = true
  · rw [if_pos hb]; exact ⟨fun _ => hb, fun _ => rfl⟩
  · rw [if_neg hb]; exact ⟨fun e => absurd e (by decide), fun e => absurd e hb⟩
theorem gw_bit0 {x : Int32} {n : Nat} (hn : n < 32) : ((x >>> (nI n &&& 31)) &&& 1) = 0 ↔ ¬ bt x n = true := by
  rw [gw_bit x n hn]
  by_cases hb : bt x n = true
  · rw [if_pos hb]; exact ⟨fun e => absurd e (by decide), fun e => absurd hb e⟩
  · rw [if_neg hb]; exact ⟨fun _ => hb, fun _ => rfl⟩
theorem gw_bs {n i : Nat} (hn : n < 32) (hi : i < 32) : bt ((1 : Int32) <<< (nI n &&& 31)) i = true ↔ i = n := by
  rw [b_shl n hn _ hi, gw_b1 _ (by omega), Bool.and_eq_true, decide_eq_true_eq, decide_eq_true_eq]
  omega
theorem gw_bor {x : Int32} {n i : Nat} (hn : n < 32) (hi : i < 32) : bt (x ||| ((1 : Int32) <<< (nI n &&& 31))) i = true ↔ bt x i = true ∨ i = n := by
  rw [b_or, Bool.or_eq_true, gw_bs hn hi]
theorem gw_bcl {x : Int32} {n i : Nat} (hn : n < 32) (hi : i < 32) : bt (x &&& (((1 : Int32) <<< (nI n &&& 31)) ^^^ (-1))) i = true ↔ bt x i = true ∧ i ≠ n := by
  rw [b_and, b_xor, b_m1 i hi, Bool.and_eq_true]
  have := gw_bs (n := n) (i := i) hn hi
  cases hb : bt ((1 : Int32) <<< (nI n &&& 31)) i
  · rw [hb] at this
    exact ⟨fun h => ⟨h.1, fun e => absurd (this.mpr e) (by decide)⟩, fun h => ⟨h.1, rfl⟩⟩
  · have e := this.mp hb
    exact ⟨fun h => absurd h.2 (by decide), fun h => absurd e h.2⟩
