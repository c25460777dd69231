/-! send: the steps of both sides -/
section
variable {D V K B : Nat → Int32} {P L C S T : Nat → Option Nat} {F : Nat → Int64} {cu : Option Nat}
section
variable {xcu xar xrc xlc : Int32} {xde xpt xve xok xlt xty xpi : Nat → Int32} {xnu : Nat → Int64} {xtg xse xso xnf xrn xre xrl xrd xll xlr : Nat → Int32}
theorem gx_arrive (hC : gw_C xde xok P L) (hx : gx_C xde P L xpt xlt) (hO : gw_O xde P xok C S T F) (ht : gx_t C xty) {post : Int32 → SX → Prop} {s y t : Nat} {j : Int32} (hy : y < 32) (hs : y / 16 = s) (hc : C y = some t) (h1 : ¬ gw_bar xde P xve xok C s t = 0 → post (gw_bar xde P xve xok C s t) (nI (gw_d y), xar, xrc, xlc, xde, xpt, xve, xok, xlt, xty, xpi, xnu, xtg, xse, xso, xnf, xrn, xre, xrl, xrd, xll, xlr)) (h0 : gw_bar xde P xve xok C s t = 0 → ∀ o, gw_fr C (1 - s) = some o → post 0 (xcu, nI (gw_d o), xrc, xlc, xde, xpt, xve, xok, xlt, upd xty (gw_d o) (nI (6 * (1 - s) + t % 6)), upd xpi (gw_d o) 0, gw_fL xnu (10 * gw_d o) (10 * gw_d o + 10) 0, gw_fi xtg (10 * gw_d o) (10 * gw_d o + 10) (-1), if j = 0 then upd xse (gw_d o) (-1) else upd (upd xse (gw_d o) (-1)) (gw_d y) (nI (gw_d o)), upd xso (gw_d o) (nI (gw_d y)), upd xnf (gw_d o) 0, upd xrn (gw_d o) xar, xre, xrl, xrd, xll, xlr)) : wpX_arrive post (xcu, xar, xrc, xlc, xde, xpt, xve, xok, xlt, xty, xpi, xnu, xtg, xse, xso, xnf, xrn, xre, xrl, xrd, xll, xlr) (nI (gw_d y)) j := by
  have dy := gw_dlt hy
  have hv := hO.1 y hy
  rw [hc, hs] at hv
  have tv := hv t rfl
  have iy : vp_in (nI (gw_d y)) 48 := vp_in_nI dy (by omega)
  have ey : (nI (gw_d y)).toNatClampNeg = gw_d y := nI_clamp (by omega)
  have e3 : 1 - nI (gw_d y) / 32 = nI (1 - s) := by rw [gw_q32 (by omega), gw_dd, hs, gw_s1 (by omega)]
  have e4 : nI (1 - s) * 6 + (xty (nI (gw_d y)).toNatClampNeg - xty (nI (gw_d y)).toNatClampNeg / 6 * 6) = nI (6 * (1 - s) + t % 6) := by
    rw [ey, ht.1 y hy, hc]
    show nI (1 - s) * 6 + (nI t - nI t / 6 * 6) = _
    rw [gw_m6 (by omega), gw_e1]
  refine ⟨gw_32, nm_r e3 ⟨iy, gw_6, nm_r e4 (gx_free hO.1 ht (by omega) ⟨iy, ?_⟩)⟩⟩
  rw [ey, ht.1 y hy, hc]
  unfold gw_bar at h0 h1
  refine gx_misfit hC hx (by omega) hv rfl (br_c (fun hm => ?_) (fun hm => br_f hm ?_))
  · rw [if_pos hm] at h0 h1
    cases hf : gw_fr C (1 - s) with
    | none =>
      rw [if_pos hf] at h0 h1
      exact br_t rfl (br_f (by decide) (h1 (by decide)))
    | some o =>
      rw [if_neg (by rw [hf]; simp)] at h0 h1
      obtain ⟨f1, f2, f3⟩ := gw_fr_p hf
      have ho : o < 32 := by omega
      have dO := gw_dlt ho
      have io : vp_in (nI (gw_d o)) 48 := vp_in_nI dO (by omega)
      have eo : (nI (gw_d o)).toNatClampNeg = gw_d o := nI_clamp (by omega)
      have hp := h0 rfl o hf
      refine br_f (gw_nm (by omega)) (br_t hm (gx_place dO ?_))
      by_cases hj : j = 0
      · rw [if_pos hj] at hp
        exact br_t hj ⟨io, nm_r (by rw [show gw_g (some o) = nI (gw_d o) from rfl, eo]) ⟨io, nm_r (by rw [show gw_g (some o) = nI (gw_d o) from rfl, eo]) ⟨io, nm_r (by rw [show gw_g (some o) = nI (gw_d o) from rfl, eo]) hp⟩⟩⟩
      · rw [if_neg hj] at hp
        exact br_f hj ⟨iy, nm_r (by rw [ey]; rfl) ⟨io, nm_r (by rw [show gw_g (some o) = nI (gw_d o) from rfl, eo]) ⟨io, nm_r (by rw [show gw_g (some o) = nI (gw_d o) from rfl, eo]) ⟨io, nm_r (by rw [show gw_g (some o) = nI (gw_d o) from rfl, eo]) hp⟩⟩⟩⟩
  · rw [if_neg hm] at h1
    exact h1 hm
theorem gx_fillField (hC : gw_C xde xok P L) (hx : gx_C xde P L xpt xlt) (hO : gw_O xde P xok C S T F) (ht : gx_t C xty) (hf : gx_f F xnu) (hg : gx_g T xtg) (hS : gx_s S xse) {post : SX → Prop} {y o r e n : Nat} (hy : y < 32) (ho : o < 32) (cy : C y ≠ none) (co : C o = some r) (he : e < 12) (hn : n < 10) (hso : xso (gw_d o) = nI (gw_d y)) (h1 : gw_in P r (6 * (r / 6) + e % 6) → ¬ xok (10 * (6 * (r / 6) + e % 6) + n) = -1 → post (xcu, xar, xrc, xlc, xde, xpt, xve, xok, xlt, xty, xpi, vp_updL xnu (10 * gw_d o + n) (F (10 * y + n)), upd xtg (10 * gw_d o + n) (gw_g ((T (10 * y + n)).bind S)), xse, xso, xnf, xrn, xre, xrl, xrd, xll, xlr)) (h0 : ¬ (gw_in P r (6 * (r / 6) + e % 6) ∧ ¬ xok (10 * (6 * (r / 6) + e % 6) + n) = -1) → post (xcu, xar, xrc, xlc, xde, xpt, xve, xok, xlt, xty, xpi, xnu, xtg, xse, xso, xnf, xrn, xre, xrl, xrd, xll, xlr)) : wpX_fillField post (xcu, xar, xrc, xlc, xde, xpt, xve, xok, xlt, xty, xpi, xnu, xtg, xse, xso, xnf, xrn, xre, xrl, xrd, xll, xlr) (nI (gw_d o)) (nI e) (nI n) := by
  have dO := gw_dlt ho
  have dy := gw_dlt hy
  have hvr := hO.1 o ho
  rw [co] at hvr
  have rv := hvr r rfl
  have io : vp_in (nI (gw_d o)) 48 := vp_in_nI dO (by omega)
  have eo : (nI (gw_d o)).toNatClampNeg = gw_d o := nI_clamp (by omega)
  refine ⟨io, ?_⟩
  rw [eo, ht.1 o ho, co]
  refine gx_namesake hC hx (s := r / 6) (by omega) rfl (by rw [rv.2.1]; exact hvr) (fun hin => ?_) (fun hin => br_t rfl (h0 (fun z => hin z.1)))
  have b1 := gw_e3 (6 * (r / 6) + e % 6) n
  refine br_f (gw_nm (by omega)) ⟨by rw [b1]; exact vp_in_nI (by omega) (by omega), ?_⟩
  rw [b1, nI_clamp (by omega)]
  refine br_c (fun h => h0 (fun z => z.2 h)) (fun h => ⟨io, ?_⟩)
  have hp := h1 hin h
  have i5 : vp_in (nI (10 * gw_d y + n)) 480 := vp_in_nI (by omega) (by omega)
  have i6 : vp_in (nI (10 * gw_d o + n)) 480 := vp_in_nI (by omega) (by omega)
  have c5 : (nI (10 * gw_d y + n)).toNatClampNeg = 10 * gw_d y + n := nI_clamp (by omega)
  have c6 : (nI (10 * gw_d o + n)).toNatClampNeg = 10 * gw_d o + n := nI_clamp (by omega)
  refine nm_r (e' := nI (10 * gw_d y + n)) (by rw [hso]; exact gw_e3 _ _) (nm_r (gw_e3 _ _) ⟨i5, i6, nm_r (by rw [c5, c6, hf y n hy hn]) ⟨i5, ?_⟩⟩)
  rw [c5, hg y n hy hn]
  cases hT : T (10 * y + n) with
  | none =>
    rw [hT] at hp
    exact br_t rfl ⟨i6, nm_r (by rw [c6]; rfl) hp⟩
  | some z =>
    rw [hT] at hp
    have hz := (hO.2.2.2 y n z hy hn cy hT).1
    have dz := gw_dlt hz
    refine br_f (gw_nm (by omega)) ⟨i5, vp_in_nI dz (by omega), i6, nm_r ?_ hp⟩
    rw [c6, show gw_g (some z) = nI (gw_d z) from rfl, nI_clamp (by omega), hS z hz]
    rfl
/-- the top frame: o is filled from y, d places are done -/
def gx_top (xar : Int32) (xso xnf : Nat → Int32) (y o d : Nat) : Prop := xar = nI (gw_d o) ∧ xso (gw_d o) = nI (gw_d y) ∧ xnf (gw_d o) = nI d
theorem gx_fp {post : Int32 → SX → Prop} {y o d : Nat} (ho : o < 32) (hd : d = 30) (hT : gx_top xar xso xnf y o d) (hp : post 0 (xcu, xrn (gw_d o), xrc, xlc, xde, xpt, xve, xok, xlt, xty, xpi, xnu, xtg, xse, xso, xnf, xrn, xre, xrl, xrd, xll, xlr)) : wpX_fillNextField post (xcu, xar, xrc, xlc, xde, xpt, xve, xok, xlt, xty, xpi, xnu, xtg, xse, xso, xnf, xrn, xre, xrl, xrd, xll, xlr) xar := by
  obtain ⟨h1, h2, h3⟩ := hT
  subst h1
  have dO := gw_dlt ho
  have io : vp_in (nI (gw_d o)) 48 := vp_in_nI dO (by omega)
  have eo : (nI (gw_d o)).toNatClampNeg = gw_d o := nI_clamp (by omega)
  refine ⟨io, nm_r (e' := nI d) (by rw [eo, h3]) (br_f (nI_nlt (a := d) (b := 30) (by omega) (by omega)) ⟨io, nm_r (by rw [eo]) hp⟩)⟩
/-- the next place of the top frame, seen to its kind -/
theorem gx_f79 (hC : gw_C xde xok P L) (hx : gx_C xde P L xpt xlt) (hO : gw_O xde P xok C S T F) (ht : gx_t C xty) {post : Int32 → SX → Prop} {y o d t : Nat} (hy : y < 32) (ho : o < 32) (hd : d < 30) (cy : C y = some t) (hT : gx_top xar xso xnf y o d) (h0 : gw_an P (2 - d / 10) (some t) = none → wX_fillNextField_79 post (nI (gw_d o)) (nI d) (nI (gw_d y)) (nI (d % 10)) (-1) (-1) xcu xar xrc xlc xde xpt xve xok xlt xty xpi xnu xtg xse xso xnf xrn xre xrl xrd xll xlr) (h1 : ∀ e, e < 12 → gw_an P (2 - d / 10) (some t) = some e → wX_fillNextField_79 post (nI (gw_d o)) (nI d) (nI (gw_d y)) (nI (d % 10)) (nI e) (xok (10 * e + d % 10)) xcu xar xrc xlc xde xpt xve xok xlt xty xpi xnu xtg xse xso xnf xrn xre xrl xrd xll xlr) : wpX_fillNextField post (xcu, xar, xrc, xlc, xde, xpt, xve, xok, xlt, xty, xpi, xnu, xtg, xse, xso, xnf, xrn, xre, xrl, xrd, xll, xlr) xar := by
  obtain ⟨g1, g2, g3⟩ := hT
  subst g1
  have dO := gw_dlt ho
  have dy := gw_dlt hy
  have hv := hO.1 y hy
  rw [cy] at hv
  have io : vp_in (nI (gw_d o)) 48 := vp_in_nI dO (by omega)
  have eo : (nI (gw_d o)).toNatClampNeg = gw_d o := nI_clamp (by omega)
  have e10 : 2 - nI d / 10 = nI (2 - d / 10) := by rw [gw_q10 (by omega), gw_s2 (by omega)]
  refine ⟨io, nm_r (e' := nI d) (by rw [eo, g3]) (br_t (nI_lt (b := 30) hd (by omega)) ⟨io, nm_r (e' := nI (gw_d y)) (by rw [eo, g2]) ⟨gw_10, nm_r (gw_m10 (by omega)) ⟨vp_in_nI dy (by omega), gw_10, ?_⟩⟩⟩)⟩
  rw [e10, nI_clamp (by omega), ht.1 y hy, cy]
  refine gx_ancestor hC hx (by omega) hv ?_
  cases he : gw_an P (2 - d / 10) (some t) with
  | none => exact br_t rfl (h0 he)
  | some e =>
    have ev := gw_v_an hC _ _ hv e he
    have b1 := gw_e3 e (d % 10)
    refine br_f (gw_nm (by omega)) ⟨by show vp_in (nI e * 10 + nI (d % 10)) 120; rw [b1]; exact vp_in_nI (by omega) (by omega), ?_⟩
    show wX_fillNextField_79 post (nI (gw_d o)) (nI d) (nI (gw_d y)) (nI (d % 10)) (nI e) (xok (nI e * 10 + nI (d % 10)).toNatClampNeg) xcu (nI (gw_d o)) xrc xlc xde xpt xve xok xlt xty xpi xnu xtg xse xso xnf xrn xre xrl xrd xll xlr
    rw [b1, nI_clamp (by omega)]
    exact h1 e ev.1 he
theorem gx_f141 {post : Int32 → SX → Prop} {o d : Nat} (ho : o < 32) (hp : post 0 (xcu, xar, xrc, xlc, xde, xpt, xve, xok, xlt, xty, xpi, xnu, xtg, xse, xso, upd xnf (gw_d o) (nI (d + 1)), xrn, xre, xrl, xrd, xll, xlr)) : wX_fillNextField_141 post (nI (gw_d o)) (nI d) xcu xar xrc xlc xde xpt xve xok xlt xty xpi xnu xtg xse xso xnf xrn xre xrl xrd xll xlr := by
  have dO := gw_dlt ho
  exact ⟨vp_in_nI dO (by omega), nm_r (by rw [nI_clamp (by omega), nI_1]) hp⟩
/-- a place without a field -/
theorem gx_fs (hC : gw_C xde xok P L) (hx : gx_C xde P L xpt xlt) (hO : gw_O xde P xok C S T F) (ht : gx_t C xty) {post : Int32 → SX → Prop} {y o d t : Nat} (hy : y < 32) (ho : o < 32) (hd : d < 30) (cy : C y = some t) (hT : gx_top xar xso xnf y o d) (hn : ∀ e, gw_an P (2 - d / 10) (some t) = some e → xok (10 * e + d % 10) = -1) (hp : post 0 (xcu, xar, xrc, xlc, xde, xpt, xve, xok, xlt, xty, xpi, xnu, xtg, xse, xso, upd xnf (gw_d o) (nI (d + 1)), xrn, xre, xrl, xrd, xll, xlr)) : wpX_fillNextField post (xcu, xar, xrc, xlc, xde, xpt, xve, xok, xlt, xty, xpi, xnu, xtg, xse, xso, xnf, xrn, xre, xrl, xrd, xll, xlr) xar :=
  gx_f79 hC hx hO ht hy ho hd cy hT (fun _ => br_f (by decide) (br_t rfl (gx_f141 ho hp))) (fun e _ he => by
    rw [hn e he]
    exact br_f (by decide) (br_t rfl (gx_f141 ho hp)))
/-- a field that is copied -/
theorem gx_fc (hC : gw_C xde xok P L) (hx : gx_C xde P L xpt xlt) (hO : gw_O xde P xok C S T F) (ht : gx_t C xty) (hf : gx_f F xnu) (hg : gx_g T xtg) (hS : gx_s S xse) {post : Int32 → SX → Prop} {y o d t r e : Nat} (hy : y < 32) (ho : o < 32) (hd : d < 30) (cy : C y = some t) (co : C o = some r) (hT : gx_top xar xso xnf y o d) (he : gw_an P (2 - d / 10) (some t) = some e) (hk : ¬ xok (10 * e + d % 10) = -1) (hz : xok (10 * e + d % 10) = 4 → ∀ z, T (10 * y + d % 10) = some z → S z ≠ none) (h1 : gw_in P r (6 * (r / 6) + e % 6) → ¬ xok (10 * (6 * (r / 6) + e % 6) + d % 10) = -1 → post 0 (xcu, xar, xrc, xlc, xde, xpt, xve, xok, xlt, xty, xpi, vp_updL xnu (10 * gw_d o + d % 10) (F (10 * y + d % 10)), upd xtg (10 * gw_d o + d % 10) (gw_g ((T (10 * y + d % 10)).bind S)), xse, xso, upd xnf (gw_d o) (nI (d + 1)), xrn, xre, xrl, xrd, xll, xlr)) (h0 : ¬ (gw_in P r (6 * (r / 6) + e % 6) ∧ ¬ xok (10 * (6 * (r / 6) + e % 6) + d % 10) = -1) → post 0 (xcu, xar, xrc, xlc, xde, xpt, xve, xok, xlt, xty, xpi, xnu, xtg, xse, xso, upd xnf (gw_d o) (nI (d + 1)), xrn, xre, xrl, xrd, xll, xlr)) : wpX_fillNextField post (xcu, xar, xrc, xlc, xde, xpt, xve, xok, xlt, xty, xpi, xnu, xtg, xse, xso, xnf, xrn, xre, xrl, xrd, xll, xlr) xar := by
  refine gx_f79 hC hx hO ht hy ho hd cy hT (fun z => by rw [he] at z; exact absurd z (by simp)) (fun e' he12 he' => ?_)
  rw [he] at he'
  cases he'
  have dy := gw_dlt hy
  have hcy : C y ≠ none := by rw [cy]; simp
  have go : wX_fillNextField_126 post (nI (gw_d o)) (nI d) (nI (d % 10)) (nI e) (xok (10 * e + d % 10)) xcu xar xrc xlc xde xpt xve xok xlt xty xpi xnu xtg xse xso xnf xrn xre xrl xrd xll xlr := by
    refine br_f hk (gx_fillField hC hx hO ht hf hg hS hy ho hcy co he12 (by omega) hT.2.1 (fun a b => gx_f141 ho (h1 a b)) (fun a => gx_f141 ho (h0 a)))
  refine br_c (fun h4 => ?_) (fun _ => go)
  have b1 := gw_e3 (gw_d y) (d % 10)
  refine ⟨by rw [b1]; exact vp_in_nI (by omega) (by omega), nm_r (e' := gw_g (T (10 * y + d % 10))) (by rw [b1, nI_clamp (by omega)]; exact hg y _ hy (by omega)) ?_⟩
  cases hTz : T (10 * y + d % 10) with
  | none => exact br_t rfl go
  | some z =>
    have hz32 := (hO.2.2.2 y _ z hy (by omega) hcy hTz).1
    have dz := gw_dlt hz32
    refine br_f (gw_nm (by omega)) ⟨vp_in_nI dz (by omega), br_f ?_ go⟩
    rw [show gw_g (some z) = nI (gw_d z) from rfl, nI_clamp (by omega), hS z hz32]
    cases hSz : S z with
    | none => exact absurd hSz (hz h4 z hTz)
    | some q =>
      have dq := gw_dlt (hO.2.1 z q hz32 hSz).1
      exact gw_nm (by omega)
/-- a target that must arrive first -/
theorem gx_fa (hC : gw_C xde xok P L) (hx : gx_C xde P L xpt xlt) (hO : gw_O xde P xok C S T F) (ht : gx_t C xty) (hg : gx_g T xtg) (hS : gx_s S xse) {post : Int32 → SX → Prop} {y o d t e z : Nat} (hy : y < 32) (ho : o < 32) (hd : d < 30) (cy : C y = some t) (hT : gx_top xar xso xnf y o d) (he : gw_an P (2 - d / 10) (some t) = some e) (hk : xok (10 * e + d % 10) = 4) (hTz : T (10 * y + d % 10) = some z) (hSz : S z = none) (hp : wpX_arrive (fun r u => match u with | (xcu68, xar68, xrc68, xlc68, xde68, xpt68, xve68, xok68, xlt68, xty68, xpi68, xnu68, xtg68, xse68, xso68, xnf68, xrn68, xre68, xrl68, xrd68, xll68, xlr68) => post r (xcu68, xar68, xrc68, xlc68, xde68, xpt68, xve68, xok68, xlt68, xty68, xpi68, xnu68, xtg68, xse68, xso68, xnf68, xrn68, xre68, xrl68, xrd68, xll68, xlr68)) (xcu, xar, xrc, xlc, xde, xpt, xve, xok, xlt, xty, xpi, xnu, xtg, xse, xso, xnf, xrn, xre, xrl, xrd, xll, xlr) (nI (gw_d z)) 1) : wpX_fillNextField post (xcu, xar, xrc, xlc, xde, xpt, xve, xok, xlt, xty, xpi, xnu, xtg, xse, xso, xnf, xrn, xre, xrl, xrd, xll, xlr) xar := by
  refine gx_f79 hC hx hO ht hy ho hd cy hT (fun z => by rw [he] at z; exact absurd z (by simp)) (fun e' he12 he' => ?_)
  rw [he] at he'
  cases he'
  have dy := gw_dlt hy
  have hcy : C y ≠ none := by rw [cy]; simp
  have b1 := gw_e3 (gw_d y) (d % 10)
  have hz32 := (hO.2.2.2 y _ z hy (by omega) hcy hTz).1
  have dz := gw_dlt hz32
  refine br_t hk ⟨by rw [b1]; exact vp_in_nI (by omega) (by omega), nm_r (e' := nI (gw_d z)) (by rw [b1, nI_clamp (by omega), hg y _ hy (by omega), hTz]; rfl) (br_f (gw_nm (by omega)) ⟨vp_in_nI dz (by omega), br_t ?_ hp⟩)⟩
  rw [nI_clamp (by omega), hS z hz32, hSz]
  rfl
end
section
variable {ycu ydp ylm : Int32} {yde yve ypa yow yla ycl ypr ypi yar : Nat → Int32} {yva : Nat → Int64} {yfr yma ydo yro : Nat → Int32}
theorem gy_begin (hC : gw_C yde yow P L) (hy : gy_C yde P L ypa yla) (hO : gw_O yde P yow C S T F) (ht : gy_t C ycl) {post : Int32 → SY → Prop} {s y t m : Nat} {p1 j : Int32} (hy' : y < 32) (hs : y / 16 = s) (hc : C y = some t) (hm : m < 40) (hd : ydp = nI m) (hj : (j = 0) ↔ (m = 0 ∧ ¬ p1 = 0)) (h1 : ¬ gw_bar yde P yve yow C s t = 0 → post (gw_bar yde P yve yow C s t) (nI (gw_d y), ydp, ylm, yde, yve, ypa, yow, yla, ycl, ypr, ypi, yar, yva, yfr, yma, ydo, yro)) (h0 : gw_bar yde P yve yow C s t = 0 → ∀ o, gw_fr C (1 - s) = some o → post 0 (ycu, nI (m + 1), ylm, yde, yve, ypa, yow, yla, upd ycl o (nI ((6 * (1 - s) + t % 6) % 6)), if j = 0 then upd ypr o (-1) else upd (upd ypr o (-1)) y (nI o), upd ypi o 0, upd yar o 1, gw_cv P yow (6 * (1 - s) + t % 6) yva o 0, upd yfr m (nI y), upd yma m (nI o), upd ydo m 0, yro)) : wpY_begin post (ycu, ydp, ylm, yde, yve, ypa, yow, yla, ycl, ypr, ypi, yar, yva, yfr, yma, ydo, yro) (nI y) p1 := by
  subst hd
  unfold wpY_begin; dsimp only
  have hv := hO.1 y hy'
  rw [hc, hs] at hv
  have tv := hv t rfl
  refine gy_obst hC hy hO ht hs hy' hc (br_c (fun hb => ⟨gw_16, ?_⟩) (fun hb => gy_id hy' (h1 hb)))
  rw [gw_q16 (by omega), hs, gw_s1 (by omega)]
  refine gy_free hO.1 ht (by omega) ⟨vp_in_nI hy' (by omega), ?_⟩
  cases hf : gw_fr C (1 - s) with
  | none =>
    unfold gw_bar at hb
    by_cases hmf : gw_mf yde P yve yow t (6 * (1 - s) + t % 6) = 0
    · rw [if_pos hmf, if_pos hf] at hb; exact absurd hb (by decide)
    · rw [if_neg hmf] at hb; exact absurd hb hmf
  | some o =>
    obtain ⟨f1, f2, f3⟩ := gw_fr_p hf
    have ho : o < 32 := by omega
    have hmf : gw_mf yde P yve yow t (6 * (1 - s) + t % 6) = 0 := by
      unfold gw_bar at hb
      by_cases hmf : gw_mf yde P yve yow t (6 * (1 - s) + t % 6) = 0
      · exact hmf
      · rw [if_neg hmf] at hb; exact absurd hb hmf
    have hDr := (gw_mf_0 hmf).1
    have hvr : gw_v yde (o / 16) (some (6 * (1 - s) + t % 6)) := gw_v_mk (by omega) (by omega) hDr
    have hp := h0 hb o hf
    rw [nI_clamp (by omega), ht y hy', hc]
    have ec : gw_c (some t) = nI ((6 * (1 - s) + t % 6) % 6) := congrArg nI (by omega)
    rw [ec]
    have io : vp_in (nI o) 32 := vp_in_nI ho (by omega)
    have eo : (nI o).toNatClampNeg = o := nI_clamp (by omega)
    have im : vp_in (nI m) 40 := vp_in_nI hm (by omega)
    have em : (nI m).toNatClampNeg = m := nI_clamp (by omega)
    refine gy_create hC hy ho hvr ⟨io, nm_r (by rw [show gw_o (some o) = nI o from rfl, eo, gw_n1]) ?_⟩
    have h72 : ∀ ypr2, post 0 (ycu, nI (m + 1), ylm, yde, yve, ypa, yow, yla, upd ycl o (nI ((6 * (1 - s) + t % 6) % 6)), ypr2, upd ypi o 0, upd yar o 1, gw_cv P yow (6 * (1 - s) + t % 6) yva o 0, upd yfr m (nI y), upd yma m (nI o), upd ydo m 0, yro) → wY_begin_72 post (nI y) (nI o) ycu (nI m) ylm yde yve ypa yow yla (upd ycl o (nI ((6 * (1 - s) + t % 6) % 6))) ypr2 (upd ypi o 0) (upd yar o 1) (gw_cv P yow (6 * (1 - s) + t % 6) yva o 0) yfr yma ydo yro := fun ypr2 hq =>
      ⟨im, nm_r (by rw [em]) ⟨im, nm_r (by rw [em]) ⟨im, nm_r (by rw [em]) (nm_r (nI_1 m) hq)⟩⟩⟩
    have h64 : ¬ j = 0 → wY_begin_64 post (nI y) (nI o) ycu (nI m) ylm yde yve ypa yow yla (upd ycl o (nI ((6 * (1 - s) + t % 6) % 6))) (upd ypr o (-1)) (upd ypi o 0) (upd yar o 1) (gw_cv P yow (6 * (1 - s) + t % 6) yva o 0) yfr yma ydo yro := fun hj0 => by
      rw [if_neg hj0] at hp
      exact ⟨vp_in_nI hy' (by omega), nm_r (by rw [nI_clamp (by omega)]) (h72 _ hp)⟩
    refine pk_lt 0 m (fun h => h64 (fun z => by have := (hj.mp z).1; omega)) (fun h => br_c (fun hp1 => h64 (fun z => (hj.mp z).2 hp1)) (fun hp1 => ?_))
    have hj0 := hj.mpr ⟨by omega, hp1⟩
    rw [if_pos hj0] at hp
    exact h72 _ hp
theorem gy_give (hC : gw_C yde yow P L) (hy : gy_C yde P L ypa yla) (hO : gw_O yde P yow C S T F) (ht : gy_t C ycl) {post : SY → Prop} {s y o d t r e m : Nat} {x : Int64} (hy' : y < 32) (hs : y / 16 = s) (ho : o < 32) (cy : C y = some t) (co : C o = some r) (hr : r = 6 * (1 - s) + t % 6) (hd : d < 30) (hm : m < 40) (f1 : yfr m = nI y) (f2 : yma m = nI o) (f3 : ydo m = nI d) (he : gw_an P (2 - d / 10) (some t) = some e) (h1 : gw_in P r (6 * (r / 6) + e % 6) → ¬ yow (10 * (6 * (r / 6) + e % 6) + d % 10) = -1 → post (ycu, ydp, ylm, yde, yve, ypa, yow, yla, ycl, ypr, ypi, yar, vp_updL yva (10 * o + d % 10) x, yfr, yma, upd ydo m (nI (d + 1)), yro)) (h0 : ¬ (gw_in P r (6 * (r / 6) + e % 6) ∧ ¬ yow (10 * (6 * (r / 6) + e % 6) + d % 10) = -1) → post (ycu, ydp, ylm, yde, yve, ypa, yow, yla, ycl, ypr, ypi, yar, yva, yfr, yma, upd ydo m (nI (d + 1)), yro)) : wpY_give post (ycu, ydp, ylm, yde, yve, ypa, yow, yla, ycl, ypr, ypi, yar, yva, yfr, yma, ydo, yro) (nI m) x := by
  have hv := hO.1 y hy'
  rw [cy, hs] at hv
  have tv := hv t rfl
  have hvr := hO.1 o ho
  rw [co] at hvr
  have rv := hvr r rfl
  have et : 6 * s + t % 6 = t := by omega
  have er : r / 6 = 1 - s := by omega
  have im : vp_in (nI m) 40 := vp_in_nI hm (by omega)
  have em : (nI m).toNatClampNeg = m := nI_clamp (by omega)
  have iy : vp_in (nI y) 32 := vp_in_nI hy' (by omega)
  have h111 : ∀ yva2, post (ycu, ydp, ylm, yde, yve, ypa, yow, yla, ycl, ypr, ypi, yar, yva2, yfr, yma, upd ydo m (nI (d + 1)), yro) → wY_give_111 post (nI m) ycu ydp ylm yde yve ypa yow yla ycl ypr ypi yar yva2 yfr yma ydo yro := fun yva2 hp => ⟨im, im, nm_r (by rw [em, f3, nI_1]) hp⟩
  refine ⟨im, nm_r (e' := nI y) (by rw [em, f1]) ⟨im, nm_r (e' := nI o) (by rw [em, f2]) ⟨gw_16, nm_r (e' := nI s) (by rw [gw_q16 (by omega), hs]) (nm_r (gw_s1 (by omega)) ⟨im, gw_10, nm_r (e' := nI (d % 10)) (by rw [em, f3]; exact gw_m10 (by omega)) ⟨iy, im, gw_10, ?_⟩⟩)⟩⟩⟩
  rw [em, f3, nI_clamp (by omega), ht y hy', cy, show 2 - nI d / 10 = nI (2 - d / 10) by rw [gw_q10 (by omega), gw_s2 (by omega)]]
  refine gy_chain hC hy (by omega) (by omega) (by rw [et]; exact hv) ⟨iy, ?_⟩
  rw [et, he]
  have ev := gw_v_an hC _ _ hv e he
  have hvr2 : gw_v yde (1 - s) (some (6 * (1 - s) + t % 6)) := by rw [← hr]; exact gw_v_mk rv.1 (by omega) rv.2.2
  refine gy_inChain hC hy (by omega) (by omega) (e := e) (by omega) rfl hvr2 (fun hin => br_f (by decide) (gy_own (by omega) (by omega) (by omega) ?_)) (fun hin => br_t rfl (h111 _ (h0 (fun z => hin ?_))))
  · rw [← hr, ← er] at hin
    rw [← er]
    by_cases hk : yow (10 * (6 * (r / 6) + e % 6) + d % 10) = -1
    · exact br_t (by rw [hk]; decide) (h111 _ (h0 (fun z => z.2 hk)))
    · obtain ⟨q, q1, q2⟩ := hC.2.1 _ (by omega) hk
      refine br_f (by rw [q2]; exact gw_p0 (by omega)) ⟨by rw [gw_e7]; exact vp_in_nI (by omega) (by omega), nm_r (by rw [gw_e7, nI_clamp (by omega)]) (h111 _ (h1 hin hk))⟩
  · rw [← hr, ← er]; exact z.1
def gy_top (yfr yma ydo : Nat → Int32) (m y o d : Nat) : Prop := yfr m = nI y ∧ yma m = nI o ∧ ydo m = nI d
/-- the next place of the top frame, seen to its kind -/
theorem gy_g128 (hC : gw_C yde yow P L) (hy : gy_C yde P L ypa yla) (hO : gw_O yde P yow C S T F) (ht : gy_t C ycl) {post : Int32 → SY → Prop} {s y o d t m : Nat} {p0 : Int32} (hy' : y < 32) (hs : y / 16 = s) (cy : C y = some t) (hd : d < 30) (hm : m < 40) (hdp : ydp = nI (m + 1)) (hT : gy_top yfr yma ydo m y o d) (h0 : gw_an P (2 - d / 10) (some t) = none → wY_goOn_128 post p0 (nI m) (nI y) (nI (d % 10)) (-1) ycu ydp ylm yde yve ypa yow yla ycl ypr ypi yar yva yfr yma ydo yro) (h1 : ∀ e, e < 12 → gw_an P (2 - d / 10) (some t) = some e → wY_goOn_128 post p0 (nI m) (nI y) (nI (d % 10)) (yow (10 * e + d % 10)) ycu ydp ylm yde yve ypa yow yla ycl ypr ypi yar yva yfr yma ydo yro) : wpY_goOn post (ycu, ydp, ylm, yde, yve, ypa, yow, yla, ycl, ypr, ypi, yar, yva, yfr, yma, ydo, yro) p0 := by
  obtain ⟨f1, f2, f3⟩ := hT
  have hv := hO.1 y hy'
  rw [cy, hs] at hv
  have tv := hv t rfl
  have et : 6 * s + t % 6 = t := by omega
  have im : vp_in (nI m) 40 := vp_in_nI hm (by omega)
  have em : (nI m).toNatClampNeg = m := nI_clamp (by omega)
  have iy : vp_in (nI y) 32 := vp_in_nI hy' (by omega)
  refine nm_r (e' := nI m) (by rw [hdp, nI_pred]) ⟨im, nm_r (e' := nI y) (by rw [em, f1]) ⟨im, nm_r (e' := nI o) (by rw [em, f2]) ⟨im, nm_r (e' := nI d) (by rw [em, f3]) (br_f (fun z => ?_) ⟨gw_16, nm_r (e' := nI s) (by rw [gw_q16 (by omega), hs]) ⟨iy, gw_10, ?_⟩⟩)⟩⟩⟩
  · have z' : nI d = nI 30 := z
    rw [nI_eq (by omega) (by omega)] at z'
    omega
  · rw [nI_clamp (by omega), ht y hy', cy, show 2 - nI d / 10 = nI (2 - d / 10) by rw [gw_q10 (by omega), gw_s2 (by omega)]]
    refine gy_chain hC hy (by omega) (by omega) (by rw [et]; exact hv) ⟨gw_10, nm_r (gw_m10 (by omega)) ?_⟩
    rw [et]
    cases he : gw_an P (2 - d / 10) (some t) with
    | none => exact br_f (by decide) (h0 he)
    | some e =>
      have ev := gw_v_an hC _ _ hv e he
      refine br_t (nI_pos' (by omega)) (gy_own (by omega) (by omega) (by omega) ?_)
      rw [show 6 * s + e % 6 = e by omega]
      exact h1 e ev.1 he
theorem gy_gs (hC : gw_C yde yow P L) (hy : gy_C yde P L ypa yla) (hO : gw_O yde P yow C S T F) (ht : gy_t C ycl) {post : Int32 → SY → Prop} {s y o d t m : Nat} {p0 : Int32} (hy' : y < 32) (hs : y / 16 = s) (cy : C y = some t) (hd : d < 30) (hm : m < 40) (hdp : ydp = nI (m + 1)) (hT : gy_top yfr yma ydo m y o d) (hn : ∀ e, gw_an P (2 - d / 10) (some t) = some e → yow (10 * e + d % 10) = -1) (hp : post 0 (ycu, ydp, ylm, yde, yve, ypa, yow, yla, ycl, ypr, ypi, yar, yva, yfr, yma, upd ydo m (nI (d + 1)), yro)) : wpY_goOn post (ycu, ydp, ylm, yde, yve, ypa, yow, yla, ycl, ypr, ypi, yar, yva, yfr, yma, ydo, yro) p0 := by
  have im : vp_in (nI m) 40 := vp_in_nI hm (by omega)
  have em : (nI m).toNatClampNeg = m := nI_clamp (by omega)
  have go : wY_goOn_128 post p0 (nI m) (nI y) (nI (d % 10)) (-1) ycu ydp ylm yde yve ypa yow yla ycl ypr ypi yar yva yfr yma ydo yro := br_f (by decide) (br_t (by decide) ⟨im, im, nm_r (by rw [em, hT.2.2, nI_1]) hp⟩)
  exact gy_g128 hC hy hO ht hy' hs cy hd hm hdp hT (fun _ => go) (fun e _ he => by rw [hn e he]; exact go)
theorem gy_gc (hC : gw_C yde yow P L) (hy : gy_C yde P L ypa yla) (hO : gw_O yde P yow C S T F) (ht : gy_t C ycl) (hv' : gy_v P yow C T F yva) (hS : gy_s S ypr) {post : Int32 → SY → Prop} {s y o d t r e m : Nat} {p0 : Int32} (hy' : y < 32) (hs : y / 16 = s) (ho : o < 32) (cy : C y = some t) (co : C o = some r) (hr : r = 6 * (1 - s) + t % 6) (hd : d < 30) (hm : m < 40) (hdp : ydp = nI (m + 1)) (hT : gy_top yfr yma ydo m y o d) (he : gw_an P (2 - d / 10) (some t) = some e) (hk : ¬ yow (10 * e + d % 10) = -1) (hz : yow (10 * e + d % 10) = 4 → ∀ z, T (10 * y + d % 10) = some z → S z ≠ none) (h1 : ∀ x, x = (if gw_kd P yow t (d % 10) = 4 then (gw_o ((T (10 * y + d % 10)).bind S)).toInt64 else F (10 * y + d % 10)) → gw_in P r (6 * (r / 6) + e % 6) → ¬ yow (10 * (6 * (r / 6) + e % 6) + d % 10) = -1 → post 0 (ycu, ydp, ylm, yde, yve, ypa, yow, yla, ycl, ypr, ypi, yar, vp_updL yva (10 * o + d % 10) x, yfr, yma, upd ydo m (nI (d + 1)), yro)) (h0 : ¬ (gw_in P r (6 * (r / 6) + e % 6) ∧ ¬ yow (10 * (6 * (r / 6) + e % 6) + d % 10) = -1) → post 0 (ycu, ydp, ylm, yde, yve, ypa, yow, yla, ycl, ypr, ypi, yar, yva, yfr, yma, upd ydo m (nI (d + 1)), yro)) : wpY_goOn post (ycu, ydp, ylm, yde, yve, ypa, yow, yla, ycl, ypr, ypi, yar, yva, yfr, yma, ydo, yro) p0 := by
  have hv := hO.1 y hy'
  rw [cy, hs] at hv
  have tv := hv t rfl
  have ev := gw_v_an hC _ _ hv e he
  have hcy : C y ≠ none := by rw [cy]; simp
  have kk := hC.2.2.2.1 t tv.1 tv.2.2 e (d % 10) ⟨2 - d / 10, by omega, he⟩ (by omega) hk
  have b7 := gw_e7 y (d % 10)
  have i7 : vp_in (10 * nI y + nI (d % 10)) 320 := by rw [b7]; exact vp_in_nI (by omega) (by omega)
  have hval := hv' y (d % 10) t hy' (by omega) cy
  have give : ∀ x, x = (if gw_kd P yow t (d % 10) = 4 then (gw_o ((T (10 * y + d % 10)).bind S)).toInt64 else F (10 * y + d % 10)) → wpY_give (fun u => match u with | (ycu59, ydp59, ylm59, yde59, yve59, ypa59, yow59, yla59, ycl59, ypr59, ypi59, yar59, yva59, yfr59, yma59, ydo59, yro59) => (post 0 (ycu59, ydp59, ylm59, yde59, yve59, ypa59, yow59, yla59, ycl59, ypr59, ypi59, yar59, yva59, yfr59, yma59, ydo59, yro59))) (ycu, ydp, ylm, yde, yve, ypa, yow, yla, ycl, ypr, ypi, yar, yva, yfr, yma, ydo, yro) (nI m) x := fun x hx =>
    gy_give hC hy hO ht hy' hs ho cy co hr hd hm hT.1 hT.2.1 hT.2.2 he (fun a b => h1 x hx a b) (fun a => h0 a)
  have g202 : yow (10 * e + d % 10) = 4 ∧ T (10 * y + d % 10) = none ∨ ¬ yow (10 * e + d % 10) = 4 → wY_goOn_202 post (nI m) (nI y) (nI (d % 10)) (yow (10 * e + d % 10)) ycu ydp ylm yde yve ypa yow yla ycl ypr ypi yar yva yfr yma ydo yro := fun hh => by
    obtain ⟨q, q1, q2⟩ := hC.2.1 _ (by omega) hk
    refine br_f (by rw [q2]; exact gw_p0 (by omega)) ⟨i7, ?_⟩
    rw [b7, nI_clamp (by omega)]
    refine give _ ?_
    rw [hval]
    rcases hh with ⟨a, b⟩ | a
    · rw [if_pos (kk.trans a), if_pos (kk.trans a), b]; rfl
    · rw [if_neg (fun z => a (kk.symm.trans z)), if_neg (fun z => a (kk.symm.trans z))]
  refine gy_g128 hC hy hO ht hy' hs cy hd hm hdp hT (fun z => by rw [he] at z; exact absurd z (by simp)) (fun e' he12 he' => ?_)
  rw [he] at he'
  cases he'
  refine br_c (fun h4 => ⟨i7, ?_⟩) (fun h4 => g202 (Or.inr h4))
  rw [b7, nI_clamp (by omega), hval, if_pos (kk.trans h4)]
  cases hTz : T (10 * y + d % 10) with
  | none => exact br_t gw_tl0 (g202 (Or.inl ⟨h4, hTz⟩))
  | some z =>
    have hz32 := (hO.2.2.2 y _ z hy' (by omega) hcy hTz).1
    refine br_f (gw_tln (by omega)) ⟨by rw [← b7]; exact i7, nm_r (gw_toI (by omega)) ⟨vp_in_nI hz32 (by omega), ?_⟩⟩
    rw [nI_clamp (by omega), hS z hz32]
    cases hSz : S z with
    | none => exact absurd hSz (hz h4 z hTz)
    | some q =>
      have hq := (hO.2.1 z q hz32 hSz).1
      refine br_t (nI_pos' (by omega)) ⟨vp_in_nI hz32 (by omega), give _ ?_⟩
      rw [if_pos (kk.trans h4), hTz]
      show _ = (gw_o (S z)).toInt64
      rw [hSz]
theorem gy_gb (hC : gw_C yde yow P L) (hy : gy_C yde P L ypa yla) (hO : gw_O yde P yow C S T F) (ht : gy_t C ycl) (hv' : gy_v P yow C T F yva) (hS : gy_s S ypr) {post : Int32 → SY → Prop} {s y o d t e z m : Nat} {p0 : Int32} (hy' : y < 32) (hs : y / 16 = s) (cy : C y = some t) (hd : d < 30) (hm : m < 40) (hdp : ydp = nI (m + 1)) (hT : gy_top yfr yma ydo m y o d) (he : gw_an P (2 - d / 10) (some t) = some e) (hk : yow (10 * e + d % 10) = 4) (hTz : T (10 * y + d % 10) = some z) (hSz : S z = none) (hp : wpY_begin (fun r u => match u with | (ycu102, ydp102, ylm102, yde102, yve102, ypa102, yow102, yla102, ycl102, ypr102, ypi102, yar102, yva102, yfr102, yma102, ydo102, yro102) => (post r (ycu102, ydp102, ylm102, yde102, yve102, ypa102, yow102, yla102, ycl102, ypr102, ypi102, yar102, yva102, yfr102, yma102, ydo102, yro102))) (ycu, ydp, ylm, yde, yve, ypa, yow, yla, ycl, ypr, ypi, yar, yva, yfr, yma, ydo, yro) (nI z) p0) : wpY_goOn post (ycu, ydp, ylm, yde, yve, ypa, yow, yla, ycl, ypr, ypi, yar, yva, yfr, yma, ydo, yro) p0 := by
  have hv := hO.1 y hy'
  rw [cy, hs] at hv
  have tv := hv t rfl
  have hcy : C y ≠ none := by rw [cy]; simp
  have kk := hC.2.2.2.1 t tv.1 tv.2.2 e (d % 10) ⟨2 - d / 10, by omega, he⟩ (by omega) (by rw [hk]; decide)
  have b7 := gw_e7 y (d % 10)
  have i7 : vp_in (10 * nI y + nI (d % 10)) 320 := by rw [b7]; exact vp_in_nI (by omega) (by omega)
  have hval := hv' y (d % 10) t hy' (by omega) cy
  have hz32 := (hO.2.2.2 y _ z hy' (by omega) hcy hTz).1
  refine gy_g128 hC hy hO ht hy' hs cy hd hm hdp hT (fun z => by rw [he] at z; exact absurd z (by simp)) (fun e' he12 he' => ?_)
  rw [he] at he'
  cases he'
  refine br_t hk ⟨i7, ?_⟩
  rw [b7, nI_clamp (by omega), hval, if_pos (kk.trans hk), hTz]
  refine br_f (gw_tln (by omega)) ⟨by rw [← b7]; exact i7, nm_r (gw_toI (by omega)) ⟨vp_in_nI hz32 (by omega), ?_⟩⟩
  rw [nI_clamp (by omega), hS z hz32, hSz]
  exact br_f (by decide) hp
/-- the last frame is done -/
theorem gy_gl {post : Int32 → SY → Prop} {y o d : Nat} {p0 : Int32} (hd : d = 30) (hdp : ydp = nI 1) (hT : gy_top yfr yma ydo 0 y o d) (hp : post 0 (ycu, 0, nI o, yde, yve, ypa, yow, yla, ycl, ypr, ypi, yar, yva, yfr, yma, ydo, yro)) : wpY_goOn post (ycu, ydp, ylm, yde, yve, ypa, yow, yla, ycl, ypr, ypi, yar, yva, yfr, yma, ydo, yro) p0 := by
  obtain ⟨f1, f2, f3⟩ := hT
  have im : vp_in (nI 0) 40 := vp_in_nI (by omega) (by omega)
  have em : (nI 0).toNatClampNeg = 0 := nI_clamp (by omega)
  refine nm_r (e' := nI 0) (by rw [hdp]; exact nI_pred 0) ⟨im, nm_r (e' := nI y) (by rw [em, f1]) ⟨im, nm_r (e' := nI o) (by rw [em, f2]) ⟨im, nm_r (e' := nI d) (by rw [em, f3]) (br_t (by rw [hd]; rfl) (nm_r (e' := nI 0) (by rw [hdp]; exact nI_pred 0) (br_t (by decide) hp)))⟩⟩⟩
/-- a frame is done, and its object given to the one below -/
theorem gy_gp {post : Int32 → SY → Prop} {y o d m : Nat} {p0 : Int32} (hd : d = 30) (hm : m + 1 < 40) (hdp : ydp = nI (m + 2)) (hT : gy_top yfr yma ydo (m + 1) y o d) (hp : wpY_give (fun u => match u with | (ycu122, ydp122, ylm122, yde122, yve122, ypa122, yow122, yla122, ycl122, ypr122, ypi122, yar122, yva122, yfr122, yma122, ydo122, yro122) => (post 0 (ycu122, ydp122, ylm122, yde122, yve122, ypa122, yow122, yla122, ycl122, ypr122, ypi122, yar122, yva122, yfr122, yma122, ydo122, yro122))) (ycu, nI (m + 1), nI o, yde, yve, ypa, yow, yla, ycl, ypr, ypi, yar, yva, yfr, yma, ydo, yro) (nI m) (nI o).toInt64) : wpY_goOn post (ycu, ydp, ylm, yde, yve, ypa, yow, yla, ycl, ypr, ypi, yar, yva, yfr, yma, ydo, yro) p0 := by
  obtain ⟨f1, f2, f3⟩ := hT
  have im : vp_in (nI (m + 1)) 40 := vp_in_nI hm (by omega)
  have em : (nI (m + 1)).toNatClampNeg = m + 1 := nI_clamp (by omega)
  refine nm_r (e' := nI (m + 1)) (by rw [hdp]; exact nI_pred (m + 1)) ⟨im, nm_r (e' := nI y) (by rw [em, f1]) ⟨im, nm_r (e' := nI o) (by rw [em, f2]) ⟨im, nm_r (e' := nI d) (by rw [em, f3]) (br_t (by rw [hd]; rfl) (nm_r (e' := nI (m + 1)) (by rw [hdp]; exact nI_pred (m + 1)) (br_f (nI_nle (by omega) (by omega)) ?_)))⟩⟩⟩
  rw [nI_pred]
  exact hp
end
end
