/-! set, link, make, define, field -/
section
theorem gx_cut {post : Int64 → Prop} {u : SX} {p0 : Int32} {p1 : Int64} (hp : post (if p0 = 0 then p1.toInt32.toInt8.toInt32.toInt64 else if p0 = 1 then p1.toInt32.toInt16.toInt32.toInt64 else if p0 = 2 then p1.toInt32.toInt64 else p1)) : wpX_cutTo post u p0 p1 := by
  obtain ⟨xcu, xar, xrc, xlc, xde, xpt, xve, xok, xlt, xty, xpi, xnu, xtg, xse, xso, xnf, xrn, xre, xrl, xrd, xll, xlr⟩ := u
  refine br_c (fun h => ?_) (fun h => br_c (fun h1 => ?_) (fun h1 => br_c (fun h2 => ?_) (fun h2 => ?_)))
  · rw [if_pos h] at hp; exact hp
  · rw [if_neg h, if_pos h1] at hp; exact hp
  · rw [if_neg h, if_neg h1, if_pos h2] at hp; exact hp
  · rw [if_neg h, if_neg h1, if_neg h2] at hp; exact hp
theorem i_vc_set {k : Nat} {u : SX} {v : SY} (I : i_Rel k u v) (hk : k + 5 ≤ 2560) (v1 : Int32) (v2 : Int32) (a2 : Int64) : wpX_set (fun r u' => wpY_set (fun r' v' => r' = r ∧ i_Rel (k + 5) u' v') v v1 v2 a2) u v1 v2 a2 := by
  have I' := I
  obtain ⟨xcu, xar, xrc, xlc, xde, xpt, xve, xok, xlt, xty, xpi, xnu, xtg, xse, xso, xnf, xrn, xre, xrl, xrd, xll, xlr⟩ := u
  obtain ⟨ycu, ydp, ylm, yde, yve, ypa, yow, yla, ycl, ypr, ypi, yar, yva, yfr, yma, ydo, yro⟩ := v
  obtain ⟨D, V, K, P, L, C, S, T, B, F, cu, hC, hO, hX, hY⟩ := I
  obtain ⟨rfl, rfl, rfl, hxc, hxt, hxb, hxf, hxg, hxs, hxu⟩ := hX
  obtain ⟨rfl, rfl, rfl, hyc, hyt, hyb, hyv, hys, hyu⟩ := hY
  unfold wpX_set wpY_set; dsimp only
  rcases gw_obj C v1 with ⟨o, t, ho, hCo, rfl⟩ | hno
  · have hv := hO.1 o ho
    rw [hCo] at hv
    have hd := gw_dlt ho
    have h12 := (hv t rfl).1
    rcases gw_nam v2 with ⟨n, hn, rfl⟩ | hnn
    · refine gx_hasNum hC hxc hxt ho hCo hv hn (fun h => br_t rfl ?_) (fun h h' => br_f (by decide) ⟨vp_in_nI hd (by omega), ?_⟩)
      · refine gy_obj1 hyt ho hCo (gy_kindOf hC hyc hyt ho hCo hv hn ?_)
        rcases h with h | h
        · exact br_t (by rw [h]; decide) ⟨rfl, I'⟩
        · exact br_f (by rw [h]; decide) (br_t h ⟨rfl, I'⟩)
      · rw [nI_clamp (by omega), hxt.1 o ho, hCo]
        refine gx_kind hC hxc hn hv (gx_cut ⟨by rw [gw_e3]; exact vp_in_nI (by omega) (by omega), nm_r (by rw [gw_e3, nI_clamp (by omega)]) ?_⟩)
        have fin : ∀ x : Int64, i_Rel (k + 5) (xcu, xar, xrc, xlc, yde, xpt, yve, yow, xlt, xty, xpi, vp_updL xnu (10 * gw_d o + n) x, xtg, xse, xso, xnf, xrn, xre, xrl, xrd, xll, xlr) (ycu, ydp, ylm, yde, yve, ypa, yow, yla, ycl, ypr, ypi, yar, vp_updL yva (10 * o + n) x, yfr, yma, ydo, yro) := fun x => ⟨yde, yve, yow, P, L, C, S, T, B, gw_u F (10 * o + n) x, cu, hC, gw_O_f hO hn hCo h' x, ⟨rfl, rfl, rfl, hxc, hxt, hxb, gx_f_u hxf hn x, hxg, hxs, hxu⟩, ⟨rfl, rfl, rfl, hyc, hyt, hyb, gy_v_f hyv hn hCo h' x, hys, hyu⟩⟩
        have hi : vp_in (10 * nI o + nI n) 320 := by rw [gw_e7]; exact vp_in_nI (by omega) (by omega)
        have e : (10 * nI o + nI n).toNatClampNeg = 10 * o + n := by rw [gw_e7, nI_clamp (by omega)]
        refine gy_obj1 hyt ho hCo (gy_kindOf hC hyc hyt ho hCo hv hn ?_)
        rcases gw_kd_r hC hv hn with e1 | ⟨m, hm, e1⟩
        · exact absurd e1 h
        · refine br_f (by rw [e1]; exact gw_p0 (by omega)) (br_f h' (br_c (fun h0 => ⟨hi, nm_r (by rw [e]) ⟨rfl, ?_⟩⟩) (fun h0 => br_c (fun h1 => ⟨hi, nm_r (by rw [e]) ⟨rfl, ?_⟩⟩) (fun h1 => br_c (fun h2 => ⟨hi, nm_r (by rw [e]) ⟨rfl, ?_⟩⟩) (fun h2 => ⟨hi, nm_r (by rw [e]) ⟨rfl, ?_⟩⟩)))))
          · rw [if_pos h0]; exact fin _
          · rw [if_neg h0, if_pos h1]; exact fin _
          · rw [if_neg h0, if_neg h1, if_pos h2]; exact fin _
          · rw [if_neg h0, if_neg h1, if_neg h2]; exact fin _
    · exact gx_hasNumN hxt ho hCo h12 hnn (br_t rfl (gy_obj1 hyt ho hCo (gy_kindOfN ho hnn (br_t (by decide) ⟨rfl, I'⟩))))
  · exact gx_hasNum0 hxt hno (br_t rfl (gy_obj0 hyt hno (gy_kindOf0 (br_t (by decide) ⟨rfl, I'⟩))))
theorem i_vc_link {k : Nat} {u : SX} {v : SY} (I : i_Rel k u v) (hk : k + 5 ≤ 2560) (v1 : Int32) (v2 : Int32) (v3 : Int32) : wpX_link (fun r u' => wpY_link (fun r' v' => r' = r ∧ i_Rel (k + 5) u' v') v v1 v2 v3) u v1 v2 v3 := by
  have I' := I
  obtain ⟨xcu, xar, xrc, xlc, xde, xpt, xve, xok, xlt, xty, xpi, xnu, xtg, xse, xso, xnf, xrn, xre, xrl, xrd, xll, xlr⟩ := u
  obtain ⟨ycu, ydp, ylm, yde, yve, ypa, yow, yla, ycl, ypr, ypi, yar, yva, yfr, yma, ydo, yro⟩ := v
  obtain ⟨D, V, K, P, L, C, S, T, B, F, cu, hC, hO, hX, hY⟩ := I
  obtain ⟨rfl, rfl, rfl, hxc, hxt, hxb, hxf, hxg, hxs, hxu⟩ := hX
  obtain ⟨rfl, rfl, rfl, hyc, hyt, hyb, hyv, hys, hyu⟩ := hY
  unfold wpX_link wpY_link; dsimp only
  have yob : ∀ (post : Int32 → Prop), (∀ x, post x) → wpY_object post (ycu, ydp, ylm, yde, yve, ypa, yow, yla, ycl, ypr, ypi, yar, yva, yfr, yma, ydo, yro) v3 := fun post hp => by
    rcases gw_obj C v3 with ⟨z, r, hz, hCz, rfl⟩ | hno
    · exact gy_obj1 hyt hz hCz (hp _)
    · exact gy_obj0 hyt hno (hp _)
  rcases gw_obj C v1 with ⟨o, t, ho, hCo, rfl⟩ | hno
  · have hv := hO.1 o ho
    rw [hCo] at hv
    have hd := gw_dlt ho
    have h12 := (hv t rfl).1
    rcases gw_nam v2 with ⟨n, hn, rfl⟩ | hnn
    · refine gx_hasRef hC hxc hxt ho hCo hv hn (fun h => br_t rfl (gy_obj1 hyt ho hCo (yob _ (fun x => gy_kindOf hC hyc hyt ho hCo hv hn (br_f h ⟨rfl, I'⟩))))) (fun h => br_f (by decide) ?_)
      have fin : ∀ x : Option Nat, (∀ z, x = some z → z < 32 ∧ z / 16 = o / 16 ∧ C z ≠ none) → i_Rel (k + 5) (xcu, xar, xrc, xlc, yde, xpt, yve, yow, xlt, xty, xpi, xnu, upd xtg (10 * gw_d o + n) (gw_g x), xse, xso, xnf, xrn, xre, xrl, xrd, xll, xlr) (ycu, ydp, ylm, yde, yve, ypa, yow, yla, ycl, ypr, ypi, yar, vp_updL yva (10 * o + n) (gw_o x).toInt64, yfr, yma, ydo, yro) := fun x hx => ⟨yde, yve, yow, P, L, C, S, gw_u T (10 * o + n) x, B, F, cu, hC, gw_O_g hO hn hCo h x hx, ⟨rfl, rfl, rfl, hxc, hxt, hxb, hxf, gx_g_u hxg hn x, hxs, hxu⟩, ⟨rfl, rfl, rfl, hyc, hyt, hyb, gy_v_g hyv hn hCo h x, hys, hyu⟩⟩
      have hi : vp_in (10 * nI o + nI n) 320 := by rw [gw_e7]; exact vp_in_nI (by omega) (by omega)
      have e : (10 * nI o + nI n).toNatClampNeg = 10 * o + n := by rw [gw_e7, nI_clamp (by omega)]
      have hi' : vp_in (nI (gw_d o) * 10 + nI n) 480 := by rw [gw_e3]; exact vp_in_nI (by omega) (by omega)
      have e' : (nI (gw_d o) * 10 + nI n).toNatClampNeg = 10 * gw_d o + n := by rw [gw_e3, nI_clamp (by omega)]
      by_cases h3 : v3 = -1
      · subst h3
        exact br_t rfl ⟨hi', nm_r (by rw [e']; rfl) (gy_obj1 hyt ho hCo (gy_m1 (gy_kindOf hC hyc hyt ho hCo hv hn (br_t h (br_t rfl ⟨hi, nm_r (by rw [e]; rfl) ⟨rfl, fin none (fun z hz => absurd hz (by simp))⟩⟩)))))⟩
      · refine br_f h3 ?_
        rcases gw_obj C v3 with ⟨z, r, hz, hCz, rfl⟩ | hno
        · have hvz := hO.1 z hz
          rw [hCz] at hvz
          have hdz := gw_dlt hz
          refine gx_obj1 hxt hz hCz (hvz r rfl).1 (br_f (by decide) ⟨gw_32, gw_32, ?_⟩)
          have q1 : (nI (gw_d z) / 32 = nI (gw_d o) / 32) ↔ z / 16 = o / 16 := by rw [gw_q32 (by omega), gw_q32 (by omega), nI_eq (by omega) (by omega), gw_dd, gw_dd]
          have q2 : (nI z / 16 = nI o / 16) ↔ z / 16 = o / 16 := by rw [gw_q16 (by omega), gw_q16 (by omega), nI_eq (by omega) (by omega)]
          refine ek_if q1 (fun hs => ⟨hi', nm_r (by rw [e']) ?_⟩) (fun hs => ?_)
          · exact gy_obj1 hyt ho hCo (gy_obj1 hyt hz hCz (gy_kindOf hC hyc hyt ho hCo hv hn (br_t h (br_f h3 (br_f (gw_p0 (by omega)) ⟨gw_16, gw_16, br_t (q2.mpr hs) ⟨hi, nm_r (by rw [e]; rfl) ⟨rfl, fin (some z) (fun a ha => by cases ha; exact ⟨hz, hs, by rw [hCz]; simp⟩)⟩⟩⟩)))))
          · exact gy_obj1 hyt ho hCo (gy_obj1 hyt hz hCz (gy_kindOf hC hyc hyt ho hCo hv hn (br_t h (br_f h3 (br_f (gw_p0 (by omega)) ⟨gw_16, gw_16, br_f (fun a => hs (q2.mp a)) ⟨rfl, I'⟩⟩)))))
        · exact gx_obj0 hxt hno (br_t rfl (gy_obj1 hyt ho hCo (gy_obj0 hyt hno (gy_kindOf hC hyc hyt ho hCo hv hn (br_t h (br_f h3 (br_t (by decide) ⟨rfl, I'⟩)))))))
    · exact gx_hasRefN hxt ho hCo h12 hnn (br_t rfl (gy_obj1 hyt ho hCo (yob _ (fun x => gy_kindOfN ho hnn (br_f (by decide) ⟨rfl, I'⟩)))))
  · exact gx_hasRef0 hxt hno (br_t rfl (gy_obj0 hyt hno (yob _ (fun x => gy_kindOf0 (br_f (by decide) ⟨rfl, I'⟩)))))
theorem gw_nge {a : Nat} {p : Int32} (h : p < 0 ∨ nI (a + 1) ≤ p) (h0 : ¬ p < 0) (ha : a + 1 < 2 ^ 31) : nI a < p := by
  obtain ⟨j, hj, rfl⟩ := nI_of h0
  have h2 := h.resolve_left h0
  rw [nI_leI ha hj] at h2
  exact nI_lt (by omega) hj
theorem i_vc_make {k : Nat} {u : SX} {v : SY} (I : i_Rel k u v) (hk : k + 5 ≤ 2560) (v1 : Int32) (v2 : Int32) : wpX_make (fun r u' => wpY_make (fun r' v' => r' = r ∧ i_Rel (k + 5) u' v') v v1 v2) u v1 v2 := by
  have I' := I
  obtain ⟨xcu, xar, xrc, xlc, xde, xpt, xve, xok, xlt, xty, xpi, xnu, xtg, xse, xso, xnf, xrn, xre, xrl, xrd, xll, xlr⟩ := u
  obtain ⟨ycu, ydp, ylm, yde, yve, ypa, yow, yla, ycl, ypr, ypi, yar, yva, yfr, yma, ydo, yro⟩ := v
  obtain ⟨D, V, K, P, L, C, S, T, B, F, cu, hC, hO, hX, hY⟩ := I
  obtain ⟨rfl, rfl, rfl, hxc, hxt, hxb, hxf, hxg, hxs, hxu⟩ := hX
  obtain ⟨rfl, rfl, rfl, hyc, hyt, hyb, hyv, hys, hyu⟩ := hY
  unfold wpX_make wpY_make; dsimp only
  rcases gw_sid v1 with ⟨s, hs, rfl⟩ | hno
  · refine gx_isSide1 hs (br_f (by decide) ?_)
    rcases gw_cls v2 with ⟨c, hc, rfl⟩ | hnc
    · have hi : vp_in (6 * nI s + nI c) 12 := by rw [gw_e2]; exact vp_in_nI (by omega) (by omega)
      have e : (6 * nI s + nI c).toNatClampNeg = 6 * s + c := by rw [gw_e2, nI_clamp (by omega)]
      refine gx_class hs hc (fun h => br_t rfl ?_) (fun h => br_f (by decide) (gx_free hO.1 hxt hs ?_))
      · exact gy_side1 hs (br_f (by decide) (br_f (gw_p0 (by omega)) (br_f (nI_nlt (a := 5) (by omega) (by omega)) ⟨hi, br_t (by rw [e]; exact h) ⟨rfl, I'⟩⟩)))
      · have yw : ∀ post : Int32 → SY → Prop, (∀ fr, fr = gw_fr C s → wpY_make post (ycu, ydp, ylm, yde, yve, ypa, yow, yla, ycl, ypr, ypi, yar, yva, yfr, yma, ydo, yro) (nI s) (nI c)) → wpY_make post (ycu, ydp, ylm, yde, yve, ypa, yow, yla, ycl, ypr, ypi, yar, yva, yfr, yma, ydo, yro) (nI s) (nI c) := fun post hp => hp _ rfl
        cases hf : gw_fr C s with
        | none =>
          exact br_t rfl (gy_side1 hs (br_f (by decide) (br_f (gw_p0 (by omega)) (br_f (nI_nlt (a := 5) (by omega) (by omega)) ⟨hi, br_f (by rw [e]; exact h) (gy_free hO.1 hyt hs (by rw [hf]; exact br_f (by decide) ⟨rfl, I'⟩))⟩))))
        | some o =>
          obtain ⟨f1, f2, f3⟩ := gw_fr_p hf
          have ho : o < 32 := by omega
          have hd := gw_dlt ho
          have et : 6 * (o / 16) + (6 * s + c) % 6 = 6 * s + c := by omega
          have hv : gw_v yde (o / 16) (some (6 * s + c)) := gw_v_mk (by omega) (by omega) h
          refine br_f (gw_nm (by omega)) (gx_place hd ⟨vp_in_nI hd (by omega), nm_r (by rw [show gw_g (some o) = nI (gw_d o) from rfl, nI_clamp (by omega), gw_n1]) ⟨gw_32, ?_⟩⟩)
          refine gy_side1 hs (br_f (by decide) (br_f (gw_p0 (by omega)) (br_f (nI_nlt (a := 5) (by omega) (by omega)) ⟨hi, br_f (by rw [e]; exact h) (gy_free hO.1 hyt hs ?_)⟩)))
          rw [hf]
          refine br_t (nI_pos' (by omega)) ?_
          have ec : nI c = nI ((6 * s + c) % 6) := congrArg nI (by omega)
          rw [ec]
          refine gy_create hC hyc ho hv ⟨vp_in_nI ho (by omega), nm_r (by rw [show gw_o (some o) = nI o from rfl, nI_clamp (by omega), gw_n1]) ⟨gw_16, ?_, ?_⟩⟩
          · show nI o - nI o / 16 * 16 = nI (gw_d o) - nI (gw_d o) / 32 * 32
            rw [gw_m16 (by omega), gw_m32 (by omega), gw_dm]
          · rw [← ec, gw_e1]
            exact ⟨yde, yve, yow, P, L, gw_u C o (some (6 * s + c)), gw_u S o none, gw_fg T (10 * o) (10 * o + 10) none, gw_u (gw_u B o 0) o 1, gw_fg F (10 * o) (10 * o + 10) 0, cu, hC, gw_O_new hO ho f3 hv, ⟨rfl, rfl, rfl, hxc, gx_t_u hxt ho _, gx_b_u (gx_b_u hxb _) _, gx_f_z hxf _, gx_g_z hxg none, gx_s_u hxs none, hxu⟩, ⟨rfl, rfl, rfl, hyc, by rw [ec]; exact gy_t_u hyt (some (6 * s + c)), gy_b_u (gy_b_u hyb _) _, gy_v_new hyv, gy_s_u hys none, hyu⟩⟩
    · refine gx_class0 hnc (br_t rfl (gy_side1 hs (br_f (by decide) (br_c (fun _ => ⟨rfl, I'⟩) (fun h0 => br_t (gw_nge (a := 5) hnc h0 (by omega)) ⟨rfl, I'⟩)))))
  · exact gx_isSide0 hno (br_t rfl (gy_side0 hno (br_t rfl ⟨rfl, I'⟩)))
/-! define -/
theorem gx_C_def {D : Nat → Int32} {P L : Nat → Option Nat} {xpt xlt : Nat → Int32} (h : gx_C D P L xpt xlt) {s t : Nat} {x : Option Nat} : gx_C (upd D t 1) (gw_u P t x) (gw_u L s (some t)) (upd xpt t (gw_o x)) (upd xlt s (nI t)) := by
  refine ⟨fun a ha hd => ?_, fun a ha => ?_⟩
  · by_cases e : a = t
    · subst e; rw [pk_us, gw_us]
    · rw [pk_un e] at hd ⊢; rw [gw_un e]; exact h.1 a ha hd
  · by_cases e : a = s
    · subst e; rw [pk_us, gw_us]; rfl
    · rw [pk_un e, gw_un e]; exact h.2 a ha
theorem gy_C_def {D : Nat → Int32} {P L : Nat → Option Nat} {ypa yla : Nat → Int32} (h : gy_C D P L ypa yla) {s t : Nat} {x : Option Nat} : gy_C (upd D t 1) (gw_u P t x) (gw_u L s (some t)) (upd ypa t (gw_c x)) (upd yla s (nI (t % 6))) := by
  refine ⟨fun a ha hd => ?_, fun a ha => ?_⟩
  · by_cases e : a = t
    · subst e; rw [pk_us, gw_us]
    · rw [pk_un e] at hd ⊢; rw [gw_un e]; exact h.1 a ha hd
  · by_cases e : a = s
    · subst e; rw [pk_us, gw_us]; rfl
    · rw [pk_un e, gw_un e]; exact h.2 a ha
theorem gw_an_lt {D K : Nat → Int32} {P L : Nat → Option Nat} (hC : gw_C D K P L) {s t k : Nat} (h : gw_v D s (some t)) : (gw_o (gw_an P k (some t)) = -1 ↔ gw_an P k (some t) = none) ∧ (gw_c (gw_an P k (some t)) < 0 ↔ gw_an P k (some t) = none) := by
  have := gw_v_an hC k _ h
  cases e : gw_an P k (some t) with
  | none => exact ⟨⟨fun _ => rfl, fun _ => rfl⟩, ⟨fun _ => rfl, fun _ => by decide⟩⟩
  | some a =>
    have ha := (this a e).1
    exact ⟨⟨fun z => absurd z (gw_nm (by omega)), fun z => absurd z (by simp)⟩, ⟨fun z => absurd z (gw_p0 (by omega)), fun z => absurd z (by simp)⟩⟩
theorem i_vc_define {k : Nat} {u : SX} {v : SY} (I : i_Rel k u v) (hk : k + 5 ≤ 2560) (v1 : Int32) (v2 : Int32) (v3 : Int32) (v4 : Int32) : wpX_define (fun r u' => wpY_define (fun r' v' => r' = r ∧ i_Rel (k + 5) u' v') v v1 v2 v3 v4) u v1 v2 v3 v4 := by
  have I' := I
  obtain ⟨xcu, xar, xrc, xlc, xde, xpt, xve, xok, xlt, xty, xpi, xnu, xtg, xse, xso, xnf, xrn, xre, xrl, xrd, xll, xlr⟩ := u
  obtain ⟨ycu, ydp, ylm, yde, yve, ypa, yow, yla, ycl, ypr, ypi, yar, yva, yfr, yma, ydo, yro⟩ := v
  obtain ⟨D, V, K, P, L, C, S, T, B, F, cu, hC, hO, hX, hY⟩ := I
  obtain ⟨rfl, rfl, rfl, hxc, hxt, hxb, hxf, hxg, hxs, hxu⟩ := hX
  obtain ⟨rfl, rfl, rfl, hyc, hyt, hyb, hyv, hys, hyu⟩ := hY
  unfold wpX_define wpY_define; dsimp only
  rcases gw_sid v1 with ⟨s, hs, rfl⟩ | hno
  · refine gx_isSide1 hs (br_f (by decide) ?_)
    rcases gw_cls v2 with ⟨c, hc, rfl⟩ | hnc
    · refine br_f (gw_p0 (by omega)) (br_f (nI_ge (b := 6) hc (by omega)) ?_)
      have ys : ∀ A : Prop, A → A := fun _ a => a
      have hi : ∀ c, c < 6 → vp_in (6 * nI s + nI c) 12 := fun c hc => by rw [gw_e2]; exact vp_in_nI (by omega) (by omega)
      have e : ∀ c, c < 6 → (6 * nI s + nI c).toNatClampNeg = 6 * s + c := fun c hc => by rw [gw_e2, nI_clamp (by omega)]
      have n5 : ∀ c, c < 6 → ¬ (5 : Int32) < nI c := fun c hc => nI_nlt (a := 5) (by omega) (by omega)
      -- success, on both sides
      have fin : ∀ x : Option Nat, gw_v yde s x → yde (6 * s + c) = 0 → i_Rel (k + 5) (xcu, xar, xrc, xlc, upd yde (6 * s + c) 1, upd xpt (6 * s + c) (gw_o x), upd yve (6 * s + c) v4, yow, upd xlt s (nI (6 * s + c)), xty, xpi, xnu, xtg, xse, xso, xnf, xrn, xre, xrl, xrd, xll, xlr) (ycu, ydp, ylm, upd yde (6 * s + c) 1, upd yve (6 * s + c) v4, upd ypa (6 * s + c) (gw_c x), yow, upd yla s (nI c), ycl, ypr, ypi, yar, yva, yfr, yma, ydo, yro) := fun x hx h0 => by
        refine ⟨upd yde (6 * s + c) 1, upd yve (6 * s + c) v4, yow, gw_u P (6 * s + c) x, gw_u L s (some (6 * s + c)), C, S, T, B, F, cu, gw_C_def hC hs (by omega) (by omega) h0 hx, gw_O_def hC hO h0, ⟨rfl, rfl, rfl, gx_C_def hxc, hxt, hxb, hxf, hxg, hxs, hxu⟩, ⟨rfl, rfl, rfl, ?_, hyt, hyb, gy_v_def hC hO hyv h0, hys, hyu⟩⟩
        have := gy_C_def (s := s) (t := 6 * s + c) (x := x) hyc
        rw [show (6 * s + c) % 6 = c by omega] at this
        exact this
      have xfin : ∀ (post : Int32 → SX → Prop) (x : Int32), post 1 (xcu, xar, xrc, xlc, upd yde (6 * s + c) 1, upd xpt (6 * s + c) x, upd yve (6 * s + c) v4, yow, upd xlt s (nI (6 * s + c)), xty, xpi, xnu, xtg, xse, xso, xnf, xrn, xre, xrl, xrd, xll, xlr) → wX_define_69 post (nI s) (nI c) v4 x xcu xar xrc xlc yde xpt yve yow xlt xty xpi xnu xtg xse xso xnf xrn xre xrl xrd xll xlr := fun post x hp => by
        have hi2 : vp_in (nI (6 * s + c)) 12 := vp_in_nI (by omega) (by omega)
        have e2 : (nI (6 * s + c)).toNatClampNeg = 6 * s + c := nI_clamp (by omega)
        exact nm_r (gw_e1 s c) ⟨hi2, nm_r (by rw [e2, gw_n1]) ⟨hi2, nm_r (by rw [e2]) ⟨hi2, nm_r (by rw [e2]) ⟨vp_in_nI hs (by omega), nm_r (by rw [nI_clamp (by omega)]) hp⟩⟩⟩⟩
      have yfin : ∀ (post : Int32 → SY → Prop) (x : Int32), post 1 (ycu, ydp, ylm, upd yde (6 * s + c) 1, upd yve (6 * s + c) v4, upd ypa (6 * s + c) x, yow, upd yla s (nI c), ycl, ypr, ypi, yar, yva, yfr, yma, ydo, yro) → wY_define_73 post (nI s) (nI c) x v4 ycu ydp ylm yde yve ypa yow yla ycl ypr ypi yar yva yfr yma ydo yro := fun post x hp =>
        ⟨hi c hc, nm_r (by rw [e c hc, gw_n1]) ⟨hi c hc, nm_r (by rw [e c hc]) ⟨hi c hc, nm_r (by rw [e c hc]) ⟨vp_in_nI hs (by omega), nm_r (by rw [nI_clamp (by omega)]) hp⟩⟩⟩⟩
      refine gx_class hs hc (fun h => br_t rfl ?_) (fun h => br_f (by decide) ?_)
      · by_cases h3 : v3 = -1
        · subst h3
          refine br_t rfl (xfin _ _ ?_)
          exact gy_side1 hs (br_f (by decide) (br_f (gw_p0 (by omega)) (br_f (n5 c hc) ⟨hi c hc, br_t (by rw [e c hc]; exact h) (br_f (by decide) (br_t (by decide) (br_t (by decide) (yfin _ _ ⟨rfl, fin none (fun a ha => absurd ha (by simp)) h⟩))))⟩)))
        · refine br_f h3 ?_
          rcases gw_cls v3 with ⟨p, hp, rfl⟩ | hnp
          · have yto : ∀ (post : Int32 → SY → Prop), ((yde (6 * s + p) = 0 → post 0 (ycu, ydp, ylm, yde, yve, ypa, yow, yla, ycl, ypr, ypi, yar, yva, yfr, yma, ydo, yro)) ∧ (¬ yde (6 * s + p) = 0 → wpY_chain (fun r_37 => (((r_37 < 0 → (wY_define_73 post (nI s) (nI c) (nI p) v4 ycu ydp ylm yde yve ypa yow yla ycl ypr ypi yar yva yfr yma ydo yro)) ∧ (¬ r_37 < 0 → (post 0 (ycu, ydp, ylm, yde, yve, ypa, yow, yla, ycl, ypr, ypi, yar, yva, yfr, yma, ydo, yro)))))) (ycu, ydp, ylm, yde, yve, ypa, yow, yla, ycl, ypr, ypi, yar, yva, yfr, yma, ydo, yro) (nI s) (nI p) 2)) → wpY_define post (ycu, ydp, ylm, yde, yve, ypa, yow, yla, ycl, ypr, ypi, yar, yva, yfr, yma, ydo, yro) (nI s) (nI c) (nI p) v4 := fun post hq => by
              unfold wpY_define; dsimp only
              refine gy_side1 hs (br_f (by decide) (br_f (gw_p0 (by omega)) (br_f (n5 c hc) ⟨hi c hc, br_t (by rw [e c hc]; exact h) (br_f ?_ (br_t (nI_le (b := 5) (by omega) (by omega)) (br_f (gw_p0 (by omega)) ⟨hi p hp, ?_⟩)))⟩)))
              · intro z
                exact absurd (Int32.lt_trans z (by decide)) (gw_p0 (n := p) (by omega))
              · rw [e p hp]
                exact hq
            refine gx_class hs hp (fun h4 => br_t rfl ?_) (fun h4 => br_f (by decide) (nm_r (gw_e1 s p) ?_))
            · have := yto (fun r' v' => r' = 0 ∧ i_Rel (k + 5) (xcu, xar, xrc, xlc, yde, xpt, yve, yow, xlt, xty, xpi, xnu, xtg, xse, xso, xnf, xrn, xre, xrl, xrd, xll, xlr) v') (br_t h4 ⟨rfl, I'⟩)
              unfold wpY_define at this; dsimp only at this
              exact this
            · have hvp : gw_v yde s (some (6 * s + p)) := gw_v_mk (by omega) (by omega) h4
              obtain ⟨q1, q2⟩ := gw_an_lt (k := 2) hC hvp
              refine gx_ancestor hC hxc (k := 2) (by omega) hvp (ek_if q1 (fun h5 => xfin _ _ ?_) (fun h5 => ?_))
              · have := yto (fun r' v' => r' = 1 ∧ i_Rel (k + 5) (xcu, xar, xrc, xlc, upd yde (6 * s + c) 1, upd xpt (6 * s + c) (nI (6 * s + p)), upd yve (6 * s + c) v4, yow, upd xlt s (nI (6 * s + c)), xty, xpi, xnu, xtg, xse, xso, xnf, xrn, xre, xrl, xrd, xll, xlr) v') (br_f h4 (gy_chain hC hyc (k := 2) (by omega) hp hvp (br_t (q2.mpr h5) (yfin _ _ ⟨rfl, by
                  have f := fin (some (6 * s + p)) hvp h
                  rw [show gw_c (some (6 * s + p)) = nI p from congrArg nI (by omega)] at f
                  exact f⟩))))
                unfold wpY_define at this; dsimp only at this
                exact this
              · have := yto (fun r' v' => r' = 0 ∧ i_Rel (k + 5) (xcu, xar, xrc, xlc, yde, xpt, yve, yow, xlt, xty, xpi, xnu, xtg, xse, xso, xnf, xrn, xre, xrl, xrd, xll, xlr) v') (br_f h4 (gy_chain hC hyc (k := 2) (by omega) hp hvp (br_f (fun z => h5 (q2.mp z)) ⟨rfl, I'⟩)))
                unfold wpY_define at this; dsimp only at this
                exact this
          · refine gx_class0 hnp (br_t rfl (gy_side1 hs (br_f (by decide) (br_f (gw_p0 (by omega)) (br_f (n5 c hc) ⟨hi c hc, br_t (by rw [e c hc]; exact h) (br_c (fun _ => ⟨rfl, I'⟩) (fun h6 => br_f (fun h7 => ?_) ⟨rfl, I'⟩))⟩)))))
            rcases hnp with z | z
            · -- -1 < v3 < 0 is nothing
              rw [Int32.lt_iff_toInt_lt] at z h6
              have z0 : (0 : Int32).toInt = 0 := by decide
              have z1 : (-1 : Int32).toInt = -1 := by decide
              rw [z0] at z
              rw [z1] at h6
              exact h3 (Int32.toInt_inj.mp (by rw [z1]; omega))
            · exact absurd (Int32.le_trans z h7) (by decide)
      · exact gy_side1 hs (br_f (by decide) (br_f (gw_p0 (by omega)) (br_f (n5 c hc) ⟨hi c hc, br_f (by rw [e c hc]; exact h) ⟨rfl, I'⟩⟩)))
    · refine br_c (fun h0 => gy_side1 hs (br_f (by decide) (br_t h0 ⟨rfl, I'⟩))) (fun h0 => br_t (hnc.resolve_left h0) (gy_side1 hs (br_f (by decide) (br_f h0 (br_t (gw_nge (a := 5) hnc h0 (by omega)) ⟨rfl, I'⟩)))))
  · exact gx_isSide0 hno (br_t rfl (gy_side0 hno (br_t rfl ⟨rfl, I'⟩)))
end
