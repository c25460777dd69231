/-! the constructors and the methods without a great loop -/
section
section
variable {xcu xar xrc xlc : Int32} {xde xpt xve xok xlt xty xpi : Nat → Int32} {xnu : Nat → Int64} {xtg xse xso xnf xrn xre xrl xrd xll xlr : Nat → Int32}
theorem gx_i3 {post : SX → Prop} : ∀ d j xty xse, j + d = 48 → post (xcu, xar, xrc, xlc, xde, xpt, xve, xok, xlt, gw_fi xty j 48 (-1), xpi, xnu, xtg, gw_fi xse j 48 (-1), xso, xnf, xrn, xre, xrl, xrd, xll, xlr) → wX_init_215 post xcu xar xrc xlc (d + 1) (nI j) xde xpt xve xok xlt xty xpi xnu xtg xse xso xnf xrn xre xrl xrd xll xlr := by
  intro d
  induction d with
  | zero =>
    intro j xty xse h1 hp
    rw [gw_fi_e (by omega), gw_fi_e (by omega)] at hp
    exact br_t (nI_le (a := 48) (by omega) (by omega)) hp
  | succ d ih =>
    intro j xty xse h1 hp
    have hi : vp_in (nI j) 48 := vp_in_nI (by omega) (by omega)
    have e : (nI j).toNatClampNeg = j := nI_clamp (by omega)
    refine br_f (nI_ge (b := 48) (by omega) (by omega)) ⟨hi, nm_r (by rw [e]) ⟨hi, nm_r (by rw [e]) (nm_r (nI_1 j) (ih (j + 1) _ _ (by omega) ?_))⟩⟩
    rw [gw_fi_s (by omega), gw_fi_s (by omega)]
    exact hp
theorem gx_i2 {post : SX → Prop} : ∀ d j xok, j + d = 120 → (∃ n215, wX_init_215 post xcu xar xrc xlc n215 0 xde xpt xve (gw_fi xok j 120 (-1)) xlt xty xpi xnu xtg xse xso xnf xrn xre xrl xrd xll xlr) → wX_init_194 post xcu xar xrc xlc (d + 1) (nI j) xde xpt xve xok xlt xty xpi xnu xtg xse xso xnf xrn xre xrl xrd xll xlr := by
  intro d
  induction d with
  | zero =>
    intro j xok h1 hp
    rw [gw_fi_e (by omega)] at hp
    exact br_t (nI_le (a := 120) (by omega) (by omega)) hp
  | succ d ih =>
    intro j xok h1 hp
    refine br_f (nI_ge (b := 120) (by omega) (by omega)) ⟨vp_in_nI (by omega) (by omega), nm_r (by rw [nI_clamp (by omega)]) (nm_r (nI_1 j) (ih (j + 1) _ (by omega) ?_))⟩
    rw [gw_fi_s (by omega)]
    exact hp
theorem gx_i1 {post : SX → Prop} : ∀ d j xlt, j + d = 2 → (∃ n194, wX_init_194 post xcu xar xrc xlc n194 0 xde xpt xve xok (gw_fi xlt j 2 (-1)) xty xpi xnu xtg xse xso xnf xrn xre xrl xrd xll xlr) → wX_init_174 post xcu xar xrc xlc (d + 1) (nI j) xde xpt xve xok xlt xty xpi xnu xtg xse xso xnf xrn xre xrl xrd xll xlr := by
  intro d
  induction d with
  | zero =>
    intro j xlt h1 hp
    rw [gw_fi_e (by omega)] at hp
    exact br_t (nI_le (a := 2) (by omega) (by omega)) hp
  | succ d ih =>
    intro j xlt h1 hp
    refine br_f (nI_ge (b := 2) (by omega) (by omega)) ⟨vp_in_nI (by omega) (by omega), nm_r (by rw [nI_clamp (by omega)]) (nm_r (nI_1 j) (ih (j + 1) _ (by omega) ?_))⟩
    rw [gw_fi_s (by omega)]
    exact hp
end
section
variable {ycu ydp ylm : Int32} {yde yve ypa yow yla ycl ypr ypi yar : Nat → Int32} {yva : Nat → Int64} {yfr yma ydo yro : Nat → Int32}
theorem gy_i2 {post : SY → Prop} : ∀ d j ycl ypr, j + d = 32 → post (-1, ydp, ylm, yde, yve, ypa, yow, upd (upd yla 0 (-1)) 1 (-1), gw_fi ycl j 32 (-1), gw_fi ypr j 32 (-1), ypi, yar, yva, yfr, yma, ydo, yro) → wY_init_139 post ycu ydp ylm (d + 1) (nI j) yde yve ypa yow yla ycl ypr ypi yar yva yfr yma ydo yro := by
  intro d
  induction d with
  | zero =>
    intro j ycl ypr h1 hp
    rw [gw_fi_e (by omega), gw_fi_e (by omega)] at hp
    exact br_t (nI_le (a := 32) (by omega) (by omega)) (nm_e (nm_e hp))
  | succ d ih =>
    intro j ycl ypr h1 hp
    have hi : vp_in (nI j) 32 := vp_in_nI (by omega) (by omega)
    have e : (nI j).toNatClampNeg = j := nI_clamp (by omega)
    refine br_f (nI_ge (b := 32) (by omega) (by omega)) ⟨hi, nm_r (by rw [e]) ⟨hi, nm_r (by rw [e]) (nm_r (nI_1 j) (ih (j + 1) _ _ (by omega) ?_))⟩⟩
    rw [gw_fi_s (by omega), gw_fi_s (by omega)]
    exact hp
theorem gy_i1 {post : SY → Prop} : ∀ d j yow, j + d = 120 → (∃ n139, wY_init_139 post ycu ydp ylm n139 0 yde yve ypa (gw_fi yow j 120 (-1)) yla ycl ypr ypi yar yva yfr yma ydo yro) → wY_init_118 post ycu ydp ylm (d + 1) (nI j) yde yve ypa yow yla ycl ypr ypi yar yva yfr yma ydo yro := by
  intro d
  induction d with
  | zero =>
    intro j yow h1 hp
    rw [gw_fi_e (by omega)] at hp
    exact br_t (nI_le (a := 120) (by omega) (by omega)) hp
  | succ d ih =>
    intro j yow h1 hp
    refine br_f (nI_ge (b := 120) (by omega) (by omega)) ⟨vp_in_nI (by omega) (by omega), nm_r (by rw [nI_clamp (by omega)]) (nm_r (nI_1 j) (ih (j + 1) _ (by omega) ?_))⟩
    rw [gw_fi_s (by omega)]
    exact hp
end
theorem gw_ct0 {K : Nat → Int32} {t : Nat} (h : ∀ i, i < 120 → K i = -1) (ht : t < 12) : ∀ m, m ≤ 10 → gw_ct K t m = 0 := by
  intro m
  induction m with
  | zero => intro _; rfl
  | succ m ih => intro hm; show gw_ct K t m + _ = 0; rw [ih (by omega), if_pos (h _ (by omega))]
theorem i_vc0 : wpX_init (fun u => wpY_init (fun v => i_Rel 0 u v)) := by
  refine ⟨3, gx_i1 2 0 _ rfl ⟨121, gx_i2 120 0 _ rfl ⟨49, gx_i3 48 0 _ _ rfl ⟨121, gy_i1 120 0 _ rfl ⟨33, gy_i2 32 0 _ _ rfl ?_⟩⟩⟩⟩⟩
  have hK : ∀ i, i < 120 → gw_fi (fun _ => 0) 0 120 (-1) i = -1 := fun i hi => gw_fi_i (by omega)
  refine ⟨fun _ => 0, fun _ => 0, gw_fi (fun _ => 0) 0 120 (-1), fun _ => none, fun _ => none, fun _ => none, fun _ => none, fun _ => some 0, fun _ => 0, fun _ => 0, none, ?_, ?_, ?_, ?_⟩
  · exact ⟨fun t _ h => absurd rfl h, fun i hi h => absurd (hK i hi) h, fun t ht _ n hn => hK _ (by omega), fun t _ h => absurd rfl h, fun s t _ h => absurd h (by simp), fun t ht => by rw [gw_ct0 hK ht 10 (by omega)]; omega⟩
  · exact ⟨fun o _ t h => absurd h (by simp), fun o q _ h => absurd h (by simp), fun o n t _ _ h => absurd h (by simp), fun o n z _ _ h => absurd rfl h⟩
  · refine ⟨rfl, rfl, rfl, ⟨fun t _ h => absurd rfl h, fun s hs => gw_fi_i (by omega)⟩, ⟨fun o ho => gw_fi_i (by unfold gw_d; omega), fun i _ h => gw_fi_i (by omega)⟩, fun o _ => rfl, fun o n _ _ => rfl, fun o n _ _ => rfl, fun o ho => gw_fi_i (by unfold gw_d; omega), rfl⟩
  · refine ⟨rfl, rfl, rfl, ⟨fun t _ h => absurd rfl h, fun s hs => ?_⟩, fun o ho => gw_fi_i (by omega), fun o _ => rfl, fun o n t _ _ h => absurd h (by simp), fun o ho => gw_fi_i (by omega), rfl⟩
    by_cases h : s = 1
    · rw [h]; rfl
    · have : s = 0 := by omega
      rw [this]; rfl
theorem i_vc_culprit {k : Nat} {u : SX} {v : SY} (I : i_Rel k u v) (hk : k + 5 ≤ 2560) : wpX_culprit (fun r => wpY_culprit (fun r' => r' = r ∧ i_Rel (k + 5) u v) v) u := by
  have I' := I
  obtain ⟨xcu, xar, xrc, xlc, xde, xpt, xve, xok, xlt, xty, xpi, xnu, xtg, xse, xso, xnf, xrn, xre, xrl, xrd, xll, xlr⟩ := u
  obtain ⟨ycu, ydp, ylm, yde, yve, ypa, yow, yla, ycl, ypr, ypi, yar, yva, yfr, yma, ydo, yro⟩ := v
  obtain ⟨D, V, K, P, L, C, S, T, B, F, cu, hC, hO, hX, hY⟩ := I
  obtain ⟨rfl, rfl, rfl, hxc, hxt, hxb, hxf, hxg, hxs, hxu⟩ := hX
  obtain ⟨rfl, rfl, rfl, hyc, hyt, hyb, hyv, hys, hyu⟩ := hY
  exact ⟨hyu.trans hxu.symm, I'⟩
theorem i_vc_num {k : Nat} {u : SX} {v : SY} (I : i_Rel k u v) (hk : k + 5 ≤ 2560) (v1 : Int32) (v2 : Int32) : wpX_num (fun r => wpY_num (fun r' => r' = r ∧ i_Rel (k + 5) u v) v v1 v2) u v1 v2 := by
  have I' := I
  obtain ⟨xcu, xar, xrc, xlc, xde, xpt, xve, xok, xlt, xty, xpi, xnu, xtg, xse, xso, xnf, xrn, xre, xrl, xrd, xll, xlr⟩ := u
  obtain ⟨ycu, ydp, ylm, yde, yve, ypa, yow, yla, ycl, ypr, ypi, yar, yva, yfr, yma, ydo, yro⟩ := v
  obtain ⟨D, V, K, P, L, C, S, T, B, F, cu, hC, hO, hX, hY⟩ := I
  obtain ⟨rfl, rfl, rfl, hxc, hxt, hxb, hxf, hxg, hxs, hxu⟩ := hX
  obtain ⟨rfl, rfl, rfl, hyc, hyt, hyb, hyv, hys, hyu⟩ := hY
  unfold wpX_num wpY_num; dsimp only
  rcases gw_obj C v1 with ⟨o, t, ho, hCo, rfl⟩ | hno
  · have hv := hO.1 o ho
    rw [hCo] at hv
    have hd := gw_dlt ho
    have h12 := (hv t rfl).1
    rcases gw_nam v2 with ⟨n, hn, rfl⟩ | hnn
    · refine gx_hasNum hC hxc hxt ho hCo hv hn (fun h => br_t rfl ?_) (fun h h' => br_f (by decide) ⟨by rw [gw_e3]; exact vp_in_nI (by omega) (by omega), ?_⟩)
      · refine gy_obj1 hyt ho hCo (gy_kindOf hC hyc hyt ho hCo hv hn ?_)
        rcases h with h | h
        · exact br_t (by rw [h]; decide) ⟨rfl, I'⟩
        · exact br_f (by rw [h]; decide) (br_t h ⟨rfl, I'⟩)
      · rw [gw_e3, nI_clamp (by omega), hxf o n ho hn]
        refine gy_obj1 hyt ho hCo (gy_kindOf hC hyc hyt ho hCo hv hn ?_)
        rcases gw_kd_r hC hv hn with e | ⟨m, hm, e⟩
        · exact absurd e h
        · refine br_f (by rw [e]; exact gw_p0 (by omega)) (br_f h' ⟨by rw [gw_e7]; exact vp_in_nI (by omega) (by omega), ?_, I'⟩)
          rw [gw_e7, nI_clamp (by omega), hyv o n t ho hn hCo, if_neg h']
    · exact gx_hasNumN hxt ho hCo h12 hnn (br_t rfl (gy_obj1 hyt ho hCo (gy_kindOfN ho hnn (br_t (by decide) ⟨rfl, I'⟩))))
  · exact gx_hasNum0 hxt hno (br_t rfl (gy_obj0 hyt hno (gy_kindOf0 (br_t (by decide) ⟨rfl, I'⟩))))
theorem i_vc_ref {k : Nat} {u : SX} {v : SY} (I : i_Rel k u v) (hk : k + 5 ≤ 2560) (v1 : Int32) (v2 : Int32) : wpX_ref (fun r => wpY_ref (fun r' => r' = r ∧ i_Rel (k + 5) u v) v v1 v2) u v1 v2 := by
  have I' := I
  obtain ⟨xcu, xar, xrc, xlc, xde, xpt, xve, xok, xlt, xty, xpi, xnu, xtg, xse, xso, xnf, xrn, xre, xrl, xrd, xll, xlr⟩ := u
  obtain ⟨ycu, ydp, ylm, yde, yve, ypa, yow, yla, ycl, ypr, ypi, yar, yva, yfr, yma, ydo, yro⟩ := v
  obtain ⟨D, V, K, P, L, C, S, T, B, F, cu, hC, hO, hX, hY⟩ := I
  obtain ⟨rfl, rfl, rfl, hxc, hxt, hxb, hxf, hxg, hxs, hxu⟩ := hX
  obtain ⟨rfl, rfl, rfl, hyc, hyt, hyb, hyv, hys, hyu⟩ := hY
  unfold wpX_ref wpY_ref; dsimp only
  rcases gw_obj C v1 with ⟨o, t, ho, hCo, rfl⟩ | hno
  · have hv := hO.1 o ho
    rw [hCo] at hv
    have hd := gw_dlt ho
    have h12 := (hv t rfl).1
    rcases gw_nam v2 with ⟨n, hn, rfl⟩ | hnn
    · refine gx_hasRef hC hxc hxt ho hCo hv hn (fun h => br_t rfl ?_) (fun h => br_f (by decide) ⟨by rw [gw_e3]; exact vp_in_nI (by omega) (by omega), ?_⟩)
      · exact gy_obj1 hyt ho hCo (gy_kindOf hC hyc hyt ho hCo hv hn (br_f h ⟨rfl, I'⟩))
      · rw [gw_e3, nI_clamp (by omega), hxg o n ho hn]
        refine gy_obj1 hyt ho hCo (gy_kindOf hC hyc hyt ho hCo hv hn (br_t h ⟨by rw [gw_e7]; exact vp_in_nI (by omega) (by omega), ?_⟩))
        rw [gw_e7, nI_clamp (by omega), hyv o n t ho hn hCo, if_pos h]
        cases hT : T (10 * o + n) with
        | none => exact nm_e (br_f (by decide) ⟨rfl, I'⟩)
        | some z =>
          have hz := (hO.2.2.2 o n z ho hn (by rw [hCo]; simp) hT).1
          refine nm_r (e' := nI z) (by show (nI z).toInt64.toInt32 = _; rw [nI_l (by omega), lN_i]) (br_t (nI_pos' (by omega)) (gy_id hz ⟨rfl, I'⟩))
    · exact gx_hasRefN hxt ho hCo h12 hnn (br_t rfl (gy_obj1 hyt ho hCo (gy_kindOfN ho hnn (br_f (by decide) ⟨rfl, I'⟩))))
  · exact gx_hasRef0 hxt hno (br_t rfl (gy_obj0 hyt hno (gy_kindOf0 (br_f (by decide) ⟨rfl, I'⟩))))
theorem i_vc_look {k : Nat} {u : SX} {v : SY} (I : i_Rel k u v) (hk : k + 5 ≤ 2560) (v1 : Int32) : wpX_look (fun r => wpY_look (fun r' => r' = r ∧ i_Rel (k + 5) u v) v v1) u v1 := by
  have I' := I
  obtain ⟨xcu, xar, xrc, xlc, xde, xpt, xve, xok, xlt, xty, xpi, xnu, xtg, xse, xso, xnf, xrn, xre, xrl, xrd, xll, xlr⟩ := u
  obtain ⟨ycu, ydp, ylm, yde, yve, ypa, yow, yla, ycl, ypr, ypi, yar, yva, yfr, yma, ydo, yro⟩ := v
  obtain ⟨D, V, K, P, L, C, S, T, B, F, cu, hC, hO, hX, hY⟩ := I
  obtain ⟨rfl, rfl, rfl, hxc, hxt, hxb, hxf, hxg, hxs, hxu⟩ := hX
  obtain ⟨rfl, rfl, rfl, hyc, hyt, hyb, hyv, hys, hyu⟩ := hY
  unfold wpX_look wpY_look; dsimp only
  rcases gw_obj C v1 with ⟨o, t, ho, hCo, rfl⟩ | hno
  · have hv := hO.1 o ho
    rw [hCo] at hv
    have hd := gw_dlt ho
    have h12 := (hv t rfl).1
    have hi : vp_in (nI (gw_d o)) 48 := vp_in_nI hd (by omega)
    have e1 : xty (nI (gw_d o)).toNatClampNeg = nI t := by rw [nI_clamp (by omega), hxt.1 o ho, hCo]; rfl
    have e2 : xpi (nI (gw_d o)).toNatClampNeg = ypi (nI o).toNatClampNeg := by rw [nI_clamp (by omega), nI_clamp (by omega), hxb o ho, hyb o ho]
    have e3 : ycl (nI o).toNatClampNeg = nI (t % 6) := by rw [nI_clamp (by omega), hyt o ho, hCo]; rfl
    have hj : vp_in (nI o) 32 := vp_in_nI ho (by omega)
    refine gx_obj1 hxt ho hCo h12 (br_f (by decide) ⟨hi, br_c (fun h => ⟨hi, gw_6, ?_⟩) (fun h => ⟨hi, gw_6, ?_⟩)⟩)
    · rw [e2] at h
      exact gy_obj1 hyt ho hCo (br_t (nI_pos' (by omega)) ⟨hj, br_t h ⟨hj, by rw [e1, e3, gw_m6 (by omega)], I'⟩⟩)
    · rw [e2] at h
      exact gy_obj1 hyt ho hCo (br_t (nI_pos' (by omega)) ⟨hj, br_f h ⟨hj, by rw [e1, e3, gw_m6 (by omega)], I'⟩⟩)
  · exact gx_obj0 hxt hno (br_t rfl (gy_obj0 hyt hno (br_f (by decide) ⟨rfl, I'⟩)))
theorem i_vc_sent {k : Nat} {u : SX} {v : SY} (I : i_Rel k u v) (hk : k + 5 ≤ 2560) (v1 : Int32) : wpX_sent (fun r => wpY_sent (fun r' => r' = r ∧ i_Rel (k + 5) u v) v v1) u v1 := by
  have I' := I
  obtain ⟨xcu, xar, xrc, xlc, xde, xpt, xve, xok, xlt, xty, xpi, xnu, xtg, xse, xso, xnf, xrn, xre, xrl, xrd, xll, xlr⟩ := u
  obtain ⟨ycu, ydp, ylm, yde, yve, ypa, yow, yla, ycl, ypr, ypi, yar, yva, yfr, yma, ydo, yro⟩ := v
  obtain ⟨D, V, K, P, L, C, S, T, B, F, cu, hC, hO, hX, hY⟩ := I
  obtain ⟨rfl, rfl, rfl, hxc, hxt, hxb, hxf, hxg, hxs, hxu⟩ := hX
  obtain ⟨rfl, rfl, rfl, hyc, hyt, hyb, hyv, hys, hyu⟩ := hY
  unfold wpX_sent wpY_sent; dsimp only
  rcases gw_obj C v1 with ⟨o, t, ho, hCo, rfl⟩ | hno
  · have hv := hO.1 o ho
    rw [hCo] at hv
    have hd := gw_dlt ho
    have h12 := (hv t rfl).1
    have hj : vp_in (nI o) 32 := vp_in_nI ho (by omega)
    refine gx_obj1 hxt ho hCo h12 (br_f (by decide) ⟨vp_in_nI hd (by omega), gy_obj1 hyt ho hCo (br_f (gw_p0 (by omega)) ⟨hj, ?_⟩)⟩)
    rw [nI_clamp (by omega), nI_clamp (by omega), hxs o ho, hys o ho]
    cases hS : S o with
    | none => exact br_f (by decide) ⟨rfl, I'⟩
    | some q =>
      have hq := (hO.2.1 o q ho hS).1
      exact br_t (nI_pos' (by omega)) ⟨hj, gy_id hq ⟨rfl, I'⟩⟩
  · exact gx_obj0 hxt hno (br_t rfl (gy_obj0 hyt hno (br_t (by decide) ⟨rfl, I'⟩)))
theorem i_vc_pin {k : Nat} {u : SX} {v : SY} (I : i_Rel k u v) (hk : k + 5 ≤ 2560) (v1 : Int32) (v2 : Int32) : wpX_pin (fun r u' => wpY_pin (fun r' v' => r' = r ∧ i_Rel (k + 5) u' v') v v1 (lw_bz v2)) u v1 (lw_bz v2) := by
  have I' := I
  obtain ⟨xcu, xar, xrc, xlc, xde, xpt, xve, xok, xlt, xty, xpi, xnu, xtg, xse, xso, xnf, xrn, xre, xrl, xrd, xll, xlr⟩ := u
  obtain ⟨ycu, ydp, ylm, yde, yve, ypa, yow, yla, ycl, ypr, ypi, yar, yva, yfr, yma, ydo, yro⟩ := v
  obtain ⟨D, V, K, P, L, C, S, T, B, F, cu, hC, hO, hX, hY⟩ := I
  obtain ⟨rfl, rfl, rfl, hxc, hxt, hxb, hxf, hxg, hxs, hxu⟩ := hX
  obtain ⟨rfl, rfl, rfl, hyc, hyt, hyb, hyv, hys, hyu⟩ := hY
  unfold wpX_pin wpY_pin; dsimp only
  rcases gw_obj C v1 with ⟨o, t, ho, hCo, rfl⟩ | hno
  · have hv := hO.1 o ho
    rw [hCo] at hv
    have hd := gw_dlt ho
    have h12 := (hv t rfl).1
    refine gx_obj1 hxt ho hCo h12 (br_f (by decide) ⟨vp_in_nI hd (by omega), nm_r (by rw [nI_clamp (by omega)]) (gy_obj1 hyt ho hCo (br_t (nI_pos' (by omega)) ⟨vp_in_nI ho (by omega), nm_r (by rw [nI_clamp (by omega)]) ⟨rfl, ?_⟩⟩))⟩)
    exact ⟨yde, yve, yow, P, L, C, S, T, gw_u B o (vp_nar .boolean (lw_bz v2)), F, cu, hC, hO, ⟨rfl, rfl, rfl, hxc, hxt, gx_b_u hxb _, hxf, hxg, hxs, hxu⟩, ⟨rfl, rfl, rfl, hyc, hyt, gy_b_u hyb _, hyv, hys, hyu⟩⟩
  · exact gx_obj0 hxt hno (br_t rfl (gy_obj0 hyt hno (br_f (by decide) ⟨rfl, I'⟩)))
theorem i_vc_reset {k : Nat} {u : SX} {v : SY} (I : i_Rel k u v) (hk : k + 5 ≤ 2560) (v1 : Int32) : wpX_reset (fun r u' => wpY_reset (fun r' v' => r' = r ∧ i_Rel (k + 5) u' v') v v1) u v1 := by
  have I' := I
  obtain ⟨xcu, xar, xrc, xlc, xde, xpt, xve, xok, xlt, xty, xpi, xnu, xtg, xse, xso, xnf, xrn, xre, xrl, xrd, xll, xlr⟩ := u
  obtain ⟨ycu, ydp, ylm, yde, yve, ypa, yow, yla, ycl, ypr, ypi, yar, yva, yfr, yma, ydo, yro⟩ := v
  obtain ⟨D, V, K, P, L, C, S, T, B, F, cu, hC, hO, hX, hY⟩ := I
  obtain ⟨rfl, rfl, rfl, hxc, hxt, hxb, hxf, hxg, hxs, hxu⟩ := hX
  obtain ⟨rfl, rfl, rfl, hyc, hyt, hyb, hyv, hys, hyu⟩ := hY
  unfold wpX_reset wpY_reset; dsimp only
  rcases gw_sid v1 with ⟨s, hs, rfl⟩ | hno
  · refine gx_isSide1 hs (br_f (by decide) (gx_empty hs (gy_side1 hs (br_f (by decide) (gy_empty hs ⟨rfl, ?_⟩)))))
    exact ⟨yde, yve, yow, P, L, C, gw_fg S (16 * s) (16 * s + 16) none, T, B, F, cu, hC, gw_O_s hO _ _, ⟨rfl, rfl, rfl, hxc, hxt, hxb, hxf, hxg, gx_s_z hxs hs, hxu⟩, ⟨rfl, rfl, rfl, hyc, hyt, hyb, hyv, gy_s_z hys, hyu⟩⟩
  · exact gx_isSide0 hno (br_t rfl (gy_side0 hno (br_t rfl ⟨rfl, I'⟩)))
end
