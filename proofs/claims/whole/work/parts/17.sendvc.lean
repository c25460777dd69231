/-! send: the method -/
theorem i_vc_send {k : Nat} {u : SX} {v : SY} (I : i_Rel k u v) (hk : k + 5 ≤ 2560) (v1 : Int32) (v2 : Int32) : wpX_send (fun r u' => wpY_send (fun r' v' => r' = r ∧ i_Rel (k + 5) u' v') v v1 (lw_bz v2)) u v1 (lw_bz v2) := by
  have I' := I
  obtain ⟨xcu, xar, xrc, xlc, xde, xpt, xve, xok, xlt, xty, xpi, xnu, xtg, xse, xso, xnf, xrn, xre, xrl, xrd, xll, xlr⟩ := u
  obtain ⟨ycu, ydp, ylm, yde, yve, ypa, yow, yla, ycl, ypr, ypi, yar, yva, yfr, yma, ydo, yro⟩ := v
  obtain ⟨D, V, K, P, L, C, S, T, B, F, cu, hC, hO, hX, hY⟩ := I
  obtain ⟨rfl, rfl, rfl, hxc, hxt, hxb, hxf, hxg, hxs, hxu⟩ := hX
  obtain ⟨rfl, rfl, rfl, hyc, hyt, hyb, hyv, hys, hyu⟩ := hY
  rcases gw_obj C v1 with ⟨x, t, hx, cx, rfl⟩ | hno
  · have tv := hO.1 x hx t cx
    have dx := gw_dlt hx
    have ix : vp_in (nI (gw_d x)) 48 := vp_in_nI dx (by omega)
    have ex : (nI (gw_d x)).toNatClampNeg = gw_d x := nI_clamp (by omega)
    have jx : vp_in (nI x) 32 := vp_in_nI hx (by omega)
    have fx : (nI x).toNatClampNeg = x := nI_clamp (by omega)
    generalize lw_bz v2 = p1
    -- the reference, as far as its first begin
    have hY0 : (S x = none ∨ ¬ p1 = 0) → ∀ postY, wpY_begin (fun r_23 u => match u with | (ycu24, ydp24, ylm24, yde24, yve24, ypa24, yow24, yla24, ycl24, ypr24, ypi24, yar24, yva24, yfr24, yma24, ydo24, yro24) => (∃ n84 : Nat, wY_send_84 postY p1 (nI x) n84 r_23 ycu24 ydp24 ylm24 yde24 yve24 ypa24 yow24 yla24 ycl24 ypr24 ypi24 yar24 yva24 yfr24 yma24 ydo24 yro24)) (ycu, 0, ylm, yde, yve, ypa, yow, yla, ycl, ypr, ypi, gw_fi yar 0 32 0, yva, yfr, yma, ydo, yro) (nI x) p1 → wpY_send postY (ycu, ydp, ylm, yde, yve, ypa, yow, yla, ycl, ypr, ypi, yar, yva, yfr, yma, ydo, yro) (nI (gw_d x)) p1 := fun hS postY hb => by
      unfold wpY_send; dsimp only
      refine gy_obj1 hyt hx cx (br_t (nI_pos' (by omega)) ⟨jx, ?_⟩)
      rw [fx, hys x hx]
      cases hSx : S x with
      | none => exact br_t (by decide) ⟨33, gy_s50 32 0 yar (by omega) hb⟩
      | some q =>
        have hq := (hO.2.1 x q hx hSx).1
        refine br_f (gw_p0 (by omega)) (br_f (hS.resolve_left (by rw [hSx]; simp)) ⟨33, gy_s50 32 0 yar (by omega) hb⟩)
    have gA : gw_A C S T (fun _ => false) (x / 16) := ⟨fun o _ h => absurd h Bool.false_ne_true, fun o n z _ _ _ _ _ => rfl⟩
    have gI : gs_I yde P yve yow C S T F (fun _ => false) (x / 16) [] := ⟨hO, gA, fun f hf => absurd hf (by simp), trivial, fun f w h => absurd h (by simp), by show 0 + gw_fc C (x / 16) ≤ 16; have := gw_cn_le (p := fun n => (C (16 * (1 - x / 16) + n)).isNone) 16; unfold gw_fc; omega⟩
    have xA : gx_A (fun _ => false) (gw_fi xso 0 48 (-1)) := ⟨fun o ho => ⟨fun _ => rfl, fun _ => gw_fi_i (by have := gw_dlt ho; omega)⟩, fun i _ h => gw_fi_i (by omega)⟩
    have yA : gy_A (fun _ => false) (gw_fi yar 0 32 0) := fun o ho => ⟨fun _ => rfl, fun _ => gw_fi_i (by omega)⟩
    -- the component from its first arrive on
    have go : (S x = none ∨ ¬ p1 = 0) → wX_send_46 (fun r u' => wpY_send (fun r' v' => r' = r ∧ i_Rel (k + 5) u' v') (ycu, ydp, ylm, yde, yve, ypa, yow, yla, ycl, ypr, ypi, yar, yva, yfr, yma, ydo, yro) (nI (gw_d x)) p1) (nI (gw_d x)) p1 xcu xar xrc xlc yde xpt yve yow xlt xty xpi xnu xtg xse xso xnf xrn xre xrl xrd xll xlr := fun hS => by
      have arr : ∀ j : Int32, ((j = 0) ↔ ¬ p1 = 0) → wX_send_61 (fun r u' => wpY_send (fun r' v' => r' = r ∧ i_Rel (k + 5) u' v') (ycu, ydp, ylm, yde, yve, ypa, yow, yla, ycl, ypr, ypi, yar, yva, yfr, yma, ydo, yro) (nI (gw_d x)) p1) (nI (gw_d x)) j (nI (gw_d x)) xcu (-1) xrc xlc yde xpt yve yow xlt xty xpi xnu xtg xse (gw_fi xso 0 48 (-1)) xnf xrn xre xrl xrd xll xlr := fun j hj => by
        have hj' : (j = 0) ↔ (0 = 0 ∧ ¬ p1 = 0) := ⟨fun z => ⟨rfl, hj.mp z⟩, fun z => hj.mpr z.2⟩
        refine gx_arrive hC hxc hO hxt hx rfl cx (fun hb => ⟨1, ?_⟩) (fun hb o hf => ⟨1201, ?_⟩)
        · exact gs_err (c := 0) (N := 0) (p1 := p1) (ydp := 0) (ylm := ylm) (yfr := yfr) (yma := yma) (ydo := ydo) (yro := yro) (WY := fun postY => wpY_send postY (ycu, ydp, ylm, yde, yve, ypa, yow, yla, ycl, ypr, ypi, yar, yva, yfr, yma, ydo, yro) (nI (gw_d x)) p1) hC hxc hyc hO gA (by omega) hxt hxb hxf hxg hxs xA hyt hyb hyv hys yA hx rfl hb (by omega) (fun postY hn => hY0 hS postY (gy_begin hC hyc hO hyt hx rfl cx (m := 0) (by omega) rfl hj' (fun _ => hn) (fun z => absurd z hb)))
        · obtain ⟨f1, f2, f3⟩ := gw_fr_p hf
          have ho : o < 32 := by omega
          obtain ⟨J, hlt⟩ := gs_beg (j := j) hC gI (by omega) hx rfl cx hb hf (fun f w h => absurd h (by simp))
          have hle := gw_cn_le (p := fun n => (C (16 * (1 - x / 16) + n)).isNone) 16
          have hfc : gw_fc C (x / 16) ≤ 16 := hle
          have fm : gw_fm [(x, o, 0)] = 31 := rfl
          exact gs_loop (k := k) (o0 := o) (cu := cu) (p1 := p1) (WY := fun postY => wpY_send postY (ycu, ydp, ylm, yde, yve, ypa, yow, yla, ycl, ypr, ypi, yar, yva, yfr, yma, ydo, yro) (nI (gw_d x)) p1) hC hxc hyc (by omega) hx rfl hxu hyu 600 _ _ _ _ _ _ [(x, o, 0)] _ _ _ _ _ _ _ _ _ (nI (0 + 1)) ylm _ _ _ _ _ (upd yfr 0 (nI x)) (upd yma 0 (nI o)) (upd ydo 0 0) 0 1201 (by omega) (by omega) (by omega) J (Or.inl ⟨rfl, rfl⟩) (gx_t_u hxt ho _) (gx_b_u hxb _) (gx_f_z hxf _) (gx_g_z hxg none) (gx_s_j hxs) (gx_A_u xA ho hx) ⟨⟨rfl, pk_us, pk_us⟩, pk_us⟩ (gy_t_u hyt (some (6 * (1 - x / 16) + t % 6))) (gy_b_u hyb _) (gy_v_new hyv) (gy_s_j (y := x) (j := j) hys) (gy_A_u yA) ⟨0 + 1, rfl, ⟨0, rfl, ⟨pk_us, pk_us, pk_us⟩, rfl⟩⟩ (fun postY hn => hY0 hS postY (gy_begin hC hyc hO hyt hx rfl cx (m := 0) (by omega) rfl hj' (fun z => absurd hb z) (fun _ o3 hf3 => by
            rw [hf] at hf3
            cases hf3
            exact hn)))
      refine gx_start (br_c (fun h => arr 1 ⟨fun z => absurd z (by decide), fun z => absurd h z⟩) (fun h => arr 0 ⟨fun _ => h, fun _ => rfl⟩))
    unfold wpX_send; dsimp only
    refine gx_obj1 hxt hx cx tv.1 (br_f (by decide) (br_c (fun h0 => ⟨ix, ?_⟩) (fun h0 => go (Or.inr h0))))
    rw [ex, hxs x hx]
    cases hSx : S x with
    | none => exact br_t rfl (go (Or.inl hSx))
    | some q =>
      have hq := (hO.2.1 x q hx hSx).1
      have dq := gw_dlt hq
      have eq : (gw_g (some q)).toNatClampNeg = gw_d q := nI_clamp (by omega)
      refine br_f (gw_nm (by omega)) ⟨ix, vp_in_nI dq (by omega), nm_r (by rw [eq, gw_n1]) ⟨ix, gw_32, ?_⟩⟩
      unfold wpY_send; dsimp only
      refine gy_obj1 hyt hx cx (br_t (nI_pos' (by omega)) ⟨jx, ?_⟩)
      rw [fx, hys x hx, hSx]
      have eq2 : (gw_o (some q)).toNatClampNeg = q := nI_clamp (by omega)
      refine br_f (gw_p0 (by omega)) (br_t h0 ⟨jx, vp_in_nI hq (by omega), nm_r (by rw [eq2, gw_n1]) ⟨jx, gw_16, ?_, ?_⟩⟩)
      · show nI q - nI q / 16 * 16 = nI (gw_d q) - nI (gw_d q) / 32 * 32
        rw [gw_m16 (by omega), gw_m32 (by omega), gw_dm]
      · exact ⟨yde, yve, yow, P, L, C, S, T, gw_u B q 1, F, cu, hC, hO, ⟨rfl, rfl, rfl, hxc, hxt, gx_b_u hxb _, hxf, hxg, hxs, hxu⟩, ⟨rfl, rfl, rfl, hyc, hyt, gy_b_u hyb _, hyv, hys, hyu⟩⟩
  · unfold wpX_send wpY_send; dsimp only
    exact gx_obj0 hxt hno (br_t rfl (gy_obj0 hyt hno (br_f (by decide) ⟨rfl, I'⟩)))
