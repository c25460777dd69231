/-! field -/
section
variable {D V K B : Nat → Int32} {P L C S T : Nat → Option Nat} {F : Nat → Int64} {cu : Option Nat}
theorem gw_ct_le {t : Nat} : ∀ m, gw_ct K t m ≤ m := by
  intro m
  induction m with
  | zero => exact Nat.le_refl _
  | succ m ih =>
    show gw_ct K t m + _ ≤ _
    by_cases h : K (10 * t + m) = -1
    · rw [if_pos h]; omega
    · rw [if_neg h]; omega
theorem gw_cC {D : Nat → Int32} {s c : Nat} {o : Option Nat} (h : gw_v D s o) (hc : c < 6) : gw_c o = nI c ↔ o = some (6 * s + c) := by
  cases o with
  | none => exact ⟨fun z => absurd z.symm (gw_nm (by omega)), fun z => absurd z (by simp)⟩
  | some a =>
    obtain ⟨h1, h2, _⟩ := h a rfl
    show nI (a % 6) = nI c ↔ _
    rw [nI_eq (by omega) (by omega), Option.some.injEq]
    omega
theorem gw_oC {D : Nat → Int32} {s t : Nat} {o : Option Nat} (h : gw_v D s o) (ht : t < 12) : gw_o o = nI t ↔ o = some t := by
  cases o with
  | none => exact ⟨fun z => absurd z.symm (gw_nm (by omega)), fun z => absurd z (by simp)⟩
  | some a =>
    obtain ⟨h1, _, _⟩ := h a rfl
    show nI a = nI t ↔ _
    rw [nI_eq (by omega) (by omega), Option.some.injEq]
section
variable {xcu xar xrc xlc : Int32} {xde xpt xve xok xlt xty xpi : Nat → Int32} {xnu : Nat → Int64} {xtg xse xso xnf xrn xre xrl xrd xll xlr : Nat → Int32}
theorem gx_cnt {post : Int32 → Prop} {t : Nat} (ht : t < 12) (hp : post (nI (gw_ct xok t 10))) : ∀ d j, j + d = 10 → wX_countOwnFields_4 post (nI t) xcu xar xrc xlc xde xpt xve xok xlt xty xpi xnu xtg xse xso xnf xrn xre xrl xrd xll xlr (d + 1) (nI (gw_ct xok t j)) (nI j) := by
  intro d
  induction d with
  | zero =>
    intro j h1
    have : j = 10 := by omega
    subst this
    exact br_t (nI_le (a := 10) (by omega) (by omega)) hp
  | succ d ih =>
    intro j h1
    have e := gw_e3 t j
    refine br_f (nI_ge (b := 10) (by omega) (by omega)) ⟨by rw [e]; exact vp_in_nI (by omega) (by omega), ?_⟩
    rw [e, nI_clamp (by omega)]
    have hs : gw_ct xok t (j + 1) = gw_ct xok t j + (if xok (10 * t + j) = -1 then 0 else 1) := rfl
    have := ih (j + 1) (by omega)
    by_cases h : xok (10 * t + j) = -1
    · rw [if_pos h] at hs
      rw [hs] at this
      exact br_t h (nm_r (nI_1 j) this)
    · rw [if_neg h] at hs
      rw [hs] at this
      exact br_f h (nm_r (nI_1 _) (nm_r (nI_1 j) this))
theorem gx_hob (hv : ∀ o, o < 32 → gw_v D (o / 16) (C o)) (hx : gx_t C xty) {post : Int32 → Prop} {t : Nat} (ht : t < 12) (h1 : (∃ o, o < 32 ∧ C o = some t) → post 1) (h0 : (∀ o, o < 32 → C o ≠ some t) → post 0) : ∀ d i, i + d = 48 → (∀ o, o < 32 → gw_d o < i → C o ≠ some t) → wX_hasObjects_2 post (nI t) xcu xar xrc xlc xde xpt xve xok xlt xty xpi xnu xtg xse xso xnf xrn xre xrl xrd xll xlr (d + 1) (nI i) := by
  intro d
  induction d with
  | zero =>
    intro i hi hb
    exact br_t (nI_le (a := 48) (by omega) (by omega)) (h0 (fun o ho => hb o ho (by have := gw_dlt ho; omega)))
  | succ d ih =>
    intro i hi hb
    refine br_f (nI_ge (b := 48) (by omega) (by omega)) ⟨vp_in_nI (by omega) (by omega), ?_⟩
    rw [nI_clamp (by omega)]
    by_cases hm : 16 ≤ i ∧ i < 32
    · rw [hx.2 i hm.1 hm.2]
      refine br_f (fun z => absurd z.symm (gw_nm (by omega))) (nm_r (nI_1 i) (ih (i + 1) (by omega) (fun o ho hlt => hb o ho (by unfold gw_d at hlt ⊢; omega))))
    · have ed : gw_d (i - i / 32 * 16) = i := by unfold gw_d; omega
      have hxo := hx.1 (i - i / 32 * 16) (by omega)
      rw [ed] at hxo
      rw [hxo]
      refine ek_if (gw_oC (hv _ (by omega)) ht) (fun h => h1 ⟨_, by omega, h⟩) (fun h => nm_r (nI_1 i) (ih (i + 1) (by omega) (fun o ho hlt => ?_)))
      by_cases e : gw_d o = i
      · have : o = i - i / 32 * 16 := gw_dinj (e.trans ed.symm)
        rw [this]; exact h
      · exact hb o ho (by omega)
end
section
variable {ycu ydp ylm : Int32} {yde yve ypa yow yla ycl ypr ypi yar : Nat → Int32} {yva : Nat → Int64} {yfr yma ydo yro : Nat → Int32}
theorem gy_cnt {post : Int32 → SY → Prop} {s c : Nat} {x3 x4 : Int32} (hs : s < 2) (hc : c < 6) (hv : ∀ i, i < 120 → ¬ yow i = -1 → ∃ n, n ≤ 4 ∧ yow i = nI n) (hp : ∃ n81, wY_field_81 post (nI s) (nI c) x3 x4 (nI (gw_ct yow (6 * s + c) 10)) ycu ydp ylm yde yve ypa yow yla ycl ypr ypi yar yva yfr yma ydo yro n81 0) : ∀ d j, j + d = 10 → wY_field_51 post (nI s) (nI c) x3 x4 ycu ydp ylm yde yve ypa yow yla ycl ypr ypi yar yva yfr yma ydo yro (d + 1) (nI (gw_ct yow (6 * s + c) j)) (nI j) := by
  intro d
  induction d with
  | zero =>
    intro j h1
    have : j = 10 := by omega
    subst this
    exact br_t (nI_le (a := 10) (by omega) (by omega)) hp
  | succ d ih =>
    intro j h1
    refine br_f (nI_ge (b := 10) (by omega) (by omega)) (gy_own hs hc (by omega) ?_)
    have hs : gw_ct yow (6 * s + c) (j + 1) = gw_ct yow (6 * s + c) j + (if yow (10 * (6 * s + c) + j) = -1 then 0 else 1) := rfl
    have := ih (j + 1) (by omega)
    by_cases h : yow (10 * (6 * s + c) + j) = -1
    · rw [if_pos h] at hs
      rw [hs] at this
      exact br_t (by rw [h]; decide) (nm_r (nI_1 j) this)
    · obtain ⟨m, hm, em⟩ := hv _ (by omega) h
      rw [if_neg h] at hs
      rw [hs] at this
      exact br_f (by rw [em]; exact gw_p0 (by omega)) (nm_r (nI_1 _) (nm_r (nI_1 j) this))
theorem gy_fob (hC : gw_C D yow P L) (hy : gy_C D P L ypa yla) (hv : ∀ o, o < 32 → gw_v D (o / 16) (C o)) (ht : gy_t C ycl) {post : Int32 → SY → Prop} {s c n : Nat} {x4 : Int32} (hs : s < 2) (hc : c < 6) (hn : n < 10) (hD : D (6 * s + c) ≠ 0) (h0 : (∃ o, o < 32 ∧ C o = some (6 * s + c)) ∨ gw_ct yow (6 * s + c) 10 = 4 ∨ gw_kd P yow (6 * s + c) n ≠ -1 → post 0 (ycu, ydp, ylm, yde, yve, ypa, yow, yla, ycl, ypr, ypi, yar, yva, yfr, yma, ydo, yro)) (h1 : (∀ o, o < 32 → C o ≠ some (6 * s + c)) → gw_ct yow (6 * s + c) 10 ≠ 4 → gw_kd P yow (6 * s + c) n = -1 → post 1 (ycu, ydp, ylm, yde, yve, ypa, upd yow (10 * (6 * s + c) + n) x4, yla, ycl, ypr, ypi, yar, yva, yfr, yma, ydo, yro)) : ∀ d j, j + d = 16 → (∀ i, i < j → C (16 * s + i) ≠ some (6 * s + c)) → wY_field_81 post (nI s) (nI c) (nI n) x4 (nI (gw_ct yow (6 * s + c) 10)) ycu ydp ylm yde yve ypa yow yla ycl ypr ypi yar yva yfr yma ydo yro (d + 1) (nI j) := by
  have hvt : gw_v D s (some (6 * s + c)) := gw_v_mk (by omega) (by omega) hD
  intro d
  induction d with
  | zero =>
    intro j hj hb
    have hno : ∀ o, o < 32 → C o ≠ some (6 * s + c) := fun o ho z => by
      have h := hv o ho _ z
      have h3 := hb (o - 16 * s) (by omega)
      rw [show 16 * s + (o - 16 * s) = o by omega] at h3
      exact h3 z
    have hle := gw_ct_le (K := yow) (t := 6 * s + c) 10
    refine br_t (nI_le (a := 16) (by omega) (by omega)) (pk_eq (gw_ct yow (6 * s + c) 10) 4 (fun h => h0 (Or.inr (Or.inl h))) (fun h => gy_kind hC hy hs hc hn hvt ?_))
    rcases gw_kd_r hC hvt hn with e | ⟨m, hm, e⟩
    · refine br_t (by rw [e]; decide) ⟨by rw [gw_e4]; exact vp_in_nI (by omega) (by omega), nm_r (by rw [gw_e4, nI_clamp (by omega)]) (h1 hno h e)⟩
    · refine br_f (by rw [e]; exact gw_p0 (by omega)) (h0 (Or.inr (Or.inr (by rw [e]; exact gw_nm (by omega)))))
  | succ d ih =>
    intro j hj hb
    have e := gw_e6a s j
    refine br_f (nI_ge (b := 16) (by omega) (by omega)) ⟨by rw [e]; exact vp_in_nI (by omega) (by omega), ?_⟩
    rw [e, nI_clamp (by omega), ht _ (by omega)]
    have hvo := hv (16 * s + j) (by omega)
    rw [show (16 * s + j) / 16 = s by omega] at hvo
    refine ek_if (gw_cC hvo hc) (fun h => h0 (Or.inl ⟨_, by omega, h⟩)) (fun h => nm_r (nI_1 j) (ih (j + 1) (by omega) (fun i hi => ?_)))
    by_cases e2 : i = j
    · rw [e2]; exact h
    · exact hb i (by omega)
end
theorem i_vc_field {k : Nat} {u : SX} {v : SY} (I : i_Rel k u v) (hk : k + 5 ≤ 2560) (v1 : Int32) (v2 : Int32) (v3 : Int32) (v4 : Int32) : wpX_field (fun r u' => wpY_field (fun r' v' => r' = r ∧ i_Rel (k + 5) u' v') v v1 v2 v3 v4) u v1 v2 v3 v4 := by
  have I' := I
  obtain ⟨xcu, xar, xrc, xlc, xde, xpt, xve, xok, xlt, xty, xpi, xnu, xtg, xse, xso, xnf, xrn, xre, xrl, xrd, xll, xlr⟩ := u
  obtain ⟨ycu, ydp, ylm, yde, yve, ypa, yow, yla, ycl, ypr, ypi, yar, yva, yfr, yma, ydo, yro⟩ := v
  obtain ⟨D, V, K, P, L, C, S, T, B, F, cu, hC, hO, hX, hY⟩ := I
  obtain ⟨rfl, rfl, rfl, hxc, hxt, hxb, hxf, hxg, hxs, hxu⟩ := hX
  obtain ⟨rfl, rfl, rfl, hyc, hyt, hyb, hyv, hys, hyu⟩ := hY
  unfold wpX_field; dsimp only
  rcases gw_sid v1 with ⟨s, hs, rfl⟩ | hno
  · have hvL : gw_v yde s (L s) := fun t ht => hC.2.2.2.2.1 s t hs ht
    refine gx_isSide1 hs (br_f (by decide) ?_)
    rcases gw_cls v2 with ⟨c, hc, rfl⟩ | hnc
    · have qL : (nI c = yla (nI s).toNatClampNeg) ↔ L s = some (6 * s + c) := by
        rw [nI_clamp (by omega), hyc.2 s hs, ← gw_cC hvL hc]
        exact ⟨fun z => z.symm, fun z => z.symm⟩
      have yf0 : ∀ post : Int32 → SY → Prop, ¬ (L s = some (6 * s + c) ∧ (∃ n, n < 10 ∧ v3 = nI n) ∧ ∃ j, j < 5 ∧ v4 = nI j) → post 0 (ycu, ydp, ylm, yde, yve, ypa, yow, yla, ycl, ypr, ypi, yar, yva, yfr, yma, ydo, yro) → wpY_field post (ycu, ydp, ylm, yde, yve, ypa, yow, yla, ycl, ypr, ypi, yar, yva, yfr, yma, ydo, yro) (nI s) (nI c) v3 v4 := fun post hb hp => by
        unfold wpY_field; dsimp only
        refine gy_side1 hs (br_f (by decide) (br_f (gw_p0 (by omega)) ⟨vp_in_nI hs (by omega), ek_if qL (fun h => br_c (fun _ => hp) (fun h3 => br_c (fun _ => hp) (fun h3' => br_c (fun _ => hp) (fun h4 => br_c (fun h4' => ?_) (fun _ => hp))))) (fun _ => hp)⟩))
        obtain ⟨n, hn, rfl⟩ := nI_of h3
        obtain ⟨j, hj, rfl⟩ := nI_of h4
        have z3 : ¬ nI 9 < nI n := h3'
        have z4 : nI j ≤ nI 4 := h4'
        rw [nI_ltI (by omega) hn] at z3
        rw [nI_leI hj (by omega)] at z4
        exact absurd ⟨h, ⟨n, by omega, rfl⟩, ⟨j, by omega, rfl⟩⟩ hb
      refine gx_class hs hc (fun h => br_t rfl (yf0 _ (fun z => (hC.2.2.2.2.1 s _ hs z.1).2.2 h) ⟨rfl, I'⟩)) (fun h => br_f (by decide) ?_)
      rcases gw_nam v3 with ⟨n, hn, rfl⟩ | hnn
      · refine gx_name1 hn (br_f (by decide) ?_)
        refine br_c (fun h4 => yf0 _ (fun z => ?_) ⟨rfl, I'⟩) (fun h4 => br_c (fun h4' => ?_) (fun h4' => yf0 _ (fun z => ?_) ⟨rfl, I'⟩))
        · obtain ⟨_, _, j, hj, rfl⟩ := z
          exact absurd h4 (gw_p0 (by omega))
        · obtain ⟨j, hj, rfl⟩ := nI_of h4
          have z4 : nI j ≤ nI 4 := h4'
          rw [nI_leI hj (by omega)] at z4
          refine nm_r (gw_e1 s c) ⟨vp_in_nI hs (by omega), ?_⟩
          rw [nI_clamp (by omega), hxc.2 s hs]
          refine ek_if (gw_oC hvL (by omega)) (fun hL => ?_) (fun hL => yf0 _ (fun z => hL z.1) ⟨rfl, I'⟩)
          have hvt : gw_v yde s (some (6 * s + c)) := gw_v_mk (by omega) (by omega) h
          have y51 : ∀ post : Int32 → SY → Prop, ((∃ o, o < 32 ∧ C o = some (6 * s + c)) ∨ gw_ct yow (6 * s + c) 10 = 4 ∨ gw_kd P yow (6 * s + c) n ≠ -1 → post 0 (ycu, ydp, ylm, yde, yve, ypa, yow, yla, ycl, ypr, ypi, yar, yva, yfr, yma, ydo, yro)) → ((∀ o, o < 32 → C o ≠ some (6 * s + c)) → gw_ct yow (6 * s + c) 10 ≠ 4 → gw_kd P yow (6 * s + c) n = -1 → post 1 (ycu, ydp, ylm, yde, yve, ypa, upd yow (10 * (6 * s + c) + n) (nI j), yla, ycl, ypr, ypi, yar, yva, yfr, yma, ydo, yro)) → wpY_field post (ycu, ydp, ylm, yde, yve, ypa, yow, yla, ycl, ypr, ypi, yar, yva, yfr, yma, ydo, yro) (nI s) (nI c) (nI n) (nI j) := fun post a b => by
            unfold wpY_field; dsimp only
            exact gy_side1 hs (br_f (by decide) (br_f (gw_p0 (by omega)) ⟨vp_in_nI hs (by omega), br_t (qL.mpr hL) (br_f (gw_p0 (by omega)) (br_f (nI_nlt (a := 9) (by omega) (by omega)) (br_f (gw_p0 (by omega)) (br_t h4' ⟨11, gy_cnt hs hc hC.2.1 ⟨17, gy_fob hC hyc hO.1 hyt hs hc hn h a b 16 0 (by omega) (fun i hi => absurd hi (by omega))⟩ 10 0 (by omega)⟩))))⟩))
          refine gx_kind hC hxc hn hvt (br_c (fun hkd => ?_) (fun hkd => y51 _ (fun _ => ⟨rfl, I'⟩) (fun _ _ z => absurd z hkd)))
          have hle := gw_ct_le (K := yow) (t := 6 * s + c) 10
          have h4t := hC.2.2.2.2.2 (6 * s + c) (by omega)
          refine ⟨11, gx_cnt (by omega) (pk_le 4 (gw_ct yow (6 * s + c) 10) (fun h5 => y51 _ (fun _ => ⟨rfl, I'⟩) (fun _ z _ => absurd (show gw_ct yow (6 * s + c) 10 = 4 by omega) z)) (fun h5 => ?_)) 10 0 (by omega)⟩
          refine ⟨49, gx_hob hO.1 hxt (by omega) (fun h6 => br_f (by decide) (y51 _ (fun _ => ⟨rfl, I'⟩) (fun z _ _ => ?_))) (fun h6 => br_t rfl ⟨by rw [gw_e3]; exact vp_in_nI (by omega) (by omega), nm_r (by rw [gw_e3, nI_clamp (by omega)]) (y51 _ (fun z => ?_) (fun _ _ _ => ⟨rfl, ?_⟩))⟩) 48 0 (by omega) (fun o ho z => absurd z (by omega))⟩
          · obtain ⟨o, ho, ho2⟩ := h6
            exact absurd ho2 (z o ho)
          · rcases z with ⟨o, ho, ho2⟩ | z | z
            · exact absurd ho2 (h6 o ho)
            · omega
            · exact absurd hkd z
          · have hL' : L ((6 * s + c) / 6) = some (6 * s + c) := by rw [show (6 * s + c) / 6 = s by omega]; exact hL
            exact ⟨yde, yve, upd yow (10 * (6 * s + c) + n) (nI j), P, L, C, S, T, B, F, cu, gw_C_fld hC (by omega) hn z4 hL' hkd h5, gw_O_fld hC hO (by omega) hn hL' h6, ⟨rfl, rfl, rfl, hxc, hxt, hxb, hxf, hxg, hxs, hxu⟩, ⟨rfl, rfl, rfl, hyc, hyt, hyb, gy_v_fld hC hO hyv (by omega) hn hL' h6, hys, hyu⟩⟩
        · obtain ⟨_, _, j, hj, rfl⟩ := z
          exact absurd (nI_le (b := 4) (by omega) (by omega)) h4'
      · refine gx_name0 hnn (br_t rfl (yf0 _ (fun z => ?_) ⟨rfl, I'⟩))
        obtain ⟨_, ⟨n, hn, rfl⟩, _⟩ := z
        rcases hnn with z | z
        · exact absurd z (gw_p0 (by omega))
        · exact absurd z (nI_ge (by omega) (by omega))
    · refine gx_class0 hnc (br_t rfl ?_)
      unfold wpY_field; dsimp only
      refine gy_side1 hs (br_f (by decide) (br_c (fun _ => ⟨rfl, I'⟩) (fun h0 => ⟨vp_in_nI hs (by omega), br_f (fun z => ?_) ⟨rfl, I'⟩⟩)))
      have h6 := hnc.resolve_left h0
      rw [z, nI_clamp (by omega), hyc.2 s hs] at h6
      cases hLs : L s with
      | none => rw [hLs] at h6; exact absurd h6 (by decide)
      | some t =>
        rw [hLs] at h6
        have h7 : nI 6 ≤ nI (t % 6) := h6
        rw [nI_leI (by omega) (by omega)] at h7
        omega
  · unfold wpY_field; dsimp only
    exact gx_isSide0 hno (br_t rfl (gy_side0 hno (br_t rfl ⟨rfl, I'⟩)))
end
