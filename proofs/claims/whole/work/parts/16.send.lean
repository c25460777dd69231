/-! send: both sides, step by step -/
section
variable {B : Nat → Int32} {P L C S T : Nat → Option Nat} {F : Nat → Int64} {A : Nat → Bool}
theorem gx_s_j {a : Nat → Int32} (h : gx_s S a) {o y : Nat} {j : Int32} : gx_s (if j = 0 then gw_u S o none else gw_u (gw_u S o none) y (some o)) (if j = 0 then upd a (gw_d o) (-1) else upd (upd a (gw_d o) (-1)) (gw_d y) (nI (gw_d o))) := by
  by_cases hj : j = 0
  · rw [if_pos hj, if_pos hj]; exact gx_s_u h none
  · rw [if_neg hj, if_neg hj]; exact gx_s_u (gx_s_u h none) (some o)
theorem gy_s_j {a : Nat → Int32} (h : gy_s S a) {o y : Nat} {j : Int32} : gy_s (if j = 0 then gw_u S o none else gw_u (gw_u S o none) y (some o)) (if j = 0 then upd a o (-1) else upd (upd a o (-1)) y (nI o)) := by
  by_cases hj : j = 0
  · rw [if_pos hj, if_pos hj]; exact gy_s_u h none
  · rw [if_neg hj, if_neg hj]; exact gy_s_u (gy_s_u h none) (some o)
theorem gx_A_u {a : Nat → Int32} (h : gx_A A a) {o y : Nat} (ho : o < 32) (hy : y < 32) : gx_A (gw_u A o true) (upd a (gw_d o) (nI (gw_d y))) := by
  refine ⟨fun p hp => ?_, fun i i1 i2 => ?_⟩
  · by_cases e : p = o
    · rw [e, pk_us, gw_us]
      have := gw_dlt hy
      exact ⟨fun z => absurd z (gw_nm (by omega)), fun z => absurd z (by decide)⟩
    · rw [pk_un (fun z => e (gw_dinj z)), gw_un e]; exact h.1 p hp
  · rw [pk_un (by unfold gw_d; omega)]; exact h.2 i i1 i2
theorem gy_A_u {a : Nat → Int32} (h : gy_A A a) {o : Nat} : gy_A (gw_u A o true) (upd a o 1) := fun p hp => by
  by_cases e : p = o
  · rw [e, pk_us, gw_us]
    exact ⟨fun z => absurd z (by decide), fun z => absurd z (by decide)⟩
  · rw [pk_un e, gw_un e]; exact h p hp
/-- what a copied field is -/
theorem gs_cpO {D V K : Nat → Int32} (hC : gw_C D K P L) (hO : gw_O D P K C S T F) {s y o t e d : Nat} (hs : s < 2) (hy : y < 32) (hys : y / 16 = s) (ho : o < 32) (hos : o / 16 = 1 - s) (cy : C y = some t) (co : C o = some (6 * (1 - s) + t % 6)) (hmf : gw_mf D P V K t (6 * (1 - s) + t % 6) = 0) (he : gw_an P (2 - d / 10) (some t) = some e) (hk : ¬ K (10 * e + d % 10) = -1) (h1 : gw_in P (6 * (1 - s) + t % 6) (6 * ((6 * (1 - s) + t % 6) / 6) + e % 6)) (h2 : ¬ K (10 * (6 * ((6 * (1 - s) + t % 6) / 6) + e % 6) + d % 10) = -1) : gw_kd P K (6 * (1 - s) + t % 6) (d % 10) = gw_kd P K t (d % 10) ∧ gw_kd P K t (d % 10) = K (10 * e + d % 10) ∧ gw_O D P K C S (gw_u T (10 * o + d % 10) ((T (10 * y + d % 10)).bind S)) (gw_u F (10 * o + d % 10) (F (10 * y + d % 10))) := by
  have hv := hO.1 y hy
  rw [cy, hys] at hv
  have tv := hv t rfl
  have hvr := hO.1 o ho
  rw [co] at hvr
  have rv := hvr _ rfl
  have k1 := hC.2.2.2.1 t tv.1 tv.2.2 e (d % 10) ⟨2 - d / 10, by omega, he⟩ (by omega) hk
  have k2 := hC.2.2.2.1 _ rv.1 rv.2.2 _ (d % 10) h1 (by omega) h2
  have k3 := gw_fit hC hs hv rfl hmf (by omega) he h1 (by omega) hk h2
  have kk : gw_kd P K (6 * (1 - s) + t % 6) (d % 10) = gw_kd P K t (d % 10) := by rw [k1, k2, k3]
  have o3 := hO.2.2.1 y (d % 10) t hy (by omega) cy
  refine ⟨kk, k1, gw_O_cp hO (by omega) co (fun h => ?_) (fun h => ?_) (fun q hq => ?_)⟩
  · rw [kk] at h
    rw [o3.1 h]; rfl
  · rw [kk] at h
    exact o3.2 h
  · cases hT : T (10 * y + d % 10) with
    | none => rw [hT] at hq; exact absurd hq (by simp)
    | some z =>
      rw [hT] at hq
      have hq' : S z = some q := hq
      obtain ⟨z1, z2, z3⟩ := hO.2.2.2 y _ z hy (by omega) (by rw [cy]; simp) hT
      obtain ⟨q1, q2, q3, q4⟩ := hO.2.1 z q z1 hq'
      exact ⟨q1, by omega, q4⟩
variable {xcu xar xrc xlc : Int32} {xde xpt xve xok xlt xty xpi : Nat → Int32} {xnu : Nat → Int64} {xtg xse xso xnf xrn xre xrl xrd xll xlr : Nat → Int32}
variable {ycu ydp ylm : Int32} {yde yve ypa yow yla ycl ypr ypi yar : Nat → Int32} {yva : Nat → Int64} {yfr yma ydo yro : Nat → Int32}
theorem gs_err {k s x z c N : Nat} {r p1 x4 : Int32} {WY : (Int32 → SY → Prop) → Prop} (hC : gw_C yde yow P L) (hxc : gx_C yde P L xpt xlt) (hyc : gy_C yde P L ypa yla) (hO : gw_O yde P yow C S T F) (hA : gw_A C S T A s) (hs : s < 2) (hxt : gx_t C xty) (hxb : gx_b B xpi) (hxf : gx_f F xnu) (hxg : gx_g T xtg) (hxs : gx_s S xse) (hxA : gx_A A xso) (hyt : gy_t C ycl) (hyb : gy_b B ypi) (hyv : gy_v P yow C T F yva) (hys : gy_s S ypr) (hyA : gy_A A yar) (hx : x < 32) (hxs' : x / 16 = s) (hr : ¬ r = 0) (hc : c < 1000000) (hY : ∀ postY, (∃ n, wY_send_84 postY p1 (nI x) n r (nI (gw_d z)) ydp ylm yde yve ypa yow yla ycl ypr ypi yar yva yfr yma ydo yro) → WY postY) : wX_send_74 (fun r u' => WY (fun r' v' => r' = r ∧ i_Rel (k + 5) u' v')) (nI (gw_d x)) x4 (N + 1) r (nI c) (nI (gw_d z)) xar xrc xlc yde xpt yve yow xlt xty xpi xnu xtg xse xso xnf xrn xre xrl xrd xll xlr := by
  have dx := gw_dlt hx
  refine br_f (nI_ge (b := 1000000) hc (by omega)) (br_f hr (br_f hr ⟨gw_32, ?_⟩))
  rw [gw_q32 (by omega), gw_dd, hxs']
  refine gx_undo hxA hxt hs (fun xty' hx' => hY _ ⟨1, br_f hr (br_f hr ⟨gw_16, ?_⟩)⟩)
  rw [gw_q16 (by omega), hxs']
  refine gy_undo hyA hyt hs (fun ycl' hy' => ⟨rfl, ?_⟩)
  exact ⟨yde, yve, yow, P, L, gw_ua C A, gw_fg S (16 * s) (16 * s + 16) none, T, B, F, some z, hC, gw_O_ua hO hA hs, ⟨rfl, rfl, rfl, hxc, hx', hxb, hxf, hxg, gx_s_z hxs hs, rfl⟩, ⟨rfl, rfl, rfl, hyc, hy', hyb, gy_v_ua hyv, gy_s_z hys, rfl⟩⟩
theorem gs_loop {k s x o0 : Nat} {p1 : Int32} {cu : Option Nat} {WY : (Int32 → SY → Prop) → Prop} (hC : gw_C yde yow P L) (hxc : gx_C yde P L xpt xlt) (hyc : gy_C yde P L ypa yla) (hs : s < 2) (hx : x < 32) (hxs' : x / 16 = s) (hxu : xcu = gw_g cu) (hyu : ycu = gw_g cu) : ∀ (m : Nat) (C S T : Nat → Option Nat) (B : Nat → Int32) (F : Nat → Int64) (A : Nat → Bool) (st : List (Nat × Nat × Nat)) (xar : Int32) (xty xpi : Nat → Int32) (xnu : Nat → Int64) (xtg xse xso xnf xrn : Nat → Int32) (ydp ylm : Int32) (ycl ypr ypi yar : Nat → Int32) (yva : Nat → Int64) (yfr yma ydo : Nat → Int32) (c N : Nat), gw_fm st + 33 * gw_fc C s < m → c + 2 * m ≤ 900000 → 2 * m + 1 ≤ N → gs_I yde P yve yow C S T F A s st → gw_bt o0 st → gx_t C xty → gx_b B xpi → gx_f F xnu → gx_g T xtg → gx_s S xse → gx_A A xso → gx_ch xso xnf xrn xar st → gy_t C ycl → gy_b B ypi → gy_v P yow C T F yva → gy_s S ypr → gy_A A yar → (∃ n, ydp = nI n ∧ gy_ch yfr yma ydo n st) → (∀ postY, (∃ n, wY_send_84 postY p1 (nI x) n 0 ycu ydp ylm yde yve ypa yow yla ycl ypr ypi yar yva yfr yma ydo yro) → WY postY) → wX_send_74 (fun r u' => WY (fun r' v' => r' = r ∧ i_Rel (k + 5) u' v')) (nI (gw_d x)) (nI (gw_d o0)) N 0 (nI c) xcu xar xrc xlc yde xpt yve yow xlt xty xpi xnu xtg xse xso xnf xrn xre xrl xrd xll xlr := by
  intro m
  induction m with
  | zero => intro C S T B F A st xar xty xpi xnu xtg xse xso xnf xrn ydp ylm ycl ypr ypi yar yva yfr yma ydo c N h; omega
  | succ m ih =>
    intro C S T B F A st xar xty xpi xnu xtg xse xso xnf xrn ydp ylm ycl ypr ypi yar yva yfr yma ydo c N hmu hcm hN I hbt hxt hxb hxf hxg hxs hxA hxch hyt hyb hyv hys hyA hych hY
    cases st with
    | nil => exact hbt.elim
    | cons f w =>
      obtain ⟨y, o, d⟩ := f
      have I' := I
      obtain ⟨hO, hA, hfv, hnd, hwt, hlen⟩ := I
      obtain ⟨hy, hys', ho, hos, hd30, hAo, t, cy, co, hmf⟩ := hfv (y, o, d) (List.mem_cons_self ..)
      dsimp only at hy hys' ho hos hd30 hAo cy co
      obtain ⟨htop, hrest⟩ := hxch
      dsimp only at htop hrest
      obtain ⟨n, hdp, m', hn', hytop, hyrest⟩ := hych
      dsimp only at hytop
      subst hn'
      have hml := gy_ch_l w m' hyrest
      have hlen' : (((y, o, d) :: w : List (Nat × Nat × Nat))).length = w.length + 1 := rfl
      have hm40 : m' + 1 < 40 := by omega
      have dO := gw_dlt ho
      have dpos : ¬ ydp ≤ 0 := by rw [hdp]; exact nI_nle (by omega) (by omega)
      have hfm : gw_fm ((y, o, d) :: w) = (31 - d) + gw_fm w := rfl
      have cyn : C y ≠ none := by rw [cy]; simp
      obtain ⟨N', rfl⟩ : ∃ N', N = N' + 1 := ⟨N - 1, by omega⟩
      refine br_f (nI_ge (b := 1000000) (by omega) (by omega)) (br_t rfl (br_f (by rw [htop.1]; exact gw_nm (by omega)) ?_))
      by_cases hd : d = 30
      · cases w with
        | nil =>
          -- the last one is done
          obtain ⟨N'', rfl⟩ : ∃ N'', N' = N'' + 1 := ⟨N' - 1, by omega⟩
          have eo : o = o0 := by
            rcases hbt with h | h
            · exact h.2
            · exact h.elim
          subst eo
          have hm0 : m' = 0 := hyrest
          subst hm0
          refine gx_fp ho hd htop (nm_r (nI_1 c) (br_f (nI_ge (b := 1000000) (by omega) (by omega)) (br_t rfl (br_t hrest (br_t rfl ⟨vp_in_nI dO (by omega), nm_r (by rw [nI_clamp (by omega), gw_n1]) ⟨gw_32, hY _ ⟨2, br_t rfl (br_f dpos (gy_gl hd hdp hytop (br_t rfl (br_t (by decide) (br_t rfl ⟨vp_in_nI ho (by omega), nm_r (by rw [nI_clamp (by omega), gw_n1]) ⟨gw_16, ?_, ?_⟩⟩)))))⟩⟩⟩)))))
          · rw [gw_m16 (by omega), gw_m32 (by omega), gw_dm]
          · exact ⟨yde, yve, yow, P, L, C, S, T, gw_u B o 1, F, cu, hC, hO, ⟨rfl, rfl, rfl, hxc, hxt, gx_b_u hxb _, hxf, hxg, hxs, hxu⟩, ⟨rfl, rfl, rfl, hyc, hyt, gy_b_u hyb _, hyv, hys, hyu⟩⟩
        | cons g w' =>
          -- given to the one below
          obtain ⟨y', o', d'⟩ := g
          obtain ⟨N'', rfl⟩ : ∃ N'', N' = N'' + 1 := ⟨N' - 1, by omega⟩
          obtain ⟨⟨gd, t', e, z, gc, ge, gk, gT, gS⟩, gw⟩ := hwt (y, o, d) ((y', o', d') :: w') rfl
          dsimp only at gd gc ge gk gT gS
          obtain ⟨py, pys, po, pos, pd30, pA, t2, pc, pco, pmf⟩ := hfv (y', o', d') (List.mem_cons_of_mem _ (List.mem_cons_self ..))
          dsimp only at py pys po pos pd30 pA pc pco
          rw [gc] at pc
          cases pc
          obtain ⟨ptop, prest⟩ := hrest
          dsimp only at ptop prest
          obtain ⟨m'', hn'', pytop, pyrest⟩ := hyrest
          dsimp only at pytop
          subst hn''
          have dp' := gw_dlt po
          have gk' : ¬ yow (10 * e + d' % 10) = -1 := by rw [gk]; decide
          have hnd2 := hnd.2
          have bt2 : gw_bt o0 ((y', o', d' + 1) :: w') := by
            rcases hbt with h | h
            · exact absurd h.1 (by simp)
            · rcases h with h | h
              · exact Or.inl h
              · exact Or.inr h
          have fm2 : gw_fm ((y', o', d') :: w') = (31 - d') + gw_fm w' := rfl
          have fm3 : gw_fm ((y', o', d' + 1) :: w') = (31 - (d' + 1)) + gw_fm w' := rfl
          have hch2 : gx_ch xso (upd xnf (gw_d o') (nI (d' + 1))) xrn (xrn (gw_d o)) ((y', o', d' + 1) :: w') := ⟨⟨ptop.1, ptop.2.1, pk_us⟩, gx_ch_k w' _ (fun f hf => ⟨rfl, pk_un (fun h => hnd2.1 f hf (gw_dinj h)), rfl⟩) prest⟩
          have hych2 : gy_ch yfr yma (upd ydo m'' (nI (d' + 1))) (m'' + 1) ((y', o', d' + 1) :: w') := ⟨m'', rfl, ⟨pytop.1, pytop.2.1, pk_us⟩, gy_ch_k w' m'' (fun i hi => ⟨rfl, rfl, pk_un (by omega)⟩) pyrest⟩
          have kk := hC.2.2.2.1 t' ((hO.1 y' py t' gc).1) ((hO.1 y' py t' gc).2.2) e (d' % 10) ⟨2 - d' / 10, by omega, ge⟩ (by omega) gk'
          refine gx_fp ho hd htop (nm_r (nI_1 c) (br_f (nI_ge (b := 1000000) (by omega) (by omega)) (br_t rfl (br_f (by rw [ptop.1]; exact gw_nm (by omega)) ?_))))
          have hzS : yow (10 * e + d' % 10) = 4 → ∀ z', T (10 * y' + d' % 10) = some z' → S z' ≠ none := fun _ z' hz' => by
            rw [gT] at hz'
            cases hz'
            rw [gS]; simp
          by_cases hsh : gw_in P (6 * (1 - s) + t' % 6) (6 * ((6 * (1 - s) + t' % 6) / 6) + e % 6) ∧ ¬ yow (10 * (6 * ((6 * (1 - s) + t' % 6) / 6) + e % 6) + d' % 10) = -1
          · obtain ⟨c1, c2, c3⟩ := gs_cpO hC hO hs py pys po pos gc pco pmf ge gk' hsh.1 hsh.2
            refine gx_fc hC hxc hO hxt hxf hxg hxs py po gd gc pco ptop ge gk' hzS (fun _ _ => nm_r (nI_1 (c + 1)) (ih C S _ B _ A ((y', o', d' + 1) :: w') _ _ _ _ _ _ _ _ _ (nI (m'' + 1)) (nI o) _ _ _ _ _ _ _ _ (c + 1 + 1) N'' (by omega) (by omega) (by omega) (gs_skip (gs_cp (gs_pop I') (by omega) c3) gd) bt2 hxt hxb (gx_f_u hxf (by omega) _) (gx_g_u hxg (by omega) _) hxs hxA hch2 hyt hyb (gy_v_cp hyv (by omega) pco rfl) hys hyA ⟨m'' + 1, rfl, hych2⟩ (fun postY ⟨n, h⟩ => hY postY ⟨n + 1, br_t rfl (br_f dpos (gy_gp (m := m'') hd (by omega) hdp hytop ?_))⟩))) (fun hn => absurd hsh hn)
            refine gy_give hC hyc hO hyt py pys po gc pco rfl gd (by omega) pytop.1 pytop.2.1 pytop.2.2 ge (fun _ _ => ?_) (fun hn => absurd hsh hn)
            rw [if_pos (by rw [c1, c2]; exact gk), gT] at h
            have e1 : (some z).bind S = some o := gS
            rw [e1] at h
            exact h
          · refine gx_fc hC hxc hO hxt hxf hxg hxs py po gd gc pco ptop ge gk' hzS (fun a b => absurd ⟨a, b⟩ hsh) (fun _ => nm_r (nI_1 (c + 1)) (ih C S T B F A ((y', o', d' + 1) :: w') _ _ _ _ _ _ _ _ _ (nI (m'' + 1)) (nI o) _ _ _ _ _ _ _ _ (c + 1 + 1) N'' (by omega) (by omega) (by omega) (gs_skip (gs_pop I') gd) bt2 hxt hxb hxf hxg hxs hxA hch2 hyt hyb hyv hys hyA ⟨m'' + 1, rfl, hych2⟩ (fun postY ⟨n, h⟩ => hY postY ⟨n + 1, br_t rfl (br_f dpos (gy_gp (m := m'') hd (by omega) hdp hytop (gy_give hC hyc hO hyt py pys po gc pco rfl gd (by omega) pytop.1 pytop.2.1 pytop.2.2 ge (fun a b => absurd ⟨a, b⟩ hsh) (fun _ => h))))⟩)))
      · have hd' : d < 30 := by omega
        have bt2 : gw_bt o0 ((y, o, d + 1) :: w) := hbt
        have fm3 : gw_fm ((y, o, d + 1) :: w) = (31 - (d + 1)) + gw_fm w := rfl
        have hch2 : gx_ch xso (upd xnf (gw_d o) (nI (d + 1))) xrn xar ((y, o, d + 1) :: w) := ⟨⟨htop.1, htop.2.1, pk_us⟩, gx_ch_k w _ (fun f hf => ⟨rfl, pk_un (fun h => hnd.1 f hf (gw_dinj h)), rfl⟩) hrest⟩
        have hych2 : gy_ch yfr yma (upd ydo m' (nI (d + 1))) (m' + 1) ((y, o, d + 1) :: w) := ⟨m', rfl, ⟨hytop.1, hytop.2.1, pk_us⟩, gy_ch_k w m' (fun i hi => ⟨rfl, rfl, pk_un (by omega)⟩) hyrest⟩
        by_cases hno : ∀ e, gw_an P (2 - d / 10) (some t) = some e → yow (10 * e + d % 10) = -1
        · -- no field here
          exact gx_fs hC hxc hO hxt hy ho hd' cy htop hno (nm_r (nI_1 c) (ih C S T B F A ((y, o, d + 1) :: w) _ _ _ _ _ _ _ _ _ _ _ _ _ _ _ _ _ _ _ (c + 1) N' (by omega) (by omega) (by omega) (gs_skip I' hd') bt2 hxt hxb hxf hxg hxs hxA hch2 hyt hyb hyv hys hyA ⟨m' + 1, hdp, hych2⟩ (fun postY ⟨n, h⟩ => hY postY ⟨n + 1, br_t rfl (br_f dpos (gy_gs hC hyc hO hyt hy hys' cy hd' (by omega) hdp hytop hno h))⟩)))
        · have : ∃ e, gw_an P (2 - d / 10) (some t) = some e ∧ ¬ yow (10 * e + d % 10) = -1 := by
            apply Classical.byContradiction
            intro hh
            apply hno
            intro e he
            apply Classical.byContradiction
            intro hk
            exact hh ⟨e, he, hk⟩
          obtain ⟨e, he, hk⟩ := this
          by_cases har : yow (10 * e + d % 10) = 4 ∧ ∃ z, T (10 * y + d % 10) = some z ∧ S z = none
          · -- the target arrives first
            obtain ⟨h4, z, hTz, hSz⟩ := har
            obtain ⟨z1, z2, z3⟩ := hO.2.2.2 y _ z hy (by omega) cyn hTz
            cases cz : C z with
            | none => exact absurd cz z3
            | some tz =>
              refine gx_fa hC hxc hO hxt hxg hxs hy ho hd' cy htop he h4 hTz hSz (gx_arrive hC hxc hO hxt z1 (s := s) (by omega) cz (fun hb => nm_r (nI_1 c) ?_) (fun hb o2 hf => nm_r (nI_1 c) ?_))
              · obtain ⟨N'', rfl⟩ : ∃ N'', N' = N'' + 1 := ⟨N' - 1, by omega⟩
                refine gs_err (p1 := p1) (ydp := ydp) (ylm := ylm) (yfr := yfr) (yma := yma) (ydo := ydo) (yro := yro) hC hxc hyc hO hA hs hxt hxb hxf hxg hxs hxA hyt hyb hyv hys hyA hx hxs' hb (by omega) (fun postY ⟨n, h⟩ => hY postY ⟨n + 1, br_t rfl (br_f dpos (gy_gb hC hyc hO hyt hyv hys hy hys' cy hd' (by omega) hdp hytop he h4 hTz hSz (gy_begin hC hyc hO hyt z1 (s := s) (j := 1) (by omega) cz hm40 hdp ⟨fun q => absurd q (by decide), fun q => absurd q.1 (by omega)⟩ (fun _ => h) (fun q => absurd q hb))))⟩)
              · obtain ⟨f1, f2, f3⟩ := gw_fr_p hf
                have ho2 : o2 < 32 := by omega
                obtain ⟨J, hlt⟩ := gs_beg (j := 1) hC I' hs z1 (by omega) cz hb hf (fun f w2 hfw => by
                  injection hfw with q1 q2
                  subst q1
                  exact ⟨by decide, hSz, hd', t, e, cy, he, h4, hTz⟩)
                have fm4 : gw_fm ((z, o2, 0) :: (y, o, d) :: w) = 31 + ((31 - d) + gw_fm w) := rfl
                have neo : ∀ f, f ∈ (y, o, d) :: w → f.2.1 ≠ o2 := fun f hfm q => by
                  obtain ⟨_, _, _, _, _, _, t9, _, c9, _⟩ := hfv f hfm
                  rw [q, f3] at c9
                  exact absurd c9 (by simp)
                refine ih _ _ _ _ _ (gw_u A o2 true) ((z, o2, 0) :: (y, o, d) :: w) _ _ _ _ _ _ _ _ _ _ ylm _ _ _ _ _ (upd yfr (m' + 1) (nI z)) (upd yma (m' + 1) (nI o2)) (upd ydo (m' + 1) 0) (c + 1) N' (by omega) (by omega) (by omega) J (Or.inr hbt) (gx_t_u hxt ho2 _) (gx_b_u hxb _) (gx_f_z hxf _) (gx_g_z hxg none) (gx_s_j (j := 1) hxs) (gx_A_u hxA ho2 z1) ?_ (gy_t_u hyt (some (6 * (1 - s) + tz % 6))) (gy_b_u hyb _) (gy_v_new hyv) (gy_s_j (j := 1) hys) (gy_A_u hyA) ⟨m' + 1 + 1, rfl, ?_⟩ (fun postY ⟨n, h⟩ => hY postY ⟨n + 1, br_t rfl (br_f dpos (gy_gb hC hyc hO hyt hyv hys hy hys' cy hd' (by omega) hdp hytop he h4 hTz hSz (gy_begin hC hyc hO hyt z1 (s := s) (j := 1) (by omega) cz hm40 hdp ⟨fun q => absurd q (by decide), fun q => absurd q.1 (by omega)⟩ (fun q => absurd hb q) (fun _ o3 hf3 => by
                  rw [hf] at hf3
                  cases hf3
                  exact h))))⟩)
                · refine ⟨⟨rfl, pk_us, pk_us⟩, ?_⟩
                  dsimp only
                  rw [pk_us]
                  refine gx_ch_k _ _ (fun f hfm => ?_) (show gx_ch xso xnf xrn xar ((y, o, d) :: w) from ⟨htop, hrest⟩)
                  have q : gw_d f.2.1 ≠ gw_d o2 := fun q => neo f hfm (gw_dinj q)
                  exact ⟨pk_un q, pk_un q, pk_un q⟩
                · refine ⟨m' + 1, rfl, ⟨pk_us, pk_us, pk_us⟩, ?_⟩
                  refine gy_ch_k _ _ (fun i hi => ?_) (show gy_ch yfr yma ydo (m' + 1) ((y, o, d) :: w) from ⟨m', rfl, hytop, hyrest⟩)
                  have q : i ≠ m' + 1 := by omega
                  exact ⟨pk_un q, pk_un q, pk_un q⟩
          · -- a field that is copied
            have hzS : yow (10 * e + d % 10) = 4 → ∀ z', T (10 * y + d % 10) = some z' → S z' ≠ none := fun h4 z' hz' hn => har ⟨h4, z', hz', hn⟩
            by_cases hsh : gw_in P (6 * (1 - s) + t % 6) (6 * ((6 * (1 - s) + t % 6) / 6) + e % 6) ∧ ¬ yow (10 * (6 * ((6 * (1 - s) + t % 6) / 6) + e % 6) + d % 10) = -1
            · obtain ⟨c1, c2, c3⟩ := gs_cpO hC hO hs hy hys' ho hos cy co hmf he hk hsh.1 hsh.2
              refine gx_fc hC hxc hO hxt hxf hxg hxs hy ho hd' cy co htop he hk hzS (fun _ _ => nm_r (nI_1 c) (ih C S _ B _ A ((y, o, d + 1) :: w) _ _ _ _ _ _ _ _ _ ydp ylm _ _ _ _ _ _ _ _ (c + 1) N' (by omega) (by omega) (by omega) (gs_skip (gs_cp I' (by omega) c3) hd') bt2 hxt hxb (gx_f_u hxf (by omega) _) (gx_g_u hxg (by omega) _) hxs hxA hch2 hyt hyb (gy_v_cp hyv (by omega) co rfl) hys hyA ⟨m' + 1, hdp, hych2⟩ (fun postY ⟨n, h⟩ => hY postY ⟨n + 1, br_t rfl (br_f dpos (gy_gc hC hyc hO hyt hyv hys hy hys' ho cy co rfl hd' (by omega) hdp hytop he hk hzS (fun x9 hx9 _ _ => ?_) (fun hn => absurd hsh hn)))⟩))) (fun hn => absurd hsh hn)
              rw [hx9, ← c1]
              exact h
            · exact gx_fc hC hxc hO hxt hxf hxg hxs hy ho hd' cy co htop he hk hzS (fun a b => absurd ⟨a, b⟩ hsh) (fun _ => nm_r (nI_1 c) (ih C S T B F A ((y, o, d + 1) :: w) _ _ _ _ _ _ _ _ _ ydp ylm _ _ _ _ _ _ _ _ (c + 1) N' (by omega) (by omega) (by omega) (gs_skip I' hd') bt2 hxt hxb hxf hxg hxs hxA hch2 hyt hyb hyv hys hyA ⟨m' + 1, hdp, hych2⟩ (fun postY ⟨n, h⟩ => hY postY ⟨n + 1, br_t rfl (br_f dpos (gy_gc hC hyc hO hyt hyv hys hy hys' ho cy co rfl hd' (by omega) hdp hytop he hk hzS (fun _ _ a b => absurd ⟨a, b⟩ hsh) (fun _ => h)))⟩)))
end
