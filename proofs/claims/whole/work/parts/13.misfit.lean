/-! send: whether two classes fit -/
section
def gw_ok (K : Nat → Int32) (e f n : Nat) : Prop := ¬ K (10 * e + n) = -1 → ¬ K (10 * f + n) = -1 → K (10 * e + n) = K (10 * f + n)
def gw_sk (K : Nat → Int32) (c : Nat) : Prop := ∀ n, n < 10 → gw_ok K c (6 + c) n
theorem gw_sk_x {K : Nat → Int32} {s e f : Nat} (hs : s < 2) (he : e / 6 = s) (hf : f = 6 * (1 - s) + e % 6) : (∀ n, n < 10 → gw_ok K e f n) ↔ gw_sk K (e % 6) := by
  by_cases h : s = 0
  · have e1 : e % 6 = e := by omega
    have e2 : 6 + e % 6 = f := by omega
    unfold gw_sk
    rw [e2, e1]
  · have e1 : e % 6 = f := by omega
    have e2 : 6 + e % 6 = e := by omega
    unfold gw_sk
    rw [e2, e1]
    exact ⟨fun h n hn a b => (h n hn b a).symm, fun h n hn a b => (h n hn b a).symm⟩
/-- what parts the classes at level k of t's chain -/
noncomputable def gw_lv (P : Nat → Option Nat) (V K : Nat → Int32) (t r k : Nat) : Int32 := match gw_an P k (some t) with
  | none => 0
  | some e => @ite _ (gw_in P r (6 * (r / 6) + e % 6)) (Classical.propDecidable _) (if V e = V (6 * (r / 6) + e % 6) then @ite _ (gw_sk K (e % 6)) (Classical.propDecidable _) 0 (-4) else -3) 0
noncomputable def gw_mf (D : Nat → Int32) (P : Nat → Option Nat) (V K : Nat → Int32) (t r : Nat) : Int32 :=
  if D r = 0 then -2 else if gw_lv P V K t r 2 = 0 then (if gw_lv P V K t r 1 = 0 then gw_lv P V K t r 0 else gw_lv P V K t r 1) else gw_lv P V K t r 2
variable {D V K B : Nat → Int32} {P L C S T : Nat → Option Nat} {F : Nat → Int64} {cu : Option Nat}
theorem gw_lv_n {t r k : Nat} (h : gw_an P k (some t) = none) : gw_lv P V K t r k = 0 := by unfold gw_lv; rw [h]
theorem gw_lv_o {t r k e : Nat} (h : gw_an P k (some t) = some e) (hn : ¬ gw_in P r (6 * (r / 6) + e % 6)) : gw_lv P V K t r k = 0 := by unfold gw_lv; rw [h]; exact if_neg hn
theorem gw_lv_v {t r k e : Nat} (h : gw_an P k (some t) = some e) (hn : gw_in P r (6 * (r / 6) + e % 6)) (hv : ¬ V e = V (6 * (r / 6) + e % 6)) : gw_lv P V K t r k = -3 := by unfold gw_lv; rw [h]; dsimp only; rw [if_pos hn, if_neg hv]
theorem gw_lv_k {t r k e : Nat} (h : gw_an P k (some t) = some e) (hn : gw_in P r (6 * (r / 6) + e % 6)) (hv : V e = V (6 * (r / 6) + e % 6)) (hk : ¬ gw_sk K (e % 6)) : gw_lv P V K t r k = -4 := by unfold gw_lv; rw [h]; dsimp only; rw [if_pos hn, if_pos hv, if_neg hk]
theorem gw_lv_0 {t r k e : Nat} (h : gw_an P k (some t) = some e) (hn : gw_in P r (6 * (r / 6) + e % 6)) (hv : V e = V (6 * (r / 6) + e % 6)) (hk : gw_sk K (e % 6)) : gw_lv P V K t r k = 0 := by unfold gw_lv; rw [h]; dsimp only; rw [if_pos hn, if_pos hv, if_pos hk]
theorem gw_mf_0 {t r : Nat} (h : gw_mf D P V K t r = 0) : D r ≠ 0 ∧ ∀ k, k < 3 → gw_lv P V K t r k = 0 := by
  unfold gw_mf at h
  by_cases h0 : D r = 0
  · rw [if_pos h0] at h; exact absurd h (by decide)
  · rw [if_neg h0] at h
    by_cases h2 : gw_lv P V K t r 2 = 0
    · rw [if_pos h2] at h
      by_cases h1 : gw_lv P V K t r 1 = 0
      · rw [if_pos h1] at h
        refine ⟨h0, fun k hk => ?_⟩
        have : k = 0 ∨ k = 1 ∨ k = 2 := by omega
        rcases this with e | e | e
        · rw [e]; exact h
        · rw [e]; exact h1
        · rw [e]; exact h2
      · rw [if_neg h1] at h; exact absurd h h1
    · rw [if_neg h2] at h; exact absurd h h2
/-- of classes that fit, shared fields have one kind -/
theorem gw_fit {s t r k e n : Nat} (hC : gw_C D K P L) (hs : s < 2) (hv : gw_v D s (some t)) (hr : r = 6 * (1 - s) + t % 6) (h : gw_mf D P V K t r = 0) (hk : k < 3) (he : gw_an P k (some t) = some e) (hin : gw_in P r (6 * (r / 6) + e % 6)) (hn : n < 10) (h1 : ¬ K (10 * e + n) = -1) (h2 : ¬ K (10 * (6 * (r / 6) + e % 6) + n) = -1) : K (10 * e + n) = K (10 * (6 * (r / 6) + e % 6) + n) := by
  have hl := (gw_mf_0 h).2 k hk
  have ev := gw_v_an hC k _ hv e he
  have er : r / 6 = 1 - s := by have := (hv t rfl).1; omega
  by_cases hV : V e = V (6 * (r / 6) + e % 6)
  · by_cases hK : gw_sk K (e % 6)
    · have := (gw_sk_x (K := K) (s := s) (e := e) (f := 6 * (r / 6) + e % 6) hs ev.2.1 (by rw [er])).mpr hK n hn
      exact this h1 h2
    · rw [gw_lv_k he hin hV hK] at hl; exact absurd hl (by decide)
  · rw [gw_lv_v he hin hV] at hl; exact absurd hl (by decide)
section
variable {xcu xar xrc xlc : Int32} {xde xpt xve xok xlt xty xpi : Nat → Int32} {xnu : Nat → Int64} {xtg xse xso xnf xrn xre xrl xrd xll xlr : Nat → Int32}
theorem gx_cm20 {post : Int32 → Prop} {e f : Nat} (he : e < 12) (hf : f < 12) (h0 : (∀ n, n < 10 → gw_ok xok e f n) → post 0) (h4 : ¬ (∀ n, n < 10 → gw_ok xok e f n) → post (-4)) : ∀ d j, j + d = 10 → (∀ n, n < j → gw_ok xok e f n) → wX_classMisfit_20 post (nI e) (nI f) xcu xar xrc xlc xde xpt xve xok xlt xty xpi xnu xtg xse xso xnf xrn xre xrl xrd xll xlr (d + 1) (nI j) := by
  intro d
  induction d with
  | zero =>
    intro j hj ha
    have : j = 10 := by omega
    subst this
    exact br_t (nI_le (a := 10) (by omega) (by omega)) (h0 ha)
  | succ d ih =>
    intro j hj ha
    have b1 := gw_e3 e j
    have b2 := gw_e3 f j
    have nx : gw_ok xok e f j → wX_classMisfit_20 post (nI e) (nI f) xcu xar xrc xlc xde xpt xve xok xlt xty xpi xnu xtg xse xso xnf xrn xre xrl xrd xll xlr (d + 1) (nI (j + 1)) := fun h => ih (j + 1) (by omega) (fun n hn => by
      by_cases en : n = j
      · rw [en]; exact h
      · exact ha n (by omega))
    refine br_f (nI_ge (b := 10) (by omega) (by omega)) ⟨by rw [b1]; exact vp_in_nI (by omega) (by omega), nm_r (e' := xok (10 * e + j)) (by rw [b1, nI_clamp (by omega)]) ⟨by rw [b2]; exact vp_in_nI (by omega) (by omega), nm_r (e' := xok (10 * f + j)) (by rw [b2, nI_clamp (by omega)]) ?_⟩⟩
    refine br_c (fun h => nm_r (nI_1 j) (nx (fun a _ => absurd h a))) (fun h1 => br_c (fun h => nm_r (nI_1 j) (nx (fun _ b => absurd h b))) (fun h2 => br_c (fun h => nm_r (nI_1 j) (nx (fun _ _ => h))) (fun h => h4 (fun z => h (z j (by omega) h1 h2)))))
theorem gx_cm {post : Int32 → Prop} {s e f : Nat} (hs : s < 2) (he : e < 12) (hes : e / 6 = s) (hf : f = 6 * (1 - s) + e % 6) (hp : (¬ xve e = xve f → post (-3)) ∧ (xve e = xve f → ¬ gw_sk xok (e % 6) → post (-4)) ∧ (xve e = xve f → gw_sk xok (e % 6) → post 0)) : wpX_classMisfit post (xcu, xar, xrc, xlc, xde, xpt, xve, xok, xlt, xty, xpi, xnu, xtg, xse, xso, xnf, xrn, xre, xrl, xrd, xll, xlr) (nI e) (nI f) := by
  refine ⟨vp_in_nI he (by omega), vp_in_nI (by omega) (by omega), ?_⟩
  rw [nI_clamp (by omega), nI_clamp (by omega)]
  have q := gw_sk_x (K := xok) hs hes hf
  exact br_c (fun h => ⟨11, gx_cm20 he (by omega) (fun z => hp.2.2 h (q.mp z)) (fun z => hp.2.1 h (fun y => z (q.mpr y))) 10 0 (by omega) (fun n hn => by omega)⟩) (fun h => hp.1 h)
theorem gx_mfs (hC : gw_C D K P L) (hx : gx_C D P L xpt xlt) {post : Int32 → Prop} {J : Int32 → Int32 → Prop} {s t r k : Nat} (hs : s < 2) (hk : k < 3) (hv : gw_v D s (some t)) (hr : r = 6 * (1 - s) + t % 6) (hvr : gw_v D (1 - s) (some r)) (hJ : J (gw_lv P xve xok t r k) (nI k + (-1))) : wpX_ancestor (fun r_5 => (((r_5 = (-1) → (wX_misfit_52 post J (nI t) (nI r) 0 (nI k) r_5 (-1) xcu xar xrc xlc xde xpt xve xok xlt xty xpi xnu xtg xse xso xnf xrn xre xrl xrd xll xlr)) ∧ (¬ r_5 = (-1) → (wpX_namesake (fun r_29 => (wX_misfit_52 post J (nI t) (nI r) 0 (nI k) r_5 r_29 xcu xar xrc xlc xde xpt xve xok xlt xty xpi xnu xtg xse xso xnf xrn xre xrl xrd xll xlr)) (xcu, xar, xrc, xlc, xde, xpt, xve, xok, xlt, xty, xpi, xnu, xtg, xse, xso, xnf, xrn, xre, xrl, xrd, xll, xlr) (nI r) r_5))))) (xcu, xar, xrc, xlc, xde, xpt, xve, xok, xlt, xty, xpi, xnu, xtg, xse, xso, xnf, xrn, xre, xrl, xrd, xll, xlr) (nI t) (nI k) := by
  refine gx_ancestor hC hx (by omega) hv ?_
  have er : r / 6 = 1 - s := (hvr r rfl).2.1
  cases he : gw_an P k (some t) with
  | none =>
    rw [gw_lv_n he] at hJ
    exact br_t rfl (br_t rfl (nm_e hJ))
  | some e =>
    have ev := gw_v_an hC k _ hv e he
    refine br_f (gw_nm (by omega)) (gx_namesake hC hx (s := 1 - s) (by omega) rfl hvr (fun hin => ?_) (fun hin => ?_))
    · rw [← er] at hin
      refine br_f (gw_nm (by omega)) (gx_cm hs ev.1 ev.2.1 rfl ⟨fun h => ?_, fun h g => ?_, fun h g => ?_⟩)
      · rw [← er] at h
        rw [gw_lv_v he hin h] at hJ
        exact nm_e hJ
      · rw [← er] at h
        rw [gw_lv_k he hin h g] at hJ
        exact nm_e hJ
      · rw [← er] at h
        rw [gw_lv_0 he hin h g] at hJ
        exact nm_e hJ
    · rw [← er] at hin
      rw [gw_lv_o he hin] at hJ
      exact br_t rfl (nm_e hJ)
theorem gx_misfit (hC : gw_C xde K P L) (hx : gx_C xde P L xpt xlt) {post : Int32 → Prop} {s t r : Nat} (hs : s < 2) (hv : gw_v xde s (some t)) (hr : r = 6 * (1 - s) + t % 6) (hp : post (gw_mf xde P xve xok t r)) : wpX_misfit post (xcu, xar, xrc, xlc, xde, xpt, xve, xok, xlt, xty, xpi, xnu, xtg, xse, xso, xnf, xrn, xre, xrl, xrd, xll, xlr) (nI t) (nI r) := by
  have tv := hv t rfl
  refine ⟨vp_in_nI (by omega) (by omega), ?_⟩
  rw [nI_clamp (by omega)]
  unfold gw_mf at hp
  refine br_c (fun h => ?_) (fun h => ⟨4, ?_⟩)
  · rw [if_pos h] at hp; exact hp
  · rw [if_neg h] at hp
    have hvr : gw_v xde (1 - s) (some r) := gw_v_mk (by omega) (by omega) h
    refine br_f (by decide) (br_t rfl (gx_mfs hC hx hs (k := 2) (by omega) hv hr hvr ?_))
    refine br_f (by decide) (br_c (fun h2 => ?_) (fun h2 => ?_))
    · rw [if_pos h2] at hp
      rw [h2]
      refine gx_mfs hC hx hs (k := 1) (by omega) hv hr hvr ?_
      refine br_f (by decide) (br_c (fun h1 => ?_) (fun h1 => ?_))
      · rw [if_pos h1] at hp
        rw [h1]
        refine gx_mfs hC hx hs (k := 0) (by omega) hv hr hvr ?_
        exact br_t (by decide) hp
      · rw [if_neg h1] at hp; exact hp
    · rw [if_neg h2] at hp; exact hp
end
section
variable {ycu ydp ylm : Int32} {yde yve ypa yow yla ycl ypr ypi yar : Nat → Int32} {yva : Nat → Int64} {yfr yma ydo yro : Nat → Int32}
theorem gy_sk (hK : ∀ i, i < 120 → ¬ yow i = -1 → ∃ n, n ≤ 4 ∧ yow i = nI n) {post : Int32 → Prop} {c : Nat} (hc : c < 6) (h1 : gw_sk yow c → post 1) (h0 : ¬ gw_sk yow c → post 0) : ∀ d j, j + d = 10 → (∀ n, n < j → gw_ok yow c (6 + c) n) → wY_sameKinds_2 post (nI c) ycu ydp ylm yde yve ypa yow yla ycl ypr ypi yar yva yfr yma ydo yro (d + 1) (nI j) := by
  intro d
  induction d with
  | zero =>
    intro j hj ha
    have : j = 10 := by omega
    subst this
    exact br_t (nI_le (a := 10) (by omega) (by omega)) (h1 ha)
  | succ d ih =>
    intro j hj ha
    have nx : gw_ok yow c (6 + c) j → wY_sameKinds_2 post (nI c) ycu ydp ylm yde yve ypa yow yla ycl ypr ypi yar yva yfr yma ydo yro (d + 1) (nI (j + 1)) := fun h => ih (j + 1) (by omega) (fun n hn => by
      by_cases en : n = j
      · rw [en]; exact h
      · exact ha n (by omega))
    refine br_f (nI_ge (b := 10) (by omega) (by omega)) (gy_own (s := 0) (by omega) hc (by omega) (gy_own (s := 1) (by omega) hc (by omega) ?_))
    rw [show 6 * 0 + c = c by omega, show 6 * 1 + c = 6 + c by omega]
    by_cases g1 : yow (10 * c + j) = -1
    · exact br_t (by rw [g1]; decide) (nm_r (nI_1 j) (nx (fun a _ => absurd g1 a)))
    · obtain ⟨m1, l1, e1⟩ := hK _ (by omega) g1
      refine br_f (by rw [e1]; exact gw_p0 (by omega)) ?_
      by_cases g2 : yow (10 * (6 + c) + j) = -1
      · exact br_t (by rw [g2]; decide) (nm_r (nI_1 j) (nx (fun _ b => absurd g2 b)))
      · obtain ⟨m2, l2, e2⟩ := hK _ (by omega) g2
        refine br_f (by rw [e2]; exact gw_p0 (by omega)) (br_c (fun h => nm_r (nI_1 j) (nx (fun _ _ => h))) (fun h => h0 (fun z => h (z j (by omega) g1 g2))))
theorem gy_obs (hC : gw_C D yow P L) (hy : gy_C D P L ypa yla) {post : Int32 → Prop} {s c r k n : Nat} (hs : s < 2) (hk : k < 3) (hc : c < 6) (hv : gw_v D s (some (6 * s + c))) (hr : r = 6 * (1 - s) + c) (hvr : gw_v D (1 - s) (some r)) (h0 : gw_lv P yve yow (6 * s + c) r k = 0 → wY_obstacle_38 post (nI s) (nI c) (nI (1 - s)) ycu ydp ylm yde yve ypa yow yla ycl ypr ypi yar yva yfr yma ydo yro n (nI k + (-1))) (h1 : ¬ gw_lv P yve yow (6 * s + c) r k = 0 → post (gw_lv P yve yow (6 * s + c) r k)) : wY_obstacle_38 post (nI s) (nI c) (nI (1 - s)) ycu ydp ylm yde yve ypa yow yla ycl ypr ypi yar yva yfr yma ydo yro (n + 1) (nI k) := by
  have er : r / 6 = 1 - s := (hvr r rfl).2.1
  have hvr' : gw_v D (1 - s) (some (6 * (1 - s) + c)) := by rw [← hr]; exact hvr
  refine br_f (gw_p0 (by omega)) (gy_chain hC hy (by omega) hc hv ?_)
  cases he : gw_an P k (some (6 * s + c)) with
  | none => exact gy_inNone (br_t rfl (nm_e (h0 (gw_lv_n he))))
  | some e =>
    have ev := gw_v_an hC k _ hv e he
    have e1 : 6 * nI s + gw_c (some e) = nI e := by
      show 6 * nI s + nI (e % 6) = _
      rw [gw_e2]; exact congrArg nI (by omega)
    have e2 : 6 * nI (1 - s) + gw_c (some e) = nI (6 * (r / 6) + e % 6) := by
      show 6 * nI (1 - s) + nI (e % 6) = _
      rw [gw_e2, er]
    refine gy_inChain hC hy (by omega) hc (e := e) (by omega) rfl hvr' (fun hin => br_f (by decide) ⟨by rw [e1]; exact vp_in_nI ev.1 (by omega), by rw [e2]; exact vp_in_nI (by omega) (by omega), ?_⟩) (fun hin => br_t rfl (nm_e (h0 ?_)))
    · rw [← hr, ← er] at hin
      rw [e1, e2, nI_clamp (by omega), nI_clamp (by omega)]
      refine br_c (fun hV => ⟨11, gy_sk hC.2.1 (by omega) (fun hK => br_f (by decide) (nm_e (h0 (gw_lv_0 he hin hV hK)))) (fun hK => br_t rfl ?_) 10 0 (by omega) (fun n hn => by omega)⟩) (fun hV => ?_)
      · have := h1 (by rw [gw_lv_k he hin hV hK]; decide)
        rw [gw_lv_k he hin hV hK] at this
        exact this
      · have := h1 (by rw [gw_lv_v he hin hV]; decide)
        rw [gw_lv_v he hin hV] at this
        exact this
    · rw [← hr, ← er] at hin
      exact gw_lv_o he hin
/-- whether the object can arrive -/
noncomputable def gw_bar (D : Nat → Int32) (P : Nat → Option Nat) (V K : Nat → Int32) (C : Nat → Option Nat) (s t : Nat) : Int32 := if gw_mf D P V K t (6 * (1 - s) + t % 6) = 0 then (if gw_fr C (1 - s) = none then -5 else 0) else gw_mf D P V K t (6 * (1 - s) + t % 6)
theorem gy_obst (hC : gw_C yde yow P L) (hy : gy_C yde P L ypa yla) (hO : gw_O yde P yow C S T F) (ht : gy_t C ycl) {post : Int32 → Prop} {s o t : Nat} (hs : o / 16 = s) (ho : o < 32) (hc : C o = some t) (hp : post (gw_bar yde P yve yow C s t)) : wpY_obstacle post (ycu, ydp, ylm, yde, yve, ypa, yow, yla, ycl, ypr, ypi, yar, yva, yfr, yma, ydo, yro) (nI o) := by
  have hv := hO.1 o ho
  rw [hc, hs] at hv
  have tv := hv t rfl
  have et : 6 * s + t % 6 = t := by omega
  have e2 := gw_e2 (1 - s) (t % 6)
  refine ⟨gw_16, nm_r (e' := nI s) (by rw [gw_q16 (by omega), hs]) ⟨vp_in_nI ho (by omega), nm_r (e' := nI (t % 6)) (by rw [nI_clamp (by omega), ht o ho, hc]; rfl) (nm_r (gw_s1 (by omega)) ⟨by rw [e2]; exact vp_in_nI (by omega) (by omega), ?_⟩)⟩⟩
  rw [e2, nI_clamp (by omega)]
  unfold gw_bar at hp
  unfold gw_mf at hp
  refine br_c (fun h => ?_) (fun h => ⟨4, ?_⟩)
  · rw [if_pos h, if_neg (by decide)] at hp; exact hp
  · rw [if_neg h] at hp
    have hvr : gw_v yde (1 - s) (some (6 * (1 - s) + t % 6)) := gw_v_mk (by omega) (by omega) h
    have hv' : gw_v yde s (some (6 * s + t % 6)) := by rw [et]; exact hv
    rw [← et] at hp
    rw [show (6 * s + t % 6) % 6 = t % 6 by omega] at hp
    refine gy_obs hC hy (by omega) (k := 2) (by omega) (by omega) hv' rfl hvr (fun h2 => ?_) (fun h2 => ?_)
    · rw [if_pos h2] at hp
      refine gy_obs hC hy (by omega) (k := 1) (by omega) (by omega) hv' rfl hvr (fun h1 => ?_) (fun h1 => ?_)
      · rw [if_pos h1] at hp
        refine gy_obs hC hy (by omega) (k := 0) (by omega) (by omega) hv' rfl hvr (fun h0 => ?_) (fun h0 => ?_)
        · rw [if_pos h0] at hp
          refine br_t (by decide) (gy_free hO.1 ht (by omega) ?_)
          cases hf : gw_fr C (1 - s) with
          | none => rw [if_pos hf] at hp; exact br_f (by decide) hp
          | some q =>
            have := gw_fr_p hf
            rw [if_neg (by rw [hf]; simp)] at hp
            exact br_t (nI_pos' (by omega)) hp
        · rw [if_neg h0] at hp; exact hp
      · rw [if_neg h1, if_neg h1] at hp; exact hp
    · rw [if_neg h2, if_neg h2] at hp; exact hp
end
end
