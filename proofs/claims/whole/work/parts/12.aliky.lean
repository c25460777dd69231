/-! alike: the reference -/
section
abbrev gy_J : Type := Int32 → (Nat → Int32) → (Nat → Int32) → (Nat → Int32) → (Nat → Int32) → (Nat → Int32) → (Nat → Int32) → (Nat → Int32) → (Nat → Int32) → (Nat → Int32) → (Nat → Int64) → (Nat → Int32) → (Nat → Int32) → (Nat → Int32) → (Nat → Int32) → Prop
variable {D V K B : Nat → Int32} {P L C S T : Nat → Option Nat} {F : Nat → Int64} {cu : Option Nat}
def gw_g2 (P : Nat → Option Nat) (K : Nat → Int32) (T : Nat → Option Nat) (F : Nat → Int64) (R : Nat → Int32) (t r u v n : Nat) : Prop := gw_gd P K T F t r u v n ∧ ∀ z w, T (10 * u + n) = some z → T (10 * v + n) = some w → bt (R z) w = true
def gw_mb (P : Nat → Option Nat) (K : Nat → Int32) (C T : Nat → Option Nat) (F : Nat → Int64) (R : Nat → Int32) (u v : Nat) : Prop := ∃ t r, C u = some t ∧ C v = some r ∧ t % 6 = r % 6 ∧ ∀ i, i < 30 → gw_it P K t r i → gw_g2 P K T F R t r u v (i % 10)
theorem gw_tne {z : Nat} (hz : z < 100) : ¬ (gw_o none).toInt64 = (gw_o (some z)).toInt64 := fun e => by
  have h := gw_tl0
  rw [e] at h
  exact gw_tln hz h
section
variable {ycu ydp ylm : Int32} {yde yve ypa yow yla ycl ypr ypi yar : Nat → Int32} {yva : Nat → Int64} {yfr yma ydo yro : Nat → Int32}
theorem gy_fits (hO : gw_O D P yow C S T F) (hv : gy_v P yow C T F yva) {post : Int32 → Prop} {u v t r n : Nat} {a b : Int32} (hu : u < 32) (hw : v < 32) (cu' : C u = some t) (cv' : C v = some r) (hn : n < 10) (ha : a = if gw_kd P yow t n = 4 then 1 else 0) (hb : b = if gw_kd P yow r n = 4 then 1 else 0) (h1 : gw_g2 P yow T F yro t r u v n → post 1) (h0 : ¬ gw_g2 P yow T F yro t r u v n → post 0) : wpY_fits post (ycu, ydp, ylm, yde, yve, ypa, yow, yla, ycl, ypr, ypi, yar, yva, yfr, yma, ydo, yro) (nI u) (nI v) (nI n) a b := by
  have e1 := gw_e7 u n
  have e2 := gw_e7 v n
  have f1 := hO.2.2.1 u n t hu hn cu'
  have f2 := hO.2.2.1 v n r hw hn cv'
  refine ⟨by rw [e1]; exact vp_in_nI (by omega) (by omega), nm_r (e' := if gw_kd P yow t n = 4 then (gw_o (T (10 * u + n))).toInt64 else F (10 * u + n)) (by rw [e1, nI_clamp (by omega)]; exact hv u n t hu hn cu') ⟨by rw [e2]; exact vp_in_nI (by omega) (by omega), nm_r (e' := if gw_kd P yow r n = 4 then (gw_o (T (10 * v + n))).toInt64 else F (10 * v + n)) (by rw [e2, nI_clamp (by omega)]; exact hv v n r hw hn cv') ?_⟩⟩
  by_cases k1 : gw_kd P yow t n = 4
  · by_cases k2 : gw_kd P yow r n = 4
    · rw [if_pos k1] at ha ⊢
      rw [if_pos k2] at hb ⊢
      subst ha hb
      have F1 := f1.2 k1
      have F2 := f2.2 k2
      have gk : (gw_kd P yow t n = 4 ↔ gw_kd P yow r n = 4) := ⟨fun _ => k2, fun _ => k1⟩
      refine br_t rfl (br_f (by decide) ?_)
      cases hTu : T (10 * u + n) with
      | none =>
        refine br_t gw_tl0 ?_
        cases hTv : T (10 * v + n) with
        | none => exact br_t rfl (h1 ⟨⟨gk, by rw [F1, F2], by rw [hTu, hTv]⟩, fun z w x => by rw [hTu] at x; exact absurd x (by simp)⟩)
        | some w =>
          have hw2 := (hO.2.2.2 v n w hw hn (by rw [cv']; simp) hTv).1
          refine br_f (gw_tne (by omega)) (h0 (fun z => ?_))
          have := z.1.2.2.mp hTu
          rw [hTv] at this
          exact absurd this (by simp)
      | some z =>
        have hz := (hO.2.2.2 u n z hu hn (by rw [cu']; simp) hTu).1
        refine br_f (gw_tln (by omega)) ?_
        cases hTv : T (10 * v + n) with
        | none =>
          refine br_f (by decide) (br_f (fun x => gw_tne (z := z) (by omega) x.symm) (h0 (fun x => ?_)))
          have := x.1.2.2.mpr hTv
          rw [hTu] at this
          exact absurd this (by simp)
        | some w =>
          have hw2 := (hO.2.2.2 v n w hw hn (by rw [cv']; simp) hTv).1
          have hge : (0 : Int64) ≤ (gw_o (some w)).toInt64 := Int64.not_lt.mp (gw_tln (by omega))
          refine br_t hge ⟨?_, ?_⟩
          · rw [gw_toI (by omega)]; exact vp_in_nI hz (by omega)
          · rw [gw_toI (by omega), gw_toI (by omega), nI_clamp (by omega)]
            refine ek_if (gw_bit1 hw2) (fun hb => h1 ⟨⟨gk, by rw [F1, F2], by rw [hTu, hTv]; simp⟩, fun z' w' x y => ?_⟩) (fun hb => h0 (fun x => hb (x.2 z w hTu hTv)))
            rw [hTu] at x
            rw [hTv] at y
            cases x
            cases y
            exact hb
    · rw [if_pos k1] at ha
      rw [if_neg k2] at hb
      subst ha hb
      exact br_f (by decide) (h0 (fun z => k2 (z.1.1.mp k1)))
  · by_cases k2 : gw_kd P yow r n = 4
    · rw [if_neg k1] at ha
      rw [if_pos k2] at hb
      subst ha hb
      exact br_f (by decide) (h0 (fun z => k1 (z.1.1.mpr k2)))
    · rw [if_neg k1] at ha ⊢
      rw [if_neg k2] at hb ⊢
      subst ha hb
      have T1 := f1.1 k1
      have T2 := f2.1 k2
      refine br_t rfl (br_t rfl (br_c (fun hF => h1 ⟨⟨⟨fun z => absurd z k1, fun z => absurd z k2⟩, hF, by rw [T1, T2]⟩, fun z w x => by rw [T1] at x; exact absurd x (by simp)⟩) (fun hF => h0 (fun z => hF z.1.2.1))))
theorem gy_mb40 (hC : gw_C D yow P L) (hy : gy_C D P L ypa yla) (hO : gw_O D P yow C S T F) (ht : gy_t C ycl) (hv : gy_v P yow C T F yva) {post : Int32 → Prop} {u v t r : Nat} (hu : u < 32) (hw : v < 32) (cu' : C u = some t) (cv' : C v = some r) (hm : t % 6 = r % 6) (h1 : gw_mb P yow C T F yro u v → post 1) (h0 : ¬ gw_mb P yow C T F yro u v → post 0) : ∀ d i, i + d = 30 → (∀ j, j < i → gw_it P yow t r j → gw_g2 P yow T F yro t r u v (j % 10)) → wY_mayBe_40 post (nI u) (nI v) (nI (u / 16)) (nI (v / 16)) ycu ydp ylm yde yve ypa yow yla ycl ypr ypi yar yva yfr yma ydo yro (d + 1) (nI i) := by
  have hvt := hO.1 u hu
  rw [cu'] at hvt
  have hvr := hO.1 v hw
  rw [cv'] at hvr
  have tv := hvt t rfl
  have rv := hvr r rfl
  have et : 6 * (u / 16) + t % 6 = t := by omega
  have er : 6 * (v / 16) + r % 6 = r := by omega
  intro d
  induction d with
  | zero =>
    intro i hi ha
    have : i = 30 := by omega
    subst this
    exact br_t (nI_le (a := 30) (by omega) (by omega)) (h1 ⟨t, r, cu', cv', hm, ha⟩)
  | succ d ih =>
    intro i hi ha
    have nx : (gw_it P yow t r i → gw_g2 P yow T F yro t r u v (i % 10)) → wY_mayBe_40 post (nI u) (nI v) (nI (u / 16)) (nI (v / 16)) ycu ydp ylm yde yve ypa yow yla ycl ypr ypi yar yva yfr yma ydo yro (d + 1) (nI (i + 1)) := fun hg => ih (i + 1) (by omega) (fun j hj hit => by
      by_cases e : j = i
      · rw [e] at hit ⊢; exact hg hit
      · exact ha j (by omega) hit)
    have no : ¬ gw_it P yow t r i → ∀ x6 x7, wY_mayBe_118 post (wY_mayBe_40 post (nI u) (nI v) (nI (u / 16)) (nI (v / 16)) ycu ydp ylm yde yve ypa yow yla ycl ypr ypi yar yva yfr yma ydo yro (d + 1)) (nI u) (nI v) (nI (u / 16)) (nI (v / 16)) (nI i) x6 x7 ycu ydp ylm yde yve ypa yow yla ycl ypr ypi yar yva yfr yma ydo yro := fun hn x6 x7 => by
      unfold wY_mayBe_118
      exact br_t rfl (nm_r (nI_1 i) (nx (fun z => absurd z hn)))
    refine br_f (nI_ge (b := 30) (by omega) (by omega)) ⟨vp_in_nI hu (by omega), gw_10, ?_⟩
    rw [nI_clamp (by omega), nI_clamp (by omega), ht u hu, ht v hw, cu', cv', gw_q10 (by omega)]
    refine gy_chain hC hy (by omega) (by omega) (by rw [et]; exact hvt) ?_
    rw [et]
    have e10 : nI i - nI (i / 10) * 10 = nI (i % 10) := by rw [← gw_q10 (show i < 2 ^ 31 by omega)]; exact gw_m10 (by omega)
    refine ⟨gw_10, nm_r e10 ?_⟩
    refine ⟨vp_in_nI hw (by omega), ?_⟩
    cases he : gw_an P (i / 10) (some t) with
    | none =>
      refine gy_inNone (br_t rfl (no (fun z => ?_) _ _))
      obtain ⟨e, h2, _⟩ := z
      rw [he] at h2
      exact absurd h2 (by simp)
    | some e =>
      have hve := gw_v_an hC (i / 10) _ hvt
      rw [he] at hve
      have ev := hve e rfl
      have ee : 6 * (u / 16) + e % 6 = e := by omega
      have ef : 6 * (v / 16) + e % 6 = 6 * (r / 6) + e % 6 := by omega
      refine gy_inChain hC hy (by omega) (by omega) (e := e) (by omega) rfl (by rw [er]; exact hvr) (fun hin => br_f (by decide) ?_) (fun hin => br_t rfl (no (fun z => ?_) _ _))
      · rw [er] at hin
        have fv := gw_v_in hC hvr hin _ rfl
        refine gy_own (by omega) (by omega) (by omega) ?_
        rw [ee]
        by_cases h7 : yow (10 * e + i % 10) = -1
        · refine br_t (by rw [h7]; decide) (no (fun z => ?_) _ _)
          obtain ⟨e', h2, h3, h4, h5⟩ := z
          rw [he] at h2
          cases h2
          exact h4 h7
        · obtain ⟨m7, g7, e7⟩ := hC.2.1 _ (by omega) h7
          refine br_f (by rw [e7]; exact gw_p0 (by omega)) (gy_own (by omega) (by omega) (by omega) ?_)
          by_cases h8 : yow (10 * (6 * (v / 16) + e % 6) + i % 10) = -1
          · refine br_t (by rw [h8]; decide) (no (fun z => ?_) _ _)
            obtain ⟨e', h2, h3, h4, h5⟩ := z
            rw [he] at h2
            cases h2
            rw [← ef] at h5
            exact h5 h8
          · obtain ⟨m8, g8, e8⟩ := hC.2.1 _ (by omega) h8
            have hit : gw_it P yow t r i := ⟨e, he, by rw [← ef]; exact hin, h7, by rw [← ef]; exact h8⟩
            have k1 := hC.2.2.2.1 t tv.1 tv.2.2 e (i % 10) ⟨i / 10, by omega, he⟩ (by omega) h7
            have k2 := hC.2.2.2.1 r rv.1 rv.2.2 _ (i % 10) hin (by omega) h8
            have fits : ∀ a b : Int32, a = (if gw_kd P yow t (i % 10) = 4 then 1 else 0) → b = (if gw_kd P yow r (i % 10) = 4 then 1 else 0) → wpY_fits (fun r_93 => (((r_93 = 0 → (post 0)) ∧ (¬ r_93 = 0 → (∀ x5_112 : Int32, x5_112 = nI i + 1 → (wY_mayBe_40 post (nI u) (nI v) (nI (u / 16)) (nI (v / 16)) ycu ydp ylm yde yve ypa yow yla ycl ypr ypi yar yva yfr yma ydo yro (d + 1) x5_112)))))) (ycu, ydp, ylm, yde, yve, ypa, yow, yla, ycl, ypr, ypi, yar, yva, yfr, yma, ydo, yro) (nI u) (nI v) (nI (i % 10)) a b := fun a b ha' hb' =>
              gy_fits hO hv hu hw cu' cv' (by omega) ha' hb' (fun hg => br_f (by decide) (nm_r (nI_1 i) (nx (fun _ => hg)))) (fun hg => br_t rfl (h0 (fun z => by
                obtain ⟨t', r', c1, c2, _, c4⟩ := z
                rw [cu'] at c1
                rw [cv'] at c2
                cases c1
                cases c2
                exact hg (c4 i (by omega) hit))))
            refine br_f (by rw [e8]; exact gw_p0 (by omega)) (br_f (by decide) (gy_own (by omega) (by omega) (by omega) ?_))
            rw [ee, ← k1]
            refine br_c (fun h74 => gy_own (by omega) (by omega) (by omega) ?_) (fun h74 => gy_own (by omega) (by omega) (by omega) ?_)
            · rw [← k2]
              refine br_c (fun h84 => fits 1 1 ?_ ?_) (fun h84 => fits 1 0 ?_ ?_)
              · rw [if_pos h74]
              · rw [if_pos h84]
              · rw [if_pos h74]
              · rw [if_neg h84]
            · rw [← k2]
              refine br_c (fun h84 => fits 0 1 ?_ ?_) (fun h84 => fits 0 0 ?_ ?_)
              · rw [if_neg h74]
              · rw [if_pos h84]
              · rw [if_neg h74]
              · rw [if_neg h84]
      · obtain ⟨e', h2, h3, _⟩ := z
        rw [he] at h2
        cases h2
        rw [er] at hin
        rw [← ef] at h3
        exact hin h3
theorem gy_mayBe (hC : gw_C D yow P L) (hy : gy_C D P L ypa yla) (hO : gw_O D P yow C S T F) (ht : gy_t C ycl) (hv : gy_v P yow C T F yva) {post : Int32 → Prop} {u v : Nat} (hu : u < 32) (hw : v < 32) (h1 : gw_mb P yow C T F yro u v → post 1) (h0 : ¬ gw_mb P yow C T F yro u v → post 0) : wpY_mayBe post (ycu, ydp, ylm, yde, yve, ypa, yow, yla, ycl, ypr, ypi, yar, yva, yfr, yma, ydo, yro) (nI u) (nI v) := by
  refine ⟨vp_in_nI hu (by omega), ?_⟩
  rw [nI_clamp (by omega), nI_clamp (by omega), ht u hu, ht v hw]
  cases cu' : C u with
  | none => exact br_t (by decide) (h0 (fun ⟨t, r, a, _⟩ => by rw [cu'] at a; exact absurd a (by simp)))
  | some t =>
    refine br_f (gw_p0 (by omega)) ⟨vp_in_nI hu (by omega), vp_in_nI hw (by omega), ?_⟩
    cases cv' : C v with
    | none => exact br_f (fun z => gw_nm (n := t % 6) (by omega) z) (h0 (fun ⟨t, r, _, b, _⟩ => by rw [cv'] at b; exact absurd b (by simp)))
    | some r =>
      have q1 : (gw_c (some t) = gw_c (some r)) ↔ t % 6 = r % 6 := by
        show (nI (t % 6) = nI (r % 6)) ↔ _
        rw [nI_eq (by omega) (by omega)]
      refine ek_if q1 (fun hm => ⟨gw_16, nm_r (gw_q16 (by omega)) ⟨gw_16, nm_r (gw_q16 (by omega)) ⟨31, gy_mb40 hC hy hO ht hv hu hw cu' cv' hm h1 h0 30 0 (by omega) (fun j hj => by omega)⟩⟩⟩) (fun hm => h0 (fun ⟨t', r', a, b, c, _⟩ => ?_))
      rw [cu'] at a
      rw [cv'] at b
      cases a
      cases b
      exact hm c
end
/-- the pairs that stand -/
def gw_bp (R : Nat → Int32) (w : Nat) : Bool := bt (R (w / 32)) (w % 32)
/-- a set of pairs that holds itself up -/
def gw_H (P : Nat → Option Nat) (K : Nat → Int32) (C T : Nat → Option Nat) (F : Nat → Int64) (H : Nat → Nat → Prop) : Prop := ∀ u v, H u v → u < 32 ∧ v < 32 ∧ gw_lk P K C T F u v ∧ ∀ z w, gw_ed P K C T u v z w → H z w
theorem gw_H_mb {H : Nat → Nat → Prop} (hH : gw_H P K C T F H) {R : Nat → Int32} (hs : ∀ u v, H u v → bt (R u) v = true) {u v : Nat} (h : H u v) : gw_mb P K C T F R u v := by
  obtain ⟨_, _, ⟨t, r, a, b, c, d⟩, e⟩ := hH u v h
  exact ⟨t, r, a, b, c, fun i hi hit => ⟨d i hi hit, fun z w x y => hs z w (e z w ⟨t, r, i, a, b, hi, hit, x, y⟩)⟩⟩
section
variable {ycu ydp ylm : Int32} {yde yve ypa yow yla ycl ypr ypi yar : Nat → Int32} {yva : Nat → Int64} {yfr yma ydo yro : Nat → Int32}
theorem gy_al62 (hC : gw_C D yow P L) (hy : gy_C D P L ypa yla) (hO : gw_O D P yow C S T F) (ht : gy_t C ycl) (hv : gy_v P yow C T F yva) {post : Int32 → SY → Prop} {J : gy_J} {x3 x4 : Int32} {H : Nat → Nat → Prop} (hH : gw_H P yow C T F H) {R0 : Nat → Int32} (j0 : (∀ w, w < 1024 → gw_bp R0 w = true → gw_mb P yow C T F R0 (w / 32) (w % 32)) → (∀ u v, H u v → bt (R0 u) v = true) → J 0 yde yve ypa yow yla ycl ypr ypi yar yva yfr yma ydo R0) (j1 : ∀ R, gw_cn (gw_bp R) 1024 < gw_cn (gw_bp R0) 1024 → (∀ u v, H u v → bt (R u) v = true) → J 1 yde yve ypa yow yla ycl ypr ypi yar yva yfr yma ydo R) : ∀ d w f R, w + d = 1024 → (∀ u v, H u v → bt (R u) v = true) → ((f = 0 ∧ R = R0 ∧ ∀ x, x < w → gw_bp R0 x = true → gw_mb P yow C T F R0 (x / 32) (x % 32)) ∨ (f = 1 ∧ gw_cn (gw_bp R) 1024 < gw_cn (gw_bp R0) 1024)) → wY_alike_62 post J x3 x4 ycu ydp ylm (d + 1) f (nI w) yde yve ypa yow yla ycl ypr ypi yar yva yfr yma ydo R := by
  intro d
  induction d with
  | zero =>
    intro w f R hw hs hf
    have : w = 1024 := by omega
    subst this
    refine br_t (nI_le (a := 1024) (by omega) (by omega)) ?_
    rcases hf with ⟨h1, h2, h3⟩ | ⟨h1, h2⟩
    · subst h1 h2; exact j0 h3 hs
    · subst h1; exact j1 R h2 hs
  | succ d ih =>
    intro w f R hw hs hf
    have hi : vp_in (nI (w / 32)) 32 := vp_in_nI (by omega) (by omega)
    have e1 : (nI (w / 32)).toNatClampNeg = w / 32 := nI_clamp (by omega)
    refine br_f (nI_ge (b := 1024) (by omega) (by omega)) ⟨gw_32, nm_r (gw_q32 (by omega)) ⟨gw_32, nm_r (gw_m32 (by omega)) ⟨hi, ?_⟩⟩⟩
    rw [e1]
    refine ek_if (gw_bit1 (by omega)) (fun hb => ?_) (fun hb => nm_r (nI_1 w) (ih (w + 1) f R (by omega) hs ?_))
    · refine gy_mayBe hC hy hO ht hv (by omega) (by omega) (fun hm => br_f (by decide) (nm_r (nI_1 w) (ih (w + 1) f R (by omega) hs ?_))) (fun hm => br_t rfl ⟨hi, hi, nm_e (nm_r (nI_1 w) (ih (w + 1) 1 _ (by omega) ?_ (Or.inr ⟨rfl, ?_⟩)))⟩)
      · rcases hf with ⟨h1, h2, h3⟩ | h
        · subst h2
          refine Or.inl ⟨h1, rfl, fun x hx hbx => ?_⟩
          by_cases e : x = w
          · rw [e]; exact hm
          · exact h3 x (by omega) hbx
        · exact Or.inr h
      · intro u v h
        by_cases eu : u = w / 32
        · rw [eu, pk_us, gw_bcl (by omega) (hH u v h).2.1]
          refine ⟨by rw [← eu]; exact hs u v h, fun ev => hm ?_⟩
          rw [eu, ev] at h
          exact gw_H_mb hH hs h
        · rw [pk_un eu]; exact hs u v h
      · have hlt : gw_cn (gw_bp (upd R (w / 32) (R (w / 32) &&& ((1 : Int32) <<< (nI (w % 32) &&& 31) ^^^ -1)))) 1024 < gw_cn (gw_bp R) 1024 := by
          refine gw_cn_s (m := w) ?_ hb 1024 (by omega) (fun n hn h => ?_)
          · unfold gw_bp
            rw [pk_us, gw_bcl (by omega) (by omega)]
            exact fun z => z.2 rfl
          · unfold gw_bp at h ⊢
            by_cases en : n / 32 = w / 32
            · rw [en, pk_us, gw_bcl (by omega) (by omega)] at h
              rw [en]; exact h.1
            · rw [pk_un en] at h; exact h
        rcases hf with ⟨h1, h2, h3⟩ | ⟨h1, h2⟩
        · subst h2; exact hlt
        · exact Nat.lt_trans hlt h2
    · rcases hf with ⟨h1, h2, h3⟩ | h
      · subst h2
        refine Or.inl ⟨h1, rfl, fun x hx hbx => ?_⟩
        by_cases e : x = w
        · rw [e] at hbx; exact absurd hbx hb
        · exact h3 x (by omega) hbx
      · exact Or.inr h
theorem gy_al51 (hC : gw_C D yow P L) (hy : gy_C D P L ypa yla) (hO : gw_O D P yow C S T F) (ht : gy_t C ycl) (hv : gy_v P yow C T F yva) {post : Int32 → SY → Prop} {p q : Nat} (hp : p < 32) (hq : q < 32) {H : Nat → Nat → Prop} (hH : gw_H P yow C T F H) (fin : ∀ R, (∀ w, w < 1024 → gw_bp R w = true → gw_mb P yow C T F R (w / 32) (w % 32)) → (∀ u v, H u v → bt (R u) v = true) → (bt (R p) q = true → post 1 (ycu, ydp, ylm, yde, yve, ypa, yow, yla, ycl, ypr, ypi, yar, yva, yfr, yma, ydo, R)) ∧ (¬ bt (R p) q = true → post 0 (ycu, ydp, ylm, yde, yve, ypa, yow, yla, ycl, ypr, ypi, yar, yva, yfr, yma, ydo, R))) : ∀ m R, gw_cn (gw_bp R) 1024 < m → (∀ u v, H u v → bt (R u) v = true) → wY_alike_51 post (nI p) (nI q) ycu ydp ylm (m + 1) 1 yde yve ypa yow yla ycl ypr ypi yar yva yfr yma ydo R := by
  intro m
  induction m with
  | zero => intro R h; omega
  | succ m ih =>
    intro R hm hs
    refine br_f (by decide) ⟨1025, gy_al62 hC hy hO ht hv hH (R0 := R) (fun hcl hs0 => br_t rfl ⟨vp_in_nI hp (by omega), ?_⟩) (fun R' hlt hs' => ih R' (by omega) hs') 1024 0 0 R (by omega) hs (Or.inl ⟨rfl, rfl, fun x hx => by omega⟩)⟩
    rw [nI_clamp (by omega)]
    obtain ⟨f1, f0⟩ := fin R hcl hs0
    exact ek_if (gw_bit1 hq) f1 f0
theorem gy_al27 {post : Int32 → SY → Prop} {x3 x4 : Int32} : ∀ d j yro, j + d = 32 → (∃ n51, wY_alike_51 post x3 x4 ycu ydp ylm n51 1 yde yve ypa yow yla ycl ypr ypi yar yva yfr yma ydo (gw_fi yro j 32 (-1))) → wY_alike_27 post x3 x4 ycu ydp ylm (d + 1) (nI j) yde yve ypa yow yla ycl ypr ypi yar yva yfr yma ydo yro := by
  intro d
  induction d with
  | zero =>
    intro j yro h1 hp
    rw [gw_fi_e (by omega)] at hp
    exact br_t (nI_le (a := 32) (by omega) (by omega)) hp
  | succ d ih =>
    intro j yro h1 hp
    refine br_f (nI_ge (b := 32) (by omega) (by omega)) ⟨vp_in_nI (by omega) (by omega), nm_r (by rw [nI_clamp (by omega)]) (nm_r (nI_1 j) (ih (j + 1) _ (by omega) ?_))⟩
    rw [gw_fi_s (by omega)]
    exact hp
theorem gy_alike (hC : gw_C D yow P L) (hy : gy_C D P L ypa yla) (hO : gw_O D P yow C S T F) (ht : gy_t C ycl) (hv : gy_v P yow C T F yva) {post : Int32 → SY → Prop} {p q : Nat} (hp : p < 32) (hq : q < 32) (cp : C p ≠ none) (cq : C q ≠ none) (h1 : gw_Al P yow C T F p q → ∀ yro, post 1 (ycu, ydp, ylm, yde, yve, ypa, yow, yla, ycl, ypr, ypi, yar, yva, yfr, yma, ydo, yro)) (h0 : ¬ gw_Al P yow C T F p q → ∀ yro, post 0 (ycu, ydp, ylm, yde, yve, ypa, yow, yla, ycl, ypr, ypi, yar, yva, yfr, yma, ydo, yro)) : ∃ n27, wY_alike_27 post (nI p) (nI q) ycu ydp ylm n27 0 yde yve ypa yow yla ycl ypr ypi yar yva yfr yma ydo yro := by
  have all : ∀ u v, u < 32 → v < 32 → bt (gw_fi yro 0 32 (-1) u) v = true := fun u v hu hv => by rw [gw_fi_i (by omega)]; exact b_m1 v hv
  have cle := gw_cn_le (p := gw_bp (gw_fi yro 0 32 (-1))) 1024
  by_cases hA : gw_Al P yow C T F p q
  · have hH : gw_H P yow C T F (fun u v => gw_RP P yow C T p q u v) := fun u v h => by
      obtain ⟨a, _, _, b, _, _⟩ := gw_RP_l hO hp hq cp cq h
      exact ⟨a, b, hA u v h, fun z w he => gw_RP_s h he⟩
    refine ⟨33, gy_al27 32 0 yro (by omega) ⟨1026, gy_al51 hC hy hO ht hv hp hq hH (fun R hcl hs => ⟨fun _ => h1 hA R, fun z => absurd (hs p q gw_RP_0) z⟩) 1025 _ (by omega) (fun u v h => ?_)⟩⟩
    obtain ⟨a, b, _⟩ := hH u v h
    exact all u v a b
  · have hH : gw_H P yow C T F (fun _ _ => False) := fun u v h => h.elim
    refine ⟨33, gy_al27 32 0 yro (by omega) ⟨1026, gy_al51 hC hy hO ht hv hp hq hH (fun R hcl _ => ⟨fun hb => absurd ?_ hA, fun _ => h0 hA R⟩) 1025 _ (by omega) (fun u v h => h.elim)⟩⟩
    have mbs : ∀ u v, u < 32 → v < 32 → bt (R u) v = true → gw_mb P yow C T F R u v := fun u v hu hv hb => by
      have e1 : (32 * u + v) / 32 = u := by omega
      have e2 : (32 * u + v) % 32 = v := by omega
      have := hcl (32 * u + v) (by omega) (by unfold gw_bp; rw [e1, e2]; exact hb)
      rw [e1, e2] at this
      exact this
    intro u v huv
    have key := huv (fun u v => u < 32 ∧ v < 32 ∧ bt (R u) v = true) ⟨hp, hq, hb⟩ (fun a b z w hQ he => ?_)
    · obtain ⟨t, r, a, b, c, d⟩ := mbs u v key.1 key.2.1 key.2.2
      exact ⟨t, r, a, b, c, fun i hi hit => (d i hi hit).1⟩
    · obtain ⟨m1, m2, m3, m4, m5, m6⟩ := gw_ed_l hO hQ.1 hQ.2.1 he
      obtain ⟨t, r, i, c1, c2, c3, c4, c5, c6⟩ := he
      obtain ⟨t', r', a', b', _, d'⟩ := mbs a b hQ.1 hQ.2.1 hQ.2.2
      rw [c1] at a'
      rw [c2] at b'
      cases a'
      cases b'
      exact ⟨m1, m4, (d' i c3 c4).2 z w c5 c6⟩
end
theorem i_vc_alike {k : Nat} {u : SX} {v : SY} (I : i_Rel k u v) (hk : k + 5 ≤ 2560) (v1 : Int32) (v2 : Int32) : wpX_alike (fun r u' => wpY_alike (fun r' v' => r' = r ∧ i_Rel (k + 5) u' v') v v1 v2) u v1 v2 := by
  have I' := I
  obtain ⟨xcu, xar, xrc, xlc, xde, xpt, xve, xok, xlt, xty, xpi, xnu, xtg, xse, xso, xnf, xrn, xre, xrl, xrd, xll, xlr⟩ := u
  obtain ⟨ycu, ydp, ylm, yde, yve, ypa, yow, yla, ycl, ypr, ypi, yar, yva, yfr, yma, ydo, yro⟩ := v
  obtain ⟨D, V, K, P, L, C, S, T, B, F, cu, hC, hO, hX, hY⟩ := I
  obtain ⟨rfl, rfl, rfl, hxc, hxt, hxb, hxf, hxg, hxs, hxu⟩ := hX
  obtain ⟨rfl, rfl, rfl, hyc, hyt, hyb, hyv, hys, hyu⟩ := hY
  have fin : ∀ xlc xrd xll xlr yro, i_Rel (k + 5) (xcu, xar, xrc, xlc, yde, xpt, yve, yow, xlt, xty, xpi, xnu, xtg, xse, xso, xnf, xrn, xre, xrl, xrd, xll, xlr) (ycu, ydp, ylm, yde, yve, ypa, yow, yla, ycl, ypr, ypi, yar, yva, yfr, yma, ydo, yro) := fun _ _ _ _ _ => ⟨yde, yve, yow, P, L, C, S, T, B, F, cu, hC, hO, ⟨rfl, rfl, rfl, hxc, hxt, hxb, hxf, hxg, hxs, hxu⟩, ⟨rfl, rfl, rfl, hyc, hyt, hyb, hyv, hys, hyu⟩⟩
  unfold wpX_alike wpY_alike; dsimp only
  rcases gw_obj C v1 with ⟨p, t, hp, cp, rfl⟩ | hn1
  · have tv := hO.1 p hp t cp
    refine gx_obj1 hxt hp cp tv.1 (br_f (by decide) ?_)
    rcases gw_obj C v2 with ⟨q, r, hq, cq, rfl⟩ | hn2
    · have rv := hO.1 q hq r cq
      have cp' : C p ≠ none := by rw [cp]; simp
      have cq' : C q ≠ none := by rw [cq]; simp
      refine gx_obj1 hxt hq cq rv.1 (br_f (by decide) (gx_alike hC hxc hO hxt hxf hxg hp hq cp' cq' (fun hA lc rd ll lr => ?_) (fun hA lc rd ll lr => ?_)))
      · exact gy_obj1 hyt hp cp (gy_obj1 hyt hq cq (br_f (gw_p0 (by omega)) (br_t (nI_pos' (by omega)) (gy_alike hC hyc hO hyt hyv hp hq cp' cq' (fun z => absurd z hA) (fun _ ro => ⟨rfl, fin _ _ _ _ _⟩)))))
      · exact gy_obj1 hyt hp cp (gy_obj1 hyt hq cq (br_f (gw_p0 (by omega)) (br_t (nI_pos' (by omega)) (gy_alike hC hyc hO hyt hyv hp hq cp' cq' (fun _ ro => ⟨rfl, fin _ _ _ _ _⟩) (fun z => absurd hA z)))))
    · exact gx_obj0 hxt hn2 (br_t rfl (gy_obj1 hyt hp cp (gy_obj0 hyt hn2 (br_f (gw_p0 (by omega)) (br_f (by decide) ⟨rfl, I'⟩)))))
  · refine gx_obj0 hxt hn1 (br_t rfl (gy_obj0 hyt hn1 ?_))
    rcases gw_obj C v2 with ⟨q, r, hq, cq, rfl⟩ | hn2
    · exact gy_obj1 hyt hq cq (br_t (by decide) ⟨rfl, I'⟩)
    · exact gy_obj0 hyt hn2 (br_t (by decide) ⟨rfl, I'⟩)
end
