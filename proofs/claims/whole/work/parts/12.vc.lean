/-! the relation and the owed statements -/
theorem xp_in {w h : Int32} {W H : Nat} (hW : W ≤ 12) (hH : H ≤ 12) (ew : w = nI W) (eh : h = nI H) (cc rn : Int32) (b cs rs pn da on q al re rt ch re2 : Nat → Int32) (p0 p1 : Int32) :
    (∃ x y, x < W ∧ y < H ∧ p0 = nI x ∧ p1 = nI y ∧ (∀ post : Int32 → Prop, post 1 → wpX_inPicture post (w, h, cc, rn, b, cs, rs, pn, da, on, q, al, re) p0 p1) ∧ (∀ post : Int32 → Prop, post 1 → wpY_inside post (w, h, b, rt, ch, re2) p0 p1)) ∨
    ((∀ post : Int32 → Prop, post 0 → wpX_inPicture post (w, h, cc, rn, b, cs, rs, pn, da, on, q, al, re) p0 p1) ∧ (∀ post : Int32 → Prop, post 0 → wpY_inside post (w, h, b, rt, ch, re2) p0 p1)) := by
  subst ew eh
  rcases pk_ix p0 (n := W) (by omega) with h0 | h0 | ⟨x, hx, rfl⟩
  · exact Or.inr ⟨fun _ k => br_t h0 k, fun _ k => br_t h0 k⟩
  · have n0 : ¬ p0 < 0 := Int32.not_lt.mpr (Int32.le_trans (nI_pos' (by omega)) h0)
    exact Or.inr ⟨fun _ k => br_f n0 (br_t h0 k), fun _ k => br_f n0 (br_t h0 k)⟩
  · have n0 : ¬ nI x < 0 := nI_pos (by omega)
    have n1 : ¬ nI W ≤ nI x := nI_ge hx (by omega)
    rcases pk_ix p1 (n := H) (by omega) with h1 | h1 | ⟨y, hy, rfl⟩
    · exact Or.inr ⟨fun _ k => br_f n0 (br_f n1 (br_t h1 k)), fun _ k => br_f n0 (br_f n1 (br_t h1 k))⟩
    · have n2 : ¬ p1 < 0 := Int32.not_lt.mpr (Int32.le_trans (nI_pos' (by omega)) h1)
      exact Or.inr ⟨fun _ k => br_f n0 (br_f n1 (br_f n2 (br_t h1 k))), fun _ k => br_f n0 (br_f n1 (br_f n2 (br_t h1 k)))⟩
    · have n2 : ¬ nI y < 0 := nI_pos (by omega)
      have n3 : ¬ nI H ≤ nI y := nI_ge hy (by omega)
      exact Or.inl ⟨x, y, hx, hy, rfl, rfl, fun _ k => br_f n0 (br_f n1 (br_f n2 (br_f n3 k))), fun _ k => br_f n0 (br_f n1 (br_f n2 (br_f n3 k)))⟩
theorem xp_pl (x y : Nat) : (((nI y + 1) * 14) + nI x) + 1 = nI ((y + 1) * 14 + x + 1) := by
  rw [nI_1, show nI (y + 1) * 14 = nI ((y + 1) * 14) from pk_mul (y + 1) 14, nI_add, nI_1]
theorem yp_pl (x y : Nat) : ((14 * (nI y + 1)) + nI x) + 1 = nI ((y + 1) * 14 + x + 1) := by
  rw [nI_1, show 14 * nI (y + 1) = nI (14 * (y + 1)) from pk_mul 14 (y + 1), nI_add, nI_1, Nat.mul_comm 14 (y + 1)]
theorem cl_ok_u {b : Nat → Int32} (ok : cl_ok b) {p : Nat} {z : Int32} (hp : 14 ≤ p) (hz : z = 0 ∨ z = 1) : cl_ok (upd b p z) := by
  refine ⟨fun j => ?_, fun j hj => ?_⟩
  · by_cases e : j = p
    · rw [e, pk_us]; exact hz
    · rw [pk_un e]; exact ok.1 j
  · rw [pk_un (by omega)]; exact ok.2 j hj
/-- the two pictures are one; the component has surveyed it -/
def i_Rel (_ : Nat) (u : SX) (v : SY) : Prop := ∃ (w h cc rn : Int32) (b cs rs pn da on q al re rt ch re2 : Nat → Int32) (W H : Nat), W ≤ 12 ∧ H ≤ 12 ∧ w = nI W ∧ h = nI H ∧ cl_ok b ∧ cl_X b cc rn cs rs pn da on ∧ u = (w, h, cc, rn, b, cs, rs, pn, da, on, q, al, re) ∧ v = (w, h, b, rt, ch, re2)
theorem i_up {k : Nat} {u : SX} {v : SY} (h : i_Rel k u v) : i_Rel (k + 5) u v := h
theorem xk_clamp (k : Int32) : ∃ W, W ≤ 12 ∧ (∀ post : Int32 → Prop, post (nI W) → wpX_clampSide post k) ∧ (∀ (A : Int32 → Prop), A (nI W) → ((2 ≤ k → ((k ≤ 12 → A k) ∧ (¬ k ≤ 12 → A 12))) ∧ (¬ 2 ≤ k → A 2))) := by
  by_cases h2 : 2 ≤ k
  · by_cases h12 : k ≤ 12
    · obtain ⟨j, hj, rfl⟩ := nI_of2 (x := k) (M := 12) (n := 12) (by decide) (Int32.not_lt.mpr (Int32.le_trans (by decide) h2)) h12
      exact ⟨j, hj, fun _ p => br_t h2 (br_t h12 p), fun _ p => br_t h2 (br_t h12 p)⟩
    · exact ⟨12, by decide, fun _ p => br_t h2 (br_f h12 p), fun _ p => br_t h2 (br_f h12 p)⟩
  · exact ⟨2, by decide, fun _ p => br_f h2 p, fun _ p => br_f h2 p⟩
theorem i_vc0 (k0 : Int32) (k1 : Int32) : wpX_init (fun u => wpY_init (fun v => i_Rel 2 u v) k0 k1) k0 k1 := by
  obtain ⟨W, hW, c1, c2⟩ := xk_clamp k0
  obtain ⟨H, hH, d1, d2⟩ := xk_clamp k1
  unfold wpX_init
  refine c1 _ (d1 _ ?_)
  have ok : cl_ok (fun _ => 0) := ⟨fun _ => Or.inl rfl, fun _ _ => rfl⟩
  refine xs_survey ok (fun cc rn cs rs pn da on q hX => ?_)
  refine c2 (fun z => wY_init_62 (fun v => i_Rel 2 (nI W, nI H, cc, rn, fun _ => 0, cs, rs, pn, da, on, q, fun _ => 0, fun _ => 0) v) k1 z 0 0 (fun _ => 0) (fun _ => 0) (fun _ => 0) (fun _ => 0)) ?_
  exact d2 (fun z => i_Rel 2 (nI W, nI H, cc, rn, fun _ => 0, cs, rs, pn, da, on, q, fun _ => 0, fun _ => 0) (nI W, z, fun _ => 0, fun _ => 0, fun _ => 0, fun _ => 0)) ⟨_, _, _, _, _, _, _, _, _, _, _, _, _, _, _, _, W, H, hW, hH, rfl, rfl, ok, hX, rfl, rfl⟩
theorem i_vc_set {k : Nat} {u : SX} {v : SY} (I : i_Rel k u v) (hk : k + 5 ≤ 2562) (v1 : Int32) (v2 : Int32) (v3 : Int32) : wpX_set (fun r u' => wpY_set (fun r' v' => r' = r ∧ i_Rel (k + 5) u' v') v v1 v2 (lw_bz v3)) u v1 v2 (lw_bz v3) := by
  obtain ⟨w, h, cc, rn, b, cs, rs, pn, da, on, q, al, re, rt, ch, re2, W, H, hW, hH, ew, eh, ok, hX, rfl, rfl⟩ := I
  unfold wpX_set
  rcases xp_in hW hH ew eh cc rn b cs rs pn da on q al re rt ch re2 v1 v2 with ⟨x, y, hx, hy, rfl, rfl, PX, PY⟩ | ⟨PX, PY⟩
  · refine PX _ (br_f cl_10 ?_)
    unfold wpX_placeOf
    have hp : (y + 1) * 14 + x + 1 < 196 := by omega
    rw [xp_pl, cl_vz]
    refine ⟨vp_in_nI hp (by decide), ?_⟩
    rw [nI_clamp (Nat.lt_trans hp (by decide))]
    have ok' : cl_ok (upd b ((y + 1) * 14 + x + 1) (lw_bz v3)) := cl_ok_u ok (by omega) (lw_bz_01 v3)
    refine nm_e (xs_survey ok' (fun cc rn cs rs pn da on q hX' => ?_))
    unfold wpY_set
    refine PY _ (br_f cl_10 ?_)
    unfold wpY_place
    rw [yp_pl, cl_vz]
    refine ⟨vp_in_nI hp (by decide), ?_⟩
    rw [nI_clamp (Nat.lt_trans hp (by decide))]
    exact nm_e ⟨rfl, _, _, _, _, _, _, _, _, _, _, _, _, _, _, _, _, W, H, hW, hH, ew, eh, ok', hX', rfl, rfl⟩
  · refine PX _ (br_t rfl ?_)
    unfold wpY_set
    exact PY _ (br_t rfl ⟨rfl, _, _, _, _, _, _, _, _, _, _, _, _, _, _, _, _, W, H, hW, hH, ew, eh, ok, hX, rfl, rfl⟩)
theorem xv_row {w h cc rn : Int32} {cs rs pn da on q al re rt ch re2 : Nat → Int32} {x2 x4 : Int32} {x a j : Nat} (hj : j < 12) (he : x + a ≤ 12) :
    ∀ (d i : Nat) (b : Nat → Int32), i + d = x + a → cl_ok b → ∃ b', cl_ok b' ∧
      (∀ (post : Int32 → SX → Prop) (J : Int32 → (Nat → Int32) → (Nat → Int32) → (Nat → Int32) → (Nat → Int32) → (Nat → Int32) → (Nat → Int32) → (Nat → Int32) → (Nat → Int32) → (Nat → Int32) → Prop), J (nI (j + 1)) b' cs rs pn da on q al re → wX_invert_60 post J (nI x) x2 (nI a) x4 (nI j) w h cc rn (d + 1) (nI i) b cs rs pn da on q al re) ∧
      (∀ (post : Int32 → SY → Prop) (J : Int32 → (Nat → Int32) → (Nat → Int32) → (Nat → Int32) → (Nat → Int32) → Prop), J (nI (j + 1)) b' rt ch re2 → wY_invert_58 post J (nI x) x2 (nI a) x4 (nI j) w h (d + 1) (nI i) b rt ch re2) := by
  intro d
  induction d with
  | zero =>
    intro i b hi ok
    have le : nI x + nI a ≤ nI i := by rw [nI_add]; exact nI_le (by omega) (by omega)
    exact ⟨b, ok, fun post J hJ => br_t le (nm_r (nI_1 j) hJ), fun post J hJ => br_t le (nm_r (nI_1 j) hJ)⟩
  | succ d ih =>
    intro i b hi ok
    have le : ¬ nI x + nI a ≤ nI i := by rw [nI_add]; exact nI_ge (by omega) (by omega)
    have hp : (j + 1) * 14 + i + 1 < 196 := by omega
    have ip : vp_in (nI ((j + 1) * 14 + i + 1)) 196 := vp_in_nI hp (by decide)
    have cp : (nI ((j + 1) * 14 + i + 1)).toNatClampNeg = (j + 1) * 14 + i + 1 := nI_clamp (Nat.lt_trans hp (by decide))
    by_cases z : b ((j + 1) * 14 + i + 1) = 0
    · obtain ⟨b', ok', HX, HY⟩ := ih (i + 1) (upd b ((j + 1) * 14 + i + 1) 1) (by omega) (cl_ok_u ok (by omega) (Or.inr rfl))
      refine ⟨b', ok', fun post J hJ => br_f le ?_, fun post J hJ => br_f le ?_⟩
      · unfold wpX_placeOf
        rw [xp_pl]
        refine ⟨ip, ?_⟩
        rw [cp]
        exact br_t z ⟨ip, nm_e (nm_r (nI_1 i) (HX post J hJ))⟩
      · unfold wpY_place
        rw [yp_pl]
        refine ⟨ip, ?_⟩
        rw [cp]
        exact br_t z ⟨ip, nm_e (nm_r (nI_1 i) (HY post J hJ))⟩
    · obtain ⟨b', ok', HX, HY⟩ := ih (i + 1) (upd b ((j + 1) * 14 + i + 1) 0) (by omega) (cl_ok_u ok (by omega) (Or.inl rfl))
      refine ⟨b', ok', fun post J hJ => br_f le ?_, fun post J hJ => br_f le ?_⟩
      · unfold wpX_placeOf
        rw [xp_pl]
        refine ⟨ip, ?_⟩
        rw [cp]
        exact br_f z ⟨ip, nm_e (nm_r (nI_1 i) (HX post J hJ))⟩
      · unfold wpY_place
        rw [yp_pl]
        refine ⟨ip, ?_⟩
        rw [cp]
        exact br_f z ⟨ip, nm_e (nm_r (nI_1 i) (HY post J hJ))⟩
theorem xv_all {w h cc rn : Int32} {cs rs pn da on q al re rt ch re2 : Nat → Int32} {x a y c : Nat} (he : x + a ≤ 12) (hf : y + c ≤ 12) :
    ∀ (d j : Nat) (b : Nat → Int32), j + d = y + c → cl_ok b → ∃ b', cl_ok b' ∧
      (∀ (post : Int32 → SX → Prop), (∀ (cc rn : Int32) (cs rs pn da on q : Nat → Int32), cl_X b' cc rn cs rs pn da on → post 1 (w, h, cc, rn, b', cs, rs, pn, da, on, q, al, re)) → wX_invert_48 post (nI x) (nI y) (nI a) (nI c) w h cc rn (d + 1) (nI j) b cs rs pn da on q al re) ∧
      (∀ (post : Int32 → SY → Prop), post 1 (w, h, b', rt, ch, re2) → wY_invert_46 post (nI x) (nI y) (nI a) (nI c) w h (d + 1) (nI j) b rt ch re2) := by
  intro d
  induction d with
  | zero =>
    intro j b hj ok
    have le : nI y + nI c ≤ nI j := by rw [nI_add]; exact nI_le (by omega) (by omega)
    exact ⟨b, ok, fun post hJ => br_t le (xs_survey ok hJ), fun post hJ => br_t le hJ⟩
  | succ d ih =>
    intro j b hj ok
    have le : ¬ nI y + nI c ≤ nI j := by rw [nI_add]; exact nI_ge (by omega) (by omega)
    obtain ⟨b1, ok1, RX, RY⟩ := xv_row (w := w) (h := h) (cc := cc) (rn := rn) (cs := cs) (rs := rs) (pn := pn) (da := da) (on := on) (q := q) (al := al) (re := re) (rt := rt) (ch := ch) (re2 := re2) (x2 := nI y) (x4 := nI c) (j := j) (by omega) he a x b rfl ok
    obtain ⟨b', ok', HX, HY⟩ := ih (j + 1) b1 (by omega) ok1
    exact ⟨b', ok', fun post hJ => br_f le ⟨a + 1, RX post _ (HX post hJ)⟩, fun post hJ => br_f le ⟨a + 1, RY post _ (HY post hJ)⟩⟩
theorem i_vc_invert {k : Nat} {u : SX} {v : SY} (I : i_Rel k u v) (hk : k + 5 ≤ 2562) (v1 : Int32) (v2 : Int32) (v3 : Int32) (v4 : Int32) : wpX_invert (fun r u' => wpY_invert (fun r' v' => r' = r ∧ i_Rel (k + 5) u' v') v v1 v2 v3 v4) u v1 v2 v3 v4 := by
  obtain ⟨w, h, cc, rn, b, cs, rs, pn, da, on, q, al, re, rt, ch, re2, W, H, hW, hH, ew, eh, ok, hX, rfl, rfl⟩ := I
  have R : i_Rel (k + 5) (w, h, cc, rn, b, cs, rs, pn, da, on, q, al, re) (w, h, b, rt, ch, re2) := ⟨_, _, _, _, _, _, _, _, _, _, _, _, _, _, _, _, W, H, hW, hH, ew, eh, ok, hX, rfl, rfl⟩
  unfold wpX_invert
  rcases xp_in hW hH ew eh cc rn b cs rs pn da on q al re rt ch re2 v1 v2 with ⟨x, y, hx, hy, rfl, rfl, PX, PY⟩ | ⟨PX, PY⟩
  · refine PX _ (br_f cl_10 ?_)
    have sw : w - nI x = nI (W - x) := by rw [ew]; exact pk_sub (by omega)
    have sh : h - nI y = nI (H - y) := by rw [eh]; exact pk_sub (by omega)
    by_cases a1 : v3 < 1
    · refine br_t a1 ?_
      unfold wpY_invert
      exact PY _ (br_f cl_10 (br_t a1 ⟨rfl, R⟩))
    · refine br_f a1 ?_
      by_cases a2 : w - nI x < v3
      · refine br_t a2 ?_
        unfold wpY_invert
        exact PY _ (br_f cl_10 (br_f a1 (br_t a2 ⟨rfl, R⟩)))
      · refine br_f a2 ?_
        by_cases a3 : v4 < 1
        · refine br_t a3 ?_
          unfold wpY_invert
          exact PY _ (br_f cl_10 (br_f a1 (br_f a2 (br_t a3 ⟨rfl, R⟩))))
        · refine br_f a3 ?_
          by_cases a4 : v4 ≤ h - nI y
          · refine br_t a4 ?_
            obtain ⟨a, ha, rfl⟩ := nI_of (x := v3) (fun z => a1 (Int32.lt_trans z (by decide)))
            obtain ⟨c, hc, rfl⟩ := nI_of (x := v4) (fun z => a3 (Int32.lt_trans z (by decide)))
            have a2' := a2
            have a4' := a4
            rw [sw, nI_ltI (by omega) ha] at a2'
            rw [sh, nI_leI hc (by omega)] at a4'
            obtain ⟨b', ok', HX, HY⟩ := xv_all (w := w) (h := h) (cc := cc) (rn := rn) (cs := cs) (rs := rs) (pn := pn) (da := da) (on := on) (q := q) (al := al) (re := re) (rt := rt) (ch := ch) (re2 := re2) (x := x) (a := a) (y := y) (c := c) (by omega) (by omega) c y b rfl ok
            refine ⟨c + 1, HX _ (fun cc rn cs rs pn da on q hX' => ?_)⟩
            unfold wpY_invert
            exact PY _ (br_f cl_10 (br_f a1 (br_f a2 (br_f a3 (br_t a4 ⟨c + 1, HY _ ⟨rfl, _, _, _, _, _, _, _, _, _, _, _, _, _, _, _, _, W, H, hW, hH, ew, eh, ok', hX', rfl, rfl⟩⟩)))))
          · refine br_f a4 ?_
            unfold wpY_invert
            exact PY _ (br_f cl_10 (br_f a1 (br_f a2 (br_f a3 (br_f a4 ⟨rfl, R⟩)))))
  · refine PX _ (br_t rfl ?_)
    unfold wpY_invert
    exact PY _ (br_t rfl ⟨rfl, R⟩)
theorem i_vc_isBlack {k : Nat} {u : SX} {v : SY} (I : i_Rel k u v) (hk : k + 5 ≤ 2562) (v1 : Int32) (v2 : Int32) : wpX_isBlack (fun r => wpY_isBlack (fun r' => r' = r ∧ i_Rel (k + 5) u v) v v1 v2) u v1 v2 := by
  have R : i_Rel (k + 5) u v := I
  obtain ⟨w, h, cc, rn, b, cs, rs, pn, da, on, q, al, re, rt, ch, re2, W, H, hW, hH, ew, eh, ok, hX, rfl, rfl⟩ := I
  unfold wpX_isBlack
  rcases xp_in hW hH ew eh cc rn b cs rs pn da on q al re rt ch re2 v1 v2 with ⟨x, y, hx, hy, rfl, rfl, PX, PY⟩ | ⟨PX, PY⟩
  · have hp : (y + 1) * 14 + x + 1 < 196 := by omega
    have ip : vp_in (nI ((y + 1) * 14 + x + 1)) 196 := vp_in_nI hp (by decide)
    have cp : (nI ((y + 1) * 14 + x + 1)).toNatClampNeg = (y + 1) * 14 + x + 1 := nI_clamp (Nat.lt_trans hp (by decide))
    refine PX _ (br_f cl_10 ?_)
    unfold wpX_placeOf
    rw [xp_pl]
    refine ⟨ip, ?_⟩
    rw [cp]
    by_cases z : b ((y + 1) * 14 + x + 1) = 0
    · refine br_t z ?_
      unfold wpY_isBlack
      refine PY _ (br_f cl_10 ?_)
      unfold wpY_place
      rw [yp_pl]
      refine ⟨ip, ?_⟩
      rw [cp]
      exact br_t z ⟨rfl, R⟩
    · refine br_f z ?_
      unfold wpY_isBlack
      refine PY _ (br_f cl_10 ?_)
      unfold wpY_place
      rw [yp_pl]
      refine ⟨ip, ?_⟩
      rw [cp]
      exact br_f z ⟨rfl, R⟩
  · refine PX _ (br_t rfl ?_)
    unfold wpY_isBlack
    exact PY _ (br_t rfl ⟨rfl, R⟩)
theorem i_vc_components {k : Nat} {u : SX} {v : SY} (I : i_Rel k u v) (hk : k + 5 ≤ 2562) : wpX_components (fun r => wpY_components (fun r' v' => r' = r ∧ i_Rel (k + 5) u v') v) u := by
  obtain ⟨w, h, cc, rn, b, cs, rs, pn, da, on, q, al, re, rt, ch, re2, W, H, hW, hH, ew, eh, ok, hX, rfl, rfl⟩ := I
  unfold wpX_components wpY_components
  refine yr_find (fun rt hrt => yf_count (N := 196) (by decide) hrt ⟨hX.1.1.symm, _, _, _, _, _, _, _, _, _, _, _, _, _, _, _, _, W, H, hW, hH, ew, eh, ok, hX, rfl, rfl⟩)
theorem i_vc_euler {k : Nat} {u : SX} {v : SY} (I : i_Rel k u v) (hk : k + 5 ≤ 2562) : wpX_euler (fun r => wpY_euler (fun r' v' => r' = r ∧ i_Rel (k + 5) u v') v) u := by
  obtain ⟨w, h, cc, rn, b, cs, rs, pn, da, on, q, al, re, rt, ch, re2, W, H, hW, hH, ew, eh, ok, hX, rfl, rfl⟩ := I
  unfold wpX_euler wpY_euler
  refine nm_e (yr_find (fun rt hrt => yf_count (N := 196) (by decide) hrt (yf_count (N := 196) (by decide) hrt ⟨?_, _, _, _, _, _, _, _, _, _, _, _, _, _, _, _, _, W, H, hW, hH, ew, eh, ok, hX, rfl, rfl⟩)))
  rw [hX.1.1, hX.1.2.1]
theorem i_vc_label {k : Nat} {u : SX} {v : SY} (I : i_Rel k u v) (hk : k + 5 ≤ 2562) (v1 : Int32) (v2 : Int32) : wpX_label (fun r => wpY_label (fun r' v' => r' = r ∧ i_Rel (k + 5) u v') v v1 v2) u v1 v2 := by
  obtain ⟨w, h, cc, rn, b, cs, rs, pn, da, on, q, al, re, rt, ch, re2, W, H, hW, hH, ew, eh, ok, hX, rfl, rfl⟩ := I
  have R : ∀ rt ch re2, i_Rel (k + 5) (w, h, cc, rn, b, cs, rs, pn, da, on, q, al, re) (w, h, b, rt, ch, re2) := fun rt ch re2 => ⟨_, _, _, _, _, _, _, _, _, _, _, _, _, _, _, _, W, H, hW, hH, ew, eh, ok, hX, rfl, rfl⟩
  unfold wpX_label
  rcases xp_in hW hH ew eh cc rn b cs rs pn da on q al re rt ch re2 v1 v2 with ⟨x, y, hx, hy, rfl, rfl, PX, PY⟩ | ⟨PX, PY⟩
  · have hp : (y + 1) * 14 + x + 1 < 196 := by omega
    have ip : vp_in (nI ((y + 1) * 14 + x + 1)) 196 := vp_in_nI hp (by decide)
    have cp : (nI ((y + 1) * 14 + x + 1)).toNatClampNeg = (y + 1) * 14 + x + 1 := nI_clamp (Nat.lt_trans hp (by decide))
    refine PX _ (br_f cl_10 ?_)
    unfold wpX_placeOf
    rw [xp_pl]
    refine ⟨ip, ?_⟩
    rw [cp]
    by_cases z : b ((y + 1) * 14 + x + 1) = 0
    · refine br_t z ?_
      unfold wpY_label
      refine PY _ (br_f cl_10 ?_)
      unfold wpY_place
      rw [yp_pl]
      refine ⟨ip, ?_⟩
      rw [cp]
      exact br_t z ⟨rfl, R _ _ _⟩
    · refine br_f z ⟨ip, ?_⟩
      unfold wpY_label
      refine PY _ (br_f cl_10 ?_)
      unfold wpY_place
      rw [yp_pl]
      refine ⟨ip, ?_⟩
      rw [cp]
      refine br_f z (yr_find (fun rt hrt => ⟨ip, ?_⟩))
      rw [hrt _ hp]
      refine yf_count (Nat.le_of_lt (cl_root_lt hp)) hrt ⟨?_, R _ _ _⟩
      rw [hX.1.2.2.2.2.1 _ hp (cl_root_lt hp), (ok.1 _).resolve_left z]
  · refine PX _ (br_t rfl ?_)
    unfold wpY_label
    exact PY _ (br_t rfl ⟨rfl, R _ _ _⟩)
theorem i_vc_depth {k : Nat} {u : SX} {v : SY} (I : i_Rel k u v) (hk : k + 5 ≤ 2562) (v1 : Int32) (v2 : Int32) : wpX_depth (fun r => wpY_depth (fun r' v' => r' = r ∧ i_Rel (k + 5) u v') v v1 v2) u v1 v2 := by
  obtain ⟨w, h, cc, rn, b, cs, rs, pn, da, on, q, al, re, rt, ch, re2, W, H, hW, hH, ew, eh, ok, hX, rfl, rfl⟩ := I
  have R : ∀ rt ch re2, i_Rel (k + 5) (w, h, cc, rn, b, cs, rs, pn, da, on, q, al, re) (w, h, b, rt, ch, re2) := fun rt ch re2 => ⟨_, _, _, _, _, _, _, _, _, _, _, _, _, _, _, _, W, H, hW, hH, ew, eh, ok, hX, rfl, rfl⟩
  unfold wpX_depth
  rcases xp_in hW hH ew eh cc rn b cs rs pn da on q al re rt ch re2 v1 v2 with ⟨x, y, hx, hy, rfl, rfl, PX, PY⟩ | ⟨PX, PY⟩
  · have hp : (y + 1) * 14 + x + 1 < 196 := by omega
    have ip : vp_in (nI ((y + 1) * 14 + x + 1)) 196 := vp_in_nI hp (by decide)
    have cp : (nI ((y + 1) * 14 + x + 1)).toNatClampNeg = (y + 1) * 14 + x + 1 := nI_clamp (Nat.lt_trans hp (by decide))
    refine PX _ (br_f cl_10 ?_)
    unfold wpX_placeOf
    rw [xp_pl]
    refine ⟨ip, ?_⟩
    rw [cp]
    unfold wpY_depth
    refine PY _ (br_f cl_10 (yc_find ok (fun ch hch => ?_)))
    show wpY_place _ _ _ _
    unfold wpY_place
    rw [yp_pl]
    refine ⟨ip, ?_⟩
    rw [cp]
    exact ⟨by rw [hch _ hp, hX.2.1 _ hp], R _ _ _⟩
  · refine PX _ (br_t rfl ?_)
    unfold wpY_depth
    exact PY _ (br_t rfl ⟨rfl, R _ _ _⟩)
/-- component k: both find it, or neither -/
theorem xk_comp {w h cc rn : Int32} {b cs rs pn da on q al re : Nat → Int32} (hX : cl_X b cc rn cs rs pn da on) (kk : Int32) :
    (∃ C, C < 196 ∧ cl_fs b 1 C ∧ kk = nI (cl_cnt (cl_fs b 1) C) ∧ (∀ post : Int32 → Prop, post 1 → wpX_isComponent post (w, h, cc, rn, b, cs, rs, pn, da, on, q, al, re) kk) ∧
      (∀ (rt0 ch re2 : Nat → Int32) (post : Int32 → SY → Prop), (∀ rt, (∀ p, p < 196 → rt p = nI (cl_root b p)) → post (nI C) (w, h, b, rt, ch, re2)) → wpY_firstOf post (w, h, b, rt0, ch, re2) kk)) ∨
    ((∀ post : Int32 → Prop, post 0 → wpX_isComponent post (w, h, cc, rn, b, cs, rs, pn, da, on, q, al, re) kk) ∧
      (∀ (rt0 ch re2 : Nat → Int32) (post : Int32 → SY → Prop), (∀ rt, post (-1) (w, h, b, rt, ch, re2)) → wpY_firstOf post (w, h, b, rt0, ch, re2) kk)) := by
  have ec := hX.1.1
  have lc := cl_cnt_le (cl_fs b 1) 196
  have lr : ∀ r, r < 196 → cl_fs b 1 r → cl_cnt (cl_fs b 1) r < cl_cnt (cl_fs b 1) 196 := fun r hr fr => cl_cnt_lt hr fr
  rcases pk_ix kk (n := cl_cnt (cl_fs b 1) 196) (by omega) with h0 | h0 | ⟨j, hj, rfl⟩
  · refine Or.inr ⟨fun _ p => br_t h0 p, fun rt0 ch re2 post p => yo_first (fun rt hrt r hr fr e => ?_) (fun rt hrt _ => p rt)⟩
    have := lr r hr fr
    rw [e] at h0
    exact absurd h0 (nI_pos (by omega))
  · have n0 : ¬ kk < 0 := Int32.not_lt.mpr (Int32.le_trans (nI_pos' (by omega)) h0)
    refine Or.inr ⟨fun _ p => br_f n0 (br_t (by rw [ec]; exact h0) p), fun rt0 ch re2 post p => yo_first (fun rt hrt r hr fr e => ?_) (fun rt hrt _ => p rt)⟩
    have := lr r hr fr
    rw [e] at h0
    exact absurd h0 (nI_ge (by omega) (by omega))
  · obtain ⟨C, hC, fC, eC⟩ := cl_cnt_ex hj
    refine Or.inl ⟨C, hC, fC, by rw [eC], fun _ p => br_f (nI_pos (by omega)) (br_f (by rw [ec]; exact nI_ge hj (by omega)) p), fun rt0 ch re2 post p => yo_first (fun rt hrt r hr fr e => ?_) (fun rt hrt no => ?_)⟩
    · have := lr r hr fr
      have e2 := (nI_eq (by omega) (by omega)).mp e
      rw [cl_cnt_inj fr fC (e2.symm.trans eC.symm)]
      exact p rt hrt
    · exact absurd (by rw [eC]) (no C hC fC)
theorem i_vc_area {k : Nat} {u : SX} {v : SY} (I : i_Rel k u v) (hk : k + 5 ≤ 2562) (v1 : Int32) : wpX_area (fun r => wpY_area (fun r' v' => r' = r ∧ i_Rel (k + 5) u v') v v1) u v1 := by
  obtain ⟨w, h, cc, rn, b, cs, rs, pn, da, on, q, al, re, rt, ch, re2, W, H, hW, hH, ew, eh, ok, hX, rfl, rfl⟩ := I
  have R : ∀ rt ch re2, i_Rel (k + 5) (w, h, cc, rn, b, cs, rs, pn, da, on, q, al, re) (w, h, b, rt, ch, re2) := fun rt ch re2 => ⟨_, _, _, _, _, _, _, _, _, _, _, _, _, _, _, _, W, H, hW, hH, ew, eh, ok, hX, rfl, rfl⟩
  unfold wpX_area wpY_area
  rcases xk_comp (w := w) (h := h) (q := q) (al := al) (re := re) hX v1 with ⟨C, hC, fC, rfl, PX, PY⟩ | ⟨PX, PY⟩
  · refine PX _ (br_f cl_10 ⟨197, xq_area ok hX.1 hC fC ?_ 197 0 (by decide) (by decide)⟩)
    refine PY rt ch re2 _ (fun rt hrt => br_t (nI_pos' (by omega)) ⟨197, yv_area hC hrt ⟨rfl, R _ _ _⟩ 197 0 (by decide) (by decide)⟩)
  · exact PX _ (br_t rfl (PY rt ch re2 _ (fun rt => br_f cl_nm1ge ⟨rfl, R _ _ _⟩)))
theorem xq_holes1 {post : Int32 → Prop} {C : Nat} {f_width f_height cc rn : Int32} {b cs rs pn da on q al re : Nat → Int32} (ok : cl_ok b) (hN : cl_N b 196 cc rn cs rs pn) (hO : ∀ p, p < 196 → cl_o b on p) (hC : C < 196) (fC : cl_fs b 1 C) (H : post (nI (cl_cnt (fun p => cl_fs b 0 p ∧ 1 ≤ p ∧ cl_hole b p C) 196))) :
    ∃ n, wX_holes_14 post (nI (cl_cnt (cl_fs b 1) C)) f_width f_height cc rn b cs rs pn da on q al re n 0 1 := by
  have f0 := cl_f00 ok
  have c1 : 1 ≤ cl_cnt (cl_fs b 0) 196 := cl_cnt_lt (m := 0) (n := 196) (by decide) f0
  have z1 : cl_cnt (fun j => ∃ r, r < 196 ∧ cl_fs b 0 r ∧ cl_cnt (cl_fs b 0) r = j ∧ 1 ≤ r ∧ cl_hole b r C) 1 = 0 := cl_cnt_z (fun j hj ⟨r, hr, fr, er, r1, _⟩ => by
    have := cl_cnt_lt (m := 0) (n := r) (by omega) f0
    rw [cl_cnt_0] at this
    omega)
  have hx := xq_holes (f_width := f_width) (f_height := f_height) (da := da) (q := q) (al := al) (re := re) ok hN hO hC fC H 197 1 (by decide) c1 (by have := cl_cnt_le (cl_fs b 0) 196; omega)
  rw [z1] at hx
  exact ⟨197, hx⟩
theorem yv_holes1 {post : Int32 → SY → Prop} {C : Nat} {w h : Int32} {b rt ch re : Nat → Int32} (ok : cl_ok b) (hC : C < 196) (hrt : ∀ p, p < 196 → rt p = nI (cl_root b p)) (hch : ∀ p, p < 196 → ch p = nI (cl_dep b p)) (H : post (nI (cl_cnt (fun p => cl_fs b 0 p ∧ 1 ≤ p ∧ cl_hole b p C) 196)) (w, h, b, rt, ch, re)) :
    ∃ n, wY_holes_21 post (nI C) w h b rt ch re n 0 1 := by
  have z2 : cl_cnt (fun p => cl_fs b 0 p ∧ 1 ≤ p ∧ cl_hole b p C) 1 = 0 := cl_cnt_z (fun j hj z => by
    have := z.2.1
    omega)
  have hy := yv_holes ok hC hrt hch H 196 1 (by decide) (by decide) (by decide)
  rw [z2] at hy
  exact ⟨196, hy⟩
theorem i_vc_holes {k : Nat} {u : SX} {v : SY} (I : i_Rel k u v) (hk : k + 5 ≤ 2562) (v1 : Int32) : wpX_holes (fun r => wpY_holes (fun r' v' => r' = r ∧ i_Rel (k + 5) u v') v v1) u v1 := by
  obtain ⟨w, h, cc, rn, b, cs, rs, pn, da, on, q, al, re, rt, ch, re2, W, H, hW, hH, ew, eh, ok, hX, rfl, rfl⟩ := I
  have R : ∀ rt ch re2, i_Rel (k + 5) (w, h, cc, rn, b, cs, rs, pn, da, on, q, al, re) (w, h, b, rt, ch, re2) := fun rt ch re2 => ⟨_, _, _, _, _, _, _, _, _, _, _, _, _, _, _, _, W, H, hW, hH, ew, eh, ok, hX, rfl, rfl⟩
  unfold wpX_holes wpY_holes
  rcases xk_comp (w := w) (h := h) (q := q) (al := al) (re := re) hX v1 with ⟨C, hC, fC, rfl, PX, PY⟩ | ⟨PX, PY⟩
  · refine PX _ (br_f cl_10 (xq_holes1 ok hX.1 hX.2.2 hC fC ?_))
    exact PY rt ch re2 _ (fun rt hrt => br_t (nI_pos' (by omega)) (yc_find ok (fun ch hch => yv_holes1 ok hC hrt hch ⟨rfl, R _ _ _⟩)))
  · exact PX _ (br_t rfl (PY rt ch re2 _ (fun rt => br_f cl_nm1ge ⟨rfl, R _ _ _⟩)))
theorem i_vc_around {k : Nat} {u : SX} {v : SY} (I : i_Rel k u v) (hk : k + 5 ≤ 2562) (v1 : Int32) : wpX_around (fun r => wpY_around (fun r' v' => r' = r ∧ i_Rel (k + 5) u v') v v1) u v1 := by
  obtain ⟨w, h, cc, rn, b, cs, rs, pn, da, on, q, al, re, rt, ch, re2, W, H, hW, hH, ew, eh, ok, hX, rfl, rfl⟩ := I
  have R : ∀ rt ch re2, i_Rel (k + 5) (w, h, cc, rn, b, cs, rs, pn, da, on, q, al, re) (w, h, b, rt, ch, re2) := fun rt ch re2 => ⟨_, _, _, _, _, _, _, _, _, _, _, _, _, _, _, _, W, H, hW, hH, ew, eh, ok, hX, rfl, rfl⟩
  unfold wpX_around wpY_around
  rcases xk_comp (w := w) (h := h) (q := q) (al := al) (re := re) hX v1 with ⟨C, hC, fC, rfl, PX, PY⟩ | ⟨PX, PY⟩
  · have lC : cl_cnt (cl_fs b 1) C < 196 := Nat.lt_of_le_of_lt (cl_cnt_le _ C) hC
    refine PX _ (br_f cl_10 ⟨vp_in_nI lC (by decide), ?_⟩)
    rw [nI_clamp (Nat.lt_trans lC (by decide))]
    refine nm_r (hX.1.2.2.1 C hC fC) ⟨vp_in_nI hC (by decide), ?_⟩
    rw [nI_clamp (Nat.lt_trans hC (by decide)), hX.2.1 C hC]
    have dC := cl_dep_13 ok hC
    refine pk_eq (cl_dep b C) 1 (fun e => ?_) (fun e => ⟨vp_in_nI hC (by decide), ?_⟩)
    · exact PY rt ch re2 _ (fun rt hrt => br_t (nI_pos' (by omega)) (yc_find ok (fun ch hch => ⟨197, yv_none ok hC hrt hch e ⟨rfl, R _ _ _⟩ 197 0 (by decide) (by decide)⟩)))
    · have par := cl_dep_par ok hC
      rw [fC.1] at par
      have odd : ¬ cl_dep b C % 2 = 0 := fun z => cl_10 (par.mpr z)
      obtain ⟨o1, ho1, eo1, hd1⟩ := hX.2.2 C hC
      obtain ⟨d1, c, hc, rc, bc⟩ := hd1 (by omega)
      obtain ⟨o2, ho2, eo2, hd2⟩ := hX.2.2 o1 ho1
      obtain ⟨d2, r', hr', rr, ba⟩ := hd2 (by omega)
      have dc := cl_dep_rt ok rc
      refine nm_r eo1 ⟨vp_in_nI ho1 (by decide), ?_⟩
      rw [nI_clamp (Nat.lt_trans ho1 (by decide))]
      refine nm_r eo2 ⟨vp_in_nI ho2 (by decide), ?_⟩
      rw [nI_clamp (Nat.lt_trans ho2 (by decide))]
      have b2 : b o2 ≠ 0 := fun z => by
        have := (cl_dep_par ok ho2).mp z
        omega
      have b21 : b o2 = 1 := (ok.1 o2).resolve_left b2
      have fA : cl_fs b 1 (cl_root b o2) := ⟨(cl_root_c b o2).trans b21, cl_root_i b o2⟩
      have dA : cl_dep b (cl_root b o2) = cl_dep b o2 := cl_dep_rt ok (cl_root_i b o2)
      rw [hX.1.2.2.2.2.1 o2 ho2 (cl_root_lt ho2), b21]
      refine PY rt ch re2 _ (fun rt hrt => br_t (nI_pos' (by omega)) (yc_find ok (fun ch hch => ⟨197, ?_⟩)))
      refine yv_around (A := cl_root b o2) ok hC (cl_root_lt ho2) hrt hch fA (by omega) (cl_cut ok hc ho1 hr' ho2 rc bc (by omega) rr ba d2 b2) (fun z hz fz dz nz => ?_) (fun re => ⟨rfl, R _ _ _⟩) 197 0 re2 (Nat.zero_le _) (by have := cl_root_lt (b := b) ho2; omega)
      have nz' : cl_root b z ≠ cl_root b o2 := fun y => nz (fz.2.symm.trans y)
      have := cl_free ok hc ho1 hr' ho2 rc bc (by omega) rr ba d2 (z := z) (by rw [fz.1]; exact cl_10) (by omega) nz'
      rw [fz.2] at this
      exact this
  · exact PX _ (br_t rfl (PY rt ch re2 _ (fun rt => br_f cl_nm1ge ⟨rfl, R _ _ _⟩)))
theorem i_vc_enclosed {k : Nat} {u : SX} {v : SY} (I : i_Rel k u v) (hk : k + 5 ≤ 2562) (v1 : Int32) : wpX_enclosed (fun r u' => wpY_enclosed (fun r' v' => r' = r ∧ i_Rel (k + 5) u' v') v v1) u v1 := by
  obtain ⟨w, h, cc, rn, b, cs, rs, pn, da, on, q, al, re, rt, ch, re2, W, H, hW, hH, ew, eh, ok, hX, rfl, rfl⟩ := I
  have R : ∀ q al re rt ch re2, i_Rel (k + 5) (w, h, cc, rn, b, cs, rs, pn, da, on, q, al, re) (w, h, b, rt, ch, re2) := fun q al re rt ch re2 => ⟨_, _, _, _, _, _, _, _, _, _, _, _, _, _, _, _, W, H, hW, hH, ew, eh, ok, hX, rfl, rfl⟩
  unfold wpX_enclosed
  rcases xk_comp (w := w) (h := h) (q := q) (al := al) (re := re) hX v1 with ⟨C, hC, fC, rfl, PX, PY⟩ | ⟨PX, PY⟩
  · refine PX _ (br_f cl_10 ⟨197, xe_loop ok hX.1 hC fC (fun q al re => ?_) 197 0 al (by decide) (by decide) (fun p hp => absurd hp (Nat.not_lt_zero p))⟩)
    unfold wpY_enclosed
    refine PY rt ch re2 _ (fun rt hrt => br_t (nI_pos' (by omega)) (ye_find hC hrt (fun re' hre => ?_)))
    refine ⟨197, yv_encl (P := fun p => ¬ cl_rc (cl_av b C) 0 p ∧ cl_root b p ≠ C) hC hrt (fun p hp => ?_) ⟨rfl, R _ _ _ _ _ _⟩ 197 0 (by decide) (by decide)⟩
    rw [← hre p hp]
    exact ⟨fun z => ⟨Classical.byContradiction z.1, z.2⟩, fun z => ⟨fun y => y z.1, z.2⟩⟩
  · refine PX _ (br_t rfl ?_)
    unfold wpY_enclosed
    exact PY rt ch re2 _ (fun rt => br_f cl_nm1ge ⟨rfl, R _ _ _ _ _ _⟩)
