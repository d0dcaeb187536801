/-! nesting by a potential -/
theorem gp_sq_rt {b : Nat → Int32} (ok : cl_ok b) : gp_Sq (cl_root b) := by
  intro u h13 hu
  have b1 : gp_bs u (u + 1) := by unfold gp_bs; omega
  have b2 : gp_bs u (u + 14) := by unfold gp_bs; omega
  have b3 : gp_bs (u + 1) (u + 15) := by unfold gp_bs; omega
  have b4 : gp_bs (u + 14) (u + 15) := by unfold gp_bs; omega
  have d1 : gp_dg u (u + 15) := by unfold gp_dg; omega
  have d2 : gp_dg (u + 1) (u + 14) := by unfold gp_dg; omega
  have h01 : (1 : Int32) ≠ 0 := by decide
  have r1 : b u = b (u + 1) → cl_root b u = cl_root b (u + 1) := fun e => cl_bs_rt (by omega) (by omega) b1 e
  have r2 : b u = b (u + 14) → cl_root b u = cl_root b (u + 14) := fun e => cl_bs_rt (by omega) (by omega) b2 e
  have r3 : b (u + 1) = b (u + 15) → cl_root b (u + 1) = cl_root b (u + 15) := fun e => cl_bs_rt (by omega) (by omega) b3 e
  have r4 : b (u + 14) = b (u + 15) → cl_root b (u + 14) = cl_root b (u + 15) := fun e => cl_bs_rt (by omega) (by omega) b4 e
  have s1 : b u = 1 → b (u + 15) = 1 → cl_root b u = cl_root b (u + 15) := fun e e' => cl_root_s ⟨by omega, by omega, e.trans e'.symm, Or.inr ⟨e ▸ h01, Or.inr (Or.inr d1)⟩⟩
  have s2 : b (u + 1) = 1 → b (u + 14) = 1 → cl_root b (u + 1) = cl_root b (u + 14) := fun e e' => cl_root_s ⟨by omega, by omega, e.trans e'.symm, Or.inr ⟨e ▸ h01, Or.inr (Or.inr d2)⟩⟩
  rcases ok.1 u with e0 | e0 <;> rcases ok.1 (u + 1) with e1 | e1 <;> rcases ok.1 (u + 14) with e2 | e2 <;> rcases ok.1 (u + 15) with e3 | e3 <;> rw [e0, e1] at r1 <;> rw [e0, e2] at r2 <;> rw [e1, e3] at r3 <;> rw [e2, e3] at r4
  · exact Or.inl ((r1 rfl).trans (r3 rfl))
  · exact Or.inr (Or.inl ((r1 rfl).symm.trans (r2 rfl)))
  · exact Or.inl ((r1 rfl).trans (r3 rfl))
  · exact Or.inr (Or.inr (Or.inl ⟨r1 rfl, r4 rfl⟩))
  · exact Or.inl ((r2 rfl).trans (r4 rfl))
  · exact Or.inr (Or.inr (Or.inr ⟨r2 rfl, r3 rfl⟩))
  · exact Or.inr (Or.inl (s2 e1 e2))
  · exact Or.inr (Or.inl (s2 e1 e2))
  · exact Or.inr (Or.inl ((r3 rfl).trans (r4 rfl).symm))
  · exact Or.inl (s1 e0 e3)
  · exact Or.inr (Or.inr (Or.inr ⟨r2 rfl, r3 rfl⟩))
  · exact Or.inl (s1 e0 e3)
  · exact Or.inr (Or.inr (Or.inl ⟨r1 rfl, r4 rfl⟩))
  · exact Or.inl (s1 e0 e3)
  · exact Or.inr (Or.inl (s2 e1 e2))
  · exact Or.inl (s1 e0 e3)
theorem gp_Fz {P Q p q : Nat} (h : (p ≠ P ∧ q ≠ P) ∨ (p ≠ Q ∧ q ≠ Q)) : gp_F P Q p q = 0 := by
  unfold gp_F
  rw [if_neg (fun z => h.elim (fun k => k.1 z.1) (fun k => k.2 z.2)), if_neg (fun z => h.elim (fun k => k.2 z.2) (fun k => k.1 z.1))]
theorem gp_F1 {P Q : Nat} : gp_F P Q P Q = 1 := if_pos ⟨rfl, rfl⟩
theorem gp_dg_w {u v : Nat} (hu : u < 196) (hv : v < 196) (h : gp_dg u v) : ∃ w, w < 196 ∧ gp_bs u w ∧ gp_bs w v := by
  unfold gp_dg at h
  unfold gp_bs
  rcases h with h | h | h | h
  · exact ⟨u + 1, by omega, by omega, by omega⟩
  · exact ⟨v + 1, by omega, by omega, by omega⟩
  · exact ⟨u + 14, by omega, by omega, by omega⟩
  · exact ⟨v + 14, by omega, by omega, by omega⟩
theorem cl_phi {b : Nat → Int32} (ok : cl_ok b) {P Q : Nat} (h : P ≠ Q) : ∃ φ : Nat → Int, (∀ u v, u < 196 → v < 196 → gp_bs u v → φ v = φ u + gp_F P Q (cl_root b u) (cl_root b v)) ∧ (∀ u v, cl_root b u = cl_root b v → φ v = φ u) := by
  obtain ⟨φ, hφ⟩ := gp_pot (gp_sq_rt ok) (gp_F0 h) (gp_Fa h)
  have hs : ∀ u v, cl_st b u v → φ v = φ u := by
    intro u v e
    have r := cl_root_s e
    have hb : gp_bs u v → φ v = φ u := fun k => by
      have := hφ u v e.1 e.2.1 k
      rw [r, gp_F0 h] at this
      omega
    rcases e.2.2.2 with k | ⟨_, k⟩
    · exact hb k
    · rcases k with rfl | k | k
      · rfl
      · exact hb k
      · obtain ⟨w, hw, b1, b2⟩ := gp_dg_w e.1 e.2.1 k
        have a1 := hφ u w e.1 hw b1
        have a2 := hφ w v hw e.2.1 b2
        rw [← r, gp_Fa h (cl_root b u) (cl_root b w)] at a2
        omega
  refine ⟨φ, hφ, fun u v r => ?_⟩
  exact cl_root_pt r (fun x => φ x = φ u) rfl (fun x y a e => (hs x y e).trans a)
def cl_mv (b : Nat → Int32) (Z u v : Nat) : Prop := cl_st b u v ∨ (u < 196 ∧ v < 196 ∧ gp_bs u v ∧ cl_root b u ≠ Z ∧ cl_root b v ≠ Z)
def cl_av (b : Nat → Int32) (Z u v : Nat) : Prop := u < 196 ∧ v < 196 ∧ gp_bs u v ∧ cl_root b v ≠ Z
theorem cl_way {b : Nat → Int32} (ok : cl_ok b) {p : Nat} (hp : p < 196) {z : Nat} (hz : cl_root b z ≠ cl_root b p) (hd : cl_dep b p ≤ cl_dep b z) : cl_rc (cl_mv b (cl_root b z)) 0 p := by
  have k := cl_dep_W ok hp (fun p n => cl_W b p n ∧ (n = cl_dep b p → cl_root b z ≠ cl_root b p → cl_dep b p ≤ cl_dep b z → cl_rc (cl_mv b (cl_root b z)) 0 p))
    ⟨cl_W_0 b, fun _ _ _ => cl_rc_r _ 0⟩
    (fun u v n i e => ⟨cl_W_s i.1 e, fun y r d => by
      have dd := cl_dep_s ok e
      have rr := cl_root_s e
      rw [← dd] at y d
      rw [← rr] at r
      exact cl_rc_s (i.2 y r d) (Or.inl e)⟩)
    (fun u v n i hu hv e c => ⟨cl_W_b i.1 hu hv e c, fun y r d => by
      have d1 := cl_dep_le i.1
      have d2 := cl_dep_b ok hu hv e
      have ru : cl_root b z ≠ cl_root b u := fun q => by
        have := cl_dep_rt ok q
        omega
      exact cl_rc_s (i.2 (by omega) ru (by omega)) (Or.inr ⟨hu, hv, e, fun q => ru q.symm, fun q => r q.symm⟩)⟩)
  exact k.2 rfl hz hd
theorem cl_mv_phi {b : Nat → Int32} {P Q Z : Nat} {φ : Nat → Int} (h1 : ∀ u v, u < 196 → v < 196 → gp_bs u v → φ v = φ u + gp_F P Q (cl_root b u) (cl_root b v)) (h2 : ∀ u v, cl_root b u = cl_root b v → φ v = φ u) (hZ : Z = P ∨ Z = Q) {x y : Nat} (h : cl_rc (cl_mv b Z) x y) : φ y = φ x := by
  refine h (fun y => φ y = φ x) rfl (fun u v a e => ?_)
  rcases e with e | ⟨hu, hv, e, n1, n2⟩
  · exact (h2 u v (cl_root_s e)).trans a
  · have := h1 u v hu hv e
    rw [gp_Fz (hZ.elim (fun z => Or.inl (z ▸ ⟨n1, n2⟩)) (fun z => Or.inr (z ▸ ⟨n1, n2⟩)))] at this
    omega
/-- a part has one neighbour part that is one less deep -/
theorem cl_uni {b : Nat → Int32} (ok : cl_ok b) {p p' q o : Nat} (hp : p < 196) (hp' : p' < 196) (hq : q < 196) (ho : o < 196) (r : cl_root b p = cl_root b p') (bq : gp_bs p q) (bo : gp_bs p' o) (dq : cl_dep b q + 1 = cl_dep b p) (d_o : cl_dep b o + 1 = cl_dep b p) : cl_root b q = cl_root b o := by
  refine Classical.byContradiction fun ne => ?_
  have n1 : cl_root b p ≠ cl_root b q := fun z => by
    have := cl_dep_rt ok z
    omega
  have n2 : cl_root b p ≠ cl_root b o := fun z => by
    have := cl_dep_rt ok z
    omega
  obtain ⟨φ, h1, h2⟩ := cl_phi ok n1
  have w1 := cl_mv_phi h1 h2 (Or.inl rfl) (cl_way ok hq (z := p) n1 (by omega))
  have w2 := cl_mv_phi h1 h2 (Or.inr rfl) (cl_way ok ho (z := q) ne (by omega))
  have a1 := h1 p q hp hq bq
  have a2 := h1 p' o hp' ho bo
  have a3 := h2 p p' r
  rw [gp_F1] at a1
  rw [← r, gp_Fz (Or.inr ⟨n1, fun z => ne z.symm⟩)] at a2
  omega
/-- the part around the hole in which a component lies cuts it off -/
theorem cl_cut {b : Nat → Int32} (ok : cl_ok b) {x c r r' a : Nat} (hc : c < 196) (hr : r < 196) (hr' : r' < 196) (ha : a < 196) (rx : cl_root b x = cl_root b c) (bc : gp_bs c r) (dc : cl_dep b r + 1 = cl_dep b c) (rr : cl_root b r = cl_root b r') (ba : gp_bs r' a) (da : cl_dep b a + 1 = cl_dep b r) (bl : b a ≠ 0) : ¬ cl_rc (cl_av b (cl_root b a)) 0 x := by
  intro h
  have n1 : cl_root b r ≠ cl_root b a := fun z => by
    have := cl_dep_rt ok z
    omega
  have n2 : cl_root b c ≠ cl_root b a := fun z => by
    have := cl_dep_rt ok z
    omega
  have n0 : cl_root b 0 ≠ cl_root b a := fun z => by
    have := cl_pt_c (cl_root_pt z)
    rw [ok.2 0 (by decide)] at this
    exact bl this.symm
  obtain ⟨φ, h1, h2⟩ := cl_phi ok n1
  have w1 := cl_mv_phi h1 h2 (Or.inl rfl) (cl_way ok ha (z := r) n1 (by omega))
  have a1 := h1 r' a hr' ha ba
  rw [← rr, gp_F1] at a1
  have a2 := h2 r r' rr
  have a3 := h1 c r hc hr bc
  rw [gp_Fz (Or.inr ⟨n2, n1⟩)] at a3
  have a4 := h2 x c rx
  have k := h (fun y => φ y = φ 0 ∧ cl_root b y ≠ cl_root b a) ⟨rfl, n0⟩ (fun u v i e => ⟨by
    have := h1 u v e.1 e.2.1 e.2.2.1
    rw [gp_Fz (Or.inr ⟨i.2, e.2.2.2⟩)] at this
    have := i.1
    omega, e.2.2.2⟩)
  have := k.1
  omega
theorem cl_mv_av {b : Nat → Int32} (ok : cl_ok b) {z x : Nat} (bz : b z ≠ 0) (h : cl_rc (cl_mv b (cl_root b z)) 0 x) : cl_rc (cl_av b (cl_root b z)) 0 x := by
  have cz : ∀ y, cl_root b y = cl_root b z → b y ≠ 0 := fun y e => by
    rw [cl_pt_c (cl_root_pt e)]; exact bz
  have k := h (fun y => cl_root b y ≠ cl_root b z ∧ cl_rc (cl_av b (cl_root b z)) 0 y) ⟨fun e => cz 0 e (ok.2 0 (by decide)), cl_rc_r _ 0⟩ (fun u v i e => by
    rcases e with e | ⟨hu, hv, e, n1, n2⟩
    · have r := cl_root_s e
      have nv : cl_root b v ≠ cl_root b z := fun q => i.1 (r.trans q)
      refine ⟨nv, ?_⟩
      rcases e.2.2.2 with k | ⟨bu, k⟩
      · exact cl_rc_s i.2 ⟨e.1, e.2.1, k, nv⟩
      · rcases k with rfl | k | k
        · exact i.2
        · exact cl_rc_s i.2 ⟨e.1, e.2.1, k, nv⟩
        · obtain ⟨w, hw, b1, b2⟩ := gp_dg_w e.1 e.2.1 k
          have nw : cl_root b w ≠ cl_root b z := fun q => by
            by_cases c : b u = b w
            · exact i.1 ((cl_bs_rt e.1 hw b1 c).trans q)
            · have h1 : b u = 1 := (ok.1 u).resolve_left bu
              have h2 : b w = 1 := (ok.1 w).resolve_left (cz w q)
              exact c (h1.trans h2.symm)
          exact cl_rc_s (cl_rc_s i.2 ⟨e.1, hw, b1, nw⟩) ⟨hw, e.2.1, b2, nv⟩
    · exact ⟨n2, cl_rc_s i.2 ⟨hu, hv, e, n2⟩⟩)
  exact k.2
/-- another component of the depth of that around doesn't cut it off -/
theorem cl_free {b : Nat → Int32} (ok : cl_ok b) {x c r r' a z : Nat} (hc : c < 196) (hr : r < 196) (hr' : r' < 196) (ha : a < 196) (rx : cl_root b x = cl_root b c) (bc : gp_bs c r) (dc : cl_dep b r + 1 = cl_dep b c) (rr : cl_root b r = cl_root b r') (ba : gp_bs r' a) (da : cl_dep b a + 1 = cl_dep b r) (bz : b z ≠ 0) (dz : cl_dep b z + 2 = cl_dep b c) (nz : cl_root b z ≠ cl_root b a) : cl_rc (cl_av b (cl_root b z)) 0 x := by
  have n1 : cl_root b r ≠ cl_root b z := fun z => by
    have := cl_dep_rt ok z
    omega
  have n2 : cl_root b c ≠ cl_root b z := fun z => by
    have := cl_dep_rt ok z
    omega
  refine cl_mv_av ok bz ?_
  have s1 := cl_way ok ha nz (by omega)
  have s2 := cl_rc_s s1 (v := r') (Or.inr ⟨ha, hr', gp_bs_y ba, fun q => nz q.symm, rr ▸ n1⟩)
  have s3 : cl_rc (cl_mv b (cl_root b z)) 0 r := cl_rc_t s2 (cl_rc_m (fun _ _ e => Or.inl e) (cl_root_pt rr.symm))
  have s4 := cl_rc_s s3 (v := c) (Or.inr ⟨hr, hc, gp_bs_y bc, n1, n2⟩)
  exact cl_rc_t s4 (cl_rc_m (fun _ _ e => Or.inl e) (cl_root_pt rx.symm))
