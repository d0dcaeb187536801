/-! the component's questions -/
theorem xc_in {post : Int32 → Prop} {k f_width f_height cc rn : Int32} {b cs rs pn da on q al re : Nat → Int32} {p : Nat} (hp : p < 196) (h1 : b p ≠ 0 ∧ pn p = k → post 1) (h0 : ¬ (b p ≠ 0 ∧ pn p = k) → post 0) : wpX_inComponent post (f_width, f_height, cc, rn, b, cs, rs, pn, da, on, q, al, re) (nI p) k := by
  have ip : vp_in (nI p) 196 := vp_in_nI hp (by decide)
  refine ⟨ip, ?_⟩
  rw [nI_clamp (Nat.lt_trans hp (by decide))]
  by_cases e : b p = 0
  · exact br_t e (h0 fun z => z.1 e)
  · refine br_f e ⟨ip, ?_⟩
    by_cases e2 : pn p = k
    · exact br_t e2 (h1 ⟨e, e2⟩)
    · exact br_f e2 (h0 fun z => e2 z.2)
/-- place p is in component k, whose first place is C -/
theorem cl_inc {b : Nat → Int32} {cc rn : Int32} {cs rs pn : Nat → Int32} (ok : cl_ok b) (hN : cl_N b 196 cc rn cs rs pn) {C p : Nat} (hC : C < 196) (fC : cl_fs b 1 C) (hp : p < 196) : (b p ≠ 0 ∧ pn p = nI (cl_cnt (cl_fs b 1) C)) ↔ cl_root b p = C := by
  have e := hN.2.2.2.2.1 p hp (cl_root_lt hp)
  rw [e]
  constructor
  · intro ⟨z, y⟩
    have b1 : b p = 1 := (ok.1 p).resolve_left z
    rw [b1] at y
    have y2 := (nI_eq (cl_c196 _ (Nat.le_of_lt (cl_root_lt hp))) (cl_c196 _ (Nat.le_of_lt hC))).mp y
    exact cl_cnt_inj ⟨(cl_root_c b p).trans b1, cl_root_i b p⟩ fC y2
  · intro z
    have b1 : b p = 1 := by rw [← cl_root_c b p, z]; exact fC.1
    exact ⟨by rw [b1]; exact cl_10, by rw [b1, z]⟩
theorem xq_area {post : Int32 → Prop} {C : Nat} {f_width f_height cc rn : Int32} {b cs rs pn da on q al re : Nat → Int32} (ok : cl_ok b) (hN : cl_N b 196 cc rn cs rs pn) (hC : C < 196) (fC : cl_fs b 1 C) (H : post (nI (cl_cnt (fun p => cl_root b p = C) 196))) :
    ∀ n i : Nat, i ≤ 196 → 196 < n + i → wX_area_14 post (nI (cl_cnt (cl_fs b 1) C)) f_width f_height cc rn b cs rs pn da on q al re n (nI (cl_cnt (fun p => cl_root b p = C) i)) (nI i) := by
  intro n
  induction n with
  | zero => intro i h1 h2; omega
  | succ n ih =>
    intro i h1 h2
    by_cases h9 : i = 196
    · subst h9
      exact br_t (nI_le (a := 196) (b := 196) (by decide) (by decide)) H
    · have hi : i < 196 := by omega
      refine br_f (nI_ge (b := 196) hi (by decide)) (xc_in hi (fun e => ?_) (fun e => ?_))
      · refine br_f cl_10 (nm_r (nI_1 _) (nm_r (nI_1 i) ?_))
        rw [← cl_cnt_t (P := fun p => cl_root b p = C) ((cl_inc ok hN hC fC hi).mp e)]
        exact ih (i + 1) (by omega) (by omega)
      · refine br_t rfl (nm_r (nI_1 i) ?_)
        rw [← cl_cnt_f (P := fun p => cl_root b p = C) (fun z => e ((cl_inc ok hN hC fC hi).mpr z))]
        exact ih (i + 1) (by omega) (by omega)
/-! holes: by the number of the region, by its first place -/
theorem cl_cnt_ix {P G : Nat → Prop} : ∀ n, cl_cnt (fun j => ∃ r, r < n ∧ P r ∧ cl_cnt P r = j ∧ G r) (cl_cnt P n) = cl_cnt (fun p => P p ∧ G p) n := by
  intro n
  induction n with
  | zero => rfl
  | succ n ih =>
    by_cases h : P n
    · rw [cl_cnt_t h]
      have e : cl_cnt (fun j => ∃ r, r < n + 1 ∧ P r ∧ cl_cnt P r = j ∧ G r) (cl_cnt P n) = cl_cnt (fun j => ∃ r, r < n ∧ P r ∧ cl_cnt P r = j ∧ G r) (cl_cnt P n) :=
        cl_cnt_c fun j hj => ⟨fun ⟨r, a, c, d, g⟩ => ⟨r, by
          by_cases z : r = n
          · subst z; omega
          · omega, c, d, g⟩, fun ⟨r, a, c, d, g⟩ => ⟨r, by omega, c, d, g⟩⟩
      by_cases g : G n
      · rw [cl_cnt_t (P := fun p => P p ∧ G p) ⟨h, g⟩, cl_cnt_t (P := fun j => ∃ r, r < n + 1 ∧ P r ∧ cl_cnt P r = j ∧ G r) ⟨n, by omega, h, rfl, g⟩, e, ih]
      · rw [cl_cnt_f (P := fun p => P p ∧ G p) (fun z => g z.2), cl_cnt_f (P := fun j => ∃ r, r < n + 1 ∧ P r ∧ cl_cnt P r = j ∧ G r) (fun ⟨r, a, c, d, k⟩ => g (cl_cnt_inj c h d ▸ k)), e, ih]
    · rw [cl_cnt_f h, cl_cnt_f (P := fun p => P p ∧ G p) (fun z => h z.1), ← ih]
      exact cl_cnt_c fun j hj => ⟨fun ⟨r, a, c, d, g⟩ => ⟨r, by
          by_cases z : r = n
          · subst z; exact absurd c h
          · omega, c, d, g⟩, fun ⟨r, a, c, d, g⟩ => ⟨r, by omega, c, d, g⟩⟩
theorem cl_f00 {b : Nat → Int32} (ok : cl_ok b) : cl_fs b 0 0 := ⟨ok.2 0 (by decide), Nat.le_zero.mp (cl_root_self b 0)⟩
/-- a region that isn't the outer one is a hole of the component in which its outer neighbour lies -/
theorem cl_hol {b : Nat → Int32} {on : Nat → Int32} (ok : cl_ok b) {r C : Nat} (hr : r < 196) (r1 : 1 ≤ r) (fr : cl_fs b 0 r) {o : Nat} (ho : o < 196) (hd : cl_dep b r ≠ 0 → cl_dep b o + 1 = cl_dep b r ∧ ∃ p', p' < 196 ∧ cl_root b r = cl_root b p' ∧ gp_bs p' o) : cl_root b o = C ↔ cl_hole b r C := by
  have d0 : cl_dep b r ≠ 0 := fun z => by
    rcases cl_dep_d ok hr with ⟨_, k⟩ | ⟨_, _, _, _, _, _, k⟩
    · rw [(cl_f00 ok).2, fr.2] at k
      omega
    · omega
  obtain ⟨d1, p', hp', rp, bo⟩ := hd d0
  have dp := cl_dep_rt ok rp
  constructor
  · intro e
    exact ⟨p', o, hp', ho, bo, by rw [← rp]; exact fr.2, e, by omega⟩
  · intro ⟨p, q, hp, hq, bq, e1, e2, dq⟩
    have rr : cl_root b p = cl_root b p' := by rw [e1, ← rp]; exact fr.2.symm
    have dpp := cl_dep_rt ok rr
    exact (cl_uni ok hp hp' hq ho rr bq bo dq (by omega)).symm.trans e2
theorem xq_holes {post : Int32 → Prop} {C : Nat} {f_width f_height cc rn : Int32} {b cs rs pn da on q al re : Nat → Int32} (ok : cl_ok b) (hN : cl_N b 196 cc rn cs rs pn) (hO : ∀ p, p < 196 → cl_o b on p) (hC : C < 196) (fC : cl_fs b 1 C) (H : post (nI (cl_cnt (fun p => cl_fs b 0 p ∧ 1 ≤ p ∧ cl_hole b p C) 196))) :
    ∀ n j : Nat, 1 ≤ j → j ≤ cl_cnt (cl_fs b 0) 196 → cl_cnt (cl_fs b 0) 196 < n + j → wX_holes_14 post (nI (cl_cnt (cl_fs b 1) C)) f_width f_height cc rn b cs rs pn da on q al re n (nI (cl_cnt (fun j => ∃ r, r < 196 ∧ cl_fs b 0 r ∧ cl_cnt (cl_fs b 0) r = j ∧ 1 ≤ r ∧ cl_hole b r C) j)) (nI j) := by
  intro n
  have e2 := hN.2.1
  have l2 := cl_cnt_le (cl_fs b 0) 196
  induction n with
  | zero => intro j _ h1 h2; omega
  | succ n ih =>
    intro j h0 h1 h2
    by_cases h9 : j = cl_cnt (cl_fs b 0) 196
    · refine br_t (by rw [e2]; exact nI_le (by omega) (by omega)) ?_
      rw [h9, cl_cnt_ix (P := cl_fs b 0) (G := fun r => 1 ≤ r ∧ cl_hole b r C) 196]
      exact H
    · have hj : j < cl_cnt (cl_fs b 0) 196 := by omega
      obtain ⟨r, hr, fr, er⟩ := cl_cnt_ex hj
      have r1 : 1 ≤ r := Nat.one_le_iff_ne_zero.mpr fun z => by
        subst z
        rw [cl_cnt_0] at er
        omega
      have ers := hN.2.2.2.1 r hr fr
      rw [er] at ers
      obtain ⟨o, ho, eo, hd⟩ := hO r hr
      have key := cl_hol (on := on) (C := C) ok hr r1 fr ho hd
      have uq : (∃ r, r < 196 ∧ cl_fs b 0 r ∧ cl_cnt (cl_fs b 0) r = j ∧ 1 ≤ r ∧ cl_hole b r C) ↔ cl_hole b r C := ⟨fun ⟨r', a, c, d, _, k⟩ => cl_cnt_inj c fr (d.trans er.symm) ▸ k, fun k => ⟨r, hr, fr, er, r1, k⟩⟩
      refine br_f (by rw [e2]; exact nI_ge hj (by omega)) ⟨vp_in_nI (by omega) (by decide), ?_⟩
      rw [nI_clamp (by omega), ers]
      refine ⟨vp_in_nI hr (by decide), ?_⟩
      rw [nI_clamp (Nat.lt_trans hr (by decide))]
      refine nm_r eo (xc_in ho (fun e => ?_) (fun e => ?_))
      · refine br_f cl_10 (nm_r (nI_1 _) (nm_r (nI_1 j) ?_))
        rw [← cl_cnt_t (P := fun j => ∃ r, r < 196 ∧ cl_fs b 0 r ∧ cl_cnt (cl_fs b 0) r = j ∧ 1 ≤ r ∧ cl_hole b r C) (uq.mpr (key.mp ((cl_inc ok hN hC fC ho).mp e)))]
        exact ih (j + 1) (by omega) (by omega) (by omega)
      · refine br_t rfl (nm_r (nI_1 j) ?_)
        rw [← cl_cnt_f (P := fun j => ∃ r, r < 196 ∧ cl_fs b 0 r ∧ cl_cnt (cl_fs b 0) r = j ∧ 1 ≤ r ∧ cl_hole b r C) (fun z => e ((cl_inc ok hN hC fC ho).mpr (key.mpr (uq.mp z))))]
        exact ih (j + 1) (by omega) (by omega) (by omega)
/-! enclosed -/
theorem cl_alone {b al : Nat → Int32} {C : Nat} (ok : cl_ok b) (fC : cl_fs b 1 C) (h : ∀ p, p < 196 → (al p = 0 ↔ cl_root b p ≠ C)) {p : Nat} : cl_rc (cl_st al) 0 p ↔ cl_rc (cl_av b C) 0 p := by
  have a0 : al 0 = 0 := (h 0 (by decide)).mpr fun z => by
    have := cl_root_c b 0
    rw [z, fC.1, ok.2 0 (by decide)] at this
    exact cl_10 this
  constructor
  · intro k
    refine (k (fun x => al x = 0 ∧ cl_rc (cl_av b C) 0 x) ⟨a0, cl_rc_r _ 0⟩ (fun u v i e => ?_)).2
    have av : al v = 0 := e.2.2.1.symm.trans i.1
    exact ⟨av, cl_rc_s i.2 ⟨e.1, e.2.1, e.2.2.2.resolve_right (fun z => z.1 i.1), (h v e.2.1).mp av⟩⟩
  · intro k
    refine (k (fun x => al x = 0 ∧ cl_rc (cl_st al) 0 x) ⟨a0, cl_rc_r _ 0⟩ (fun u v i e => ?_)).2
    have av : al v = 0 := (h v e.2.1).mpr e.2.2.2
    exact ⟨av, cl_rc_s i.2 ⟨e.1, e.2.1, i.1.trans av.symm, Or.inl e.2.2.1⟩⟩
theorem xe_cnt {post : Int32 → SX → Prop} {f_width f_height cc rn : Int32} {b cs rs pn da on q al re : Nat → Int32} {P : Nat → Prop} (hP : ∀ p, p < 196 → (P p ↔ al p = 0 ∧ re p = -1)) (H : post (nI (cl_cnt P 196)) (f_width, f_height, cc, rn, b, cs, rs, pn, da, on, q, al, re)) :
    ∀ n i : Nat, i ≤ 196 → 196 < n + i → wX_enclosed_62 post f_width f_height cc rn b cs rs pn da on q al re n (nI (cl_cnt P i)) (nI i) := by
  intro n
  induction n with
  | zero => intro i h1 h2; omega
  | succ n ih =>
    intro i h1 h2
    by_cases h9 : i = 196
    · subst h9
      exact br_t (nI_le (a := 196) (b := 196) (by decide) (by decide)) H
    · have hi : i < 196 := by omega
      have ii : vp_in (nI i) 196 := vp_in_nI hi (by decide)
      have no : ¬ P i → wX_enclosed_62 post f_width f_height cc rn b cs rs pn da on q al re n (nI (cl_cnt P i)) (nI (i + 1)) := fun z => by
        rw [← cl_cnt_f z]
        exact ih (i + 1) (by omega) (by omega)
      refine br_f (nI_ge (b := 196) hi (by decide)) ⟨ii, ?_⟩
      rw [nI_clamp (Nat.lt_trans hi (by decide))]
      by_cases e : al i = 0
      · refine br_t e ⟨ii, ?_⟩
        by_cases e2 : re i = -1
        · refine br_t e2 (nm_r (nI_1 _) (nm_r (nI_1 i) ?_))
          rw [← cl_cnt_t ((hP i hi).mpr ⟨e, e2⟩)]
          exact ih (i + 1) (by omega) (by omega)
        · exact br_f e2 (nm_r (nI_1 i) (no fun z => e2 ((hP i hi).mp z).2))
      · exact br_f e (nm_r (nI_1 i) (no fun z => e ((hP i hi).mp z).1))
theorem xe_loop {post : Int32 → SX → Prop} {C : Nat} {f_width f_height cc rn : Int32} {b cs rs pn da on q re : Nat → Int32} (ok : cl_ok b) (hN : cl_N b 196 cc rn cs rs pn) (hC : C < 196) (fC : cl_fs b 1 C)
    (H : ∀ q al re, post (nI (cl_cnt (fun p => ¬ cl_rc (cl_av b C) 0 p ∧ cl_root b p ≠ C) 196)) (f_width, f_height, cc, rn, b, cs, rs, pn, da, on, q, al, re)) :
    ∀ (n i : Nat) (al : Nat → Int32), i ≤ 196 → 196 < n + i → (∀ p, p < i → (al p = 0 ↔ cl_root b p ≠ C)) → wX_enclosed_12 post (nI (cl_cnt (cl_fs b 1) C)) f_width f_height cc rn n (nI i) b cs rs pn da on q al re := by
  intro n
  induction n with
  | zero => intro i al h1 h2; omega
  | succ n ih =>
    intro i al h1 h2 hI
    by_cases h9 : i = 196
    · subst h9
      refine br_t (nI_le (a := 196) (b := 196) (by decide) (by decide)) (xu_reached (fun re1 e1 => ?_))
      refine xm_alone_reached (s := 0) (k := nI 0) (by decide) (cl_nm1 (by decide)) (fun p r => e1 p (cl_pt_lt (by decide) r)) (fun re2 q2 m1 m2 => ?_)
      refine ⟨197, xe_cnt (P := fun p => ¬ cl_rc (cl_av b C) 0 p ∧ cl_root b p ≠ C) (fun p hp => ?_) (H q2 al re2) 197 0 (by decide) (by decide)⟩
      rw [hI p hp, ← cl_alone ok fC hI]
      refine ⟨fun z => ⟨z.2, (m2 p z.1).trans (e1 p hp)⟩, fun z => ⟨fun y => ?_, z.1⟩⟩
      have := (m1 p y).symm.trans z.2
      exact cl_nm1 (by decide) this
    · have hi : i < 196 := by omega
      have ii : vp_in (nI i) 196 := vp_in_nI hi (by decide)
      have ci : (nI i).toNatClampNeg = i := nI_clamp (Nat.lt_trans hi (by decide))
      refine br_f (nI_ge (b := 196) hi (by decide)) (xc_in hi (fun e => ⟨ii, nm_r (congrArg (fun z => upd al z 1) ci) (nm_r (nI_1 i) (ih (i + 1) _ (by omega) (by omega) (fun p hp => ?_)))⟩) (fun e => ⟨ii, nm_r (congrArg (fun z => upd al z 0) ci) (nm_r (nI_1 i) (ih (i + 1) _ (by omega) (by omega) (fun p hp => ?_)))⟩))
      · by_cases z : p = i
        · subst z
          rw [pk_us]
          exact ⟨fun y => absurd y cl_10, fun y => absurd ((cl_inc ok hN hC fC hi).mp e) y⟩
        · rw [pk_un z]; exact hI p (by omega)
      · by_cases z : p = i
        · subst z
          rw [pk_us]
          exact ⟨fun _ y => e ((cl_inc ok hN hC fC hi).mpr y), fun _ => rfl⟩
        · rw [pk_un z]; exact hI p (by omega)
