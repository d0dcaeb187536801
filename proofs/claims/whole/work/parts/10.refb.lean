/-! walks of the reference: first places, counts, holes -/
theorem yf_first {post : Int32 → Prop} {c w h : Int32} {b rt ch re : Nat → Int32} {p : Nat} (hp : p < 196) (hrt : ∀ p, p < 196 → rt p = nI (cl_root b p)) (h1 : cl_fs b c p → post 1) (h0 : ¬ cl_fs b c p → post 0) : wpY_isFirst post (w, h, b, rt, ch, re) (nI p) c := by
  have ip : vp_in (nI p) 196 := vp_in_nI hp (by decide)
  refine ⟨ip, ?_⟩
  rw [nI_clamp (Nat.lt_trans hp (by decide)), hrt p hp]
  have := cl_root_lt (b := b) hp
  by_cases e : b p = c
  · exact br_t e ⟨ip, pk_eq (cl_root b p) p (fun z => h1 ⟨e, z⟩) (fun z => h0 fun k => z k.2)⟩
  · exact br_f e (h0 fun k => e k.1)
theorem yf_cl {post : Int32 → Prop} {c w h : Int32} {b rt ch re : Nat → Int32} {N : Nat} (hN : N ≤ 196) (hrt : ∀ p, p < 196 → rt p = nI (cl_root b p)) (H : post (nI (cl_cnt (cl_fs b c) N))) : ∀ n i : Nat, i ≤ N → N < n + i → wY_count_5 post c (nI N) w h b rt ch re n (nI (cl_cnt (cl_fs b c) i)) (nI i) := by
  intro n
  induction n with
  | zero => intro i h1 h2; omega
  | succ n ih =>
    intro i h1 h2
    by_cases h9 : i = N
    · subst h9
      exact br_t (nI_le (Nat.le_refl i) (by omega)) H
    · refine br_f (nI_ge (by omega) (by omega)) (yf_first (by omega) hrt (fun f => ?_) (fun f => ?_))
      · refine br_f cl_10 (nm_r (nI_1 _) (nm_r (nI_1 i) ?_))
        rw [← cl_cnt_t f]
        exact ih (i + 1) (by omega) (by omega)
      · refine br_t rfl (nm_r (nI_1 i) ?_)
        rw [← cl_cnt_f f]
        exact ih (i + 1) (by omega) (by omega)
theorem yf_count {post : Int32 → Prop} {c w h : Int32} {b rt ch re : Nat → Int32} {N : Nat} (hN : N ≤ 196) (hrt : ∀ p, p < 196 → rt p = nI (cl_root b p)) (H : post (nI (cl_cnt (cl_fs b c) N))) : wpY_count post (w, h, b, rt, ch, re) c (nI N) :=
  ⟨N + 1, yf_cl hN hrt H (N + 1) 0 (Nat.zero_le N) (by omega)⟩
theorem yo_loop {post : Int32 → SY → Prop} {k w h : Int32} {b rt ch re : Nat → Int32} (hrt : ∀ p, p < 196 → rt p = nI (cl_root b p)) (hy : ∀ r, r < 196 → cl_fs b 1 r → k = nI (cl_cnt (cl_fs b 1) r) → post (nI r) (w, h, b, rt, ch, re)) (hn : (∀ r, r < 196 → cl_fs b 1 r → k ≠ nI (cl_cnt (cl_fs b 1) r)) → post (-1) (w, h, b, rt, ch, re)) :
    ∀ n i : Nat, i ≤ 196 → 196 < n + i → (∀ r, r < i → cl_fs b 1 r → k ≠ nI (cl_cnt (cl_fs b 1) r)) → wY_firstOf_8 post k w h b rt ch re n (nI (cl_cnt (cl_fs b 1) i)) (nI i) := by
  intro n
  induction n with
  | zero => intro i h1 h2; omega
  | succ n ih =>
    intro i h1 h2 hI
    by_cases h9 : i = 196
    · subst h9
      exact br_t (nI_le (a := 196) (b := 196) (by decide) (by decide)) (hn hI)
    · have hi : i < 196 := by omega
      refine br_f (nI_ge (b := 196) hi (by decide)) (yf_first hi hrt (fun f => ?_) (fun f => ?_))
      · refine br_f cl_10 ?_
        by_cases e : nI (cl_cnt (cl_fs b 1) i) = k
        · exact br_t e (hy i hi f e.symm)
        · refine br_f e (nm_r (nI_1 _) (nm_r (nI_1 i) ?_))
          rw [← cl_cnt_t f]
          refine ih (i + 1) (by omega) (by omega) (fun r hr fr => ?_)
          by_cases z : r = i
          · subst z; exact fun y => e y.symm
          · exact hI r (by omega) fr
      · refine br_t rfl (nm_r (nI_1 i) ?_)
        rw [← cl_cnt_f f]
        refine ih (i + 1) (by omega) (by omega) (fun r hr fr => ?_)
        by_cases z : r = i
        · subst z; exact absurd fr f
        · exact hI r (by omega) fr
theorem yo_first {post : Int32 → SY → Prop} {k w h : Int32} {b rt0 ch re : Nat → Int32} (hy : ∀ rt, (∀ p, p < 196 → rt p = nI (cl_root b p)) → ∀ r, r < 196 → cl_fs b 1 r → k = nI (cl_cnt (cl_fs b 1) r) → post (nI r) (w, h, b, rt, ch, re)) (hn : ∀ rt, (∀ p, p < 196 → rt p = nI (cl_root b p)) → (∀ r, r < 196 → cl_fs b 1 r → k ≠ nI (cl_cnt (cl_fs b 1) r)) → post (-1) (w, h, b, rt, ch, re)) : wpY_firstOf post (w, h, b, rt0, ch, re) k := by
  unfold wpY_firstOf
  exact yr_find (fun rt hrt => ⟨197, yo_loop hrt (hy rt hrt) (hn rt hrt) 197 0 (by decide) (by decide) (fun r hr => absurd hr (Nat.not_lt_zero r))⟩)
/-! holes -/
def cl_hole (b : Nat → Int32) (R C : Nat) : Prop := ∃ p q, p < 196 ∧ q < 196 ∧ gp_bs p q ∧ cl_root b p = R ∧ cl_root b q = C ∧ cl_dep b q + 1 = cl_dep b p
theorem cl_dm1 {a c : Nat} (ha : a < 2 ^ 30) (hc : c < 2 ^ 30) : nI a = nI c - 1 ↔ a + 1 = c := by
  have e1 : nI c - 1 = nI c - nI 1 := rfl
  rw [e1, ← Int32.toInt_inj, pk_sub_toInt hc (by decide), nI_toInt (by omega)]
  omega
theorem cl_dm2 {a c : Nat} (ha : a < 2 ^ 30) (hc : c < 2 ^ 30) : nI a = nI c - 2 ↔ a + 2 = c := by
  have e1 : nI c - 2 = nI c - nI 2 := rfl
  rw [e1, ← Int32.toInt_inj, pk_sub_toInt hc (by decide), nI_toInt (by omega)]
  omega
theorem yh_in {post : Int32 → Prop} {J2 : Int32 → Prop} {i R C : Nat} {w h : Int32} {b rt ch re : Nat → Int32} (ok : cl_ok b) (hi : i < 196) (hR : R < 196) (hC : C < 196) (hrt : ∀ p, p < 196 → rt p = nI (cl_root b p)) (hch : ∀ p, p < 196 → ch p = nI (cl_dep b p))
    (hy : cl_hole b R C → post 1) (J : (∀ q, q < 196 → gp_bs i q → cl_root b i = R → cl_root b q = C → cl_dep b q + 1 = cl_dep b i → False) → J2 (nI (i + 1))) :
    ∀ n d : Nat, d ≤ 9 → d % 2 = 1 → 9 < n + d → (∀ e, e < d → e % 2 = 1 → ∀ q, cl_to i e q → cl_root b i = R → cl_root b q = C → cl_dep b q + 1 = cl_dep b i → False) → wY_isHole_12 post J2 (nI R) (nI C) (nI i) w h b rt ch re n (nI d) := by
  intro n
  induction n with
  | zero => intro d h1 ho h2; omega
  | succ n ih =>
    intro d h1 ho h2 hI
    by_cases h9 : d = 9
    · subst h9
      refine br_t (nI_le (a := 9) (b := 9) (by decide) (by decide)) (nm_r (nI_1 i) (J fun q hq bq => ?_))
      obtain ⟨e, he, oe, te⟩ := cl_bs_to hi hq bq
      exact hI e he oe q te
    · have hd : d < 9 := by omega
      have go : (∀ q, cl_to i d q → cl_root b i = R → cl_root b q = C → cl_dep b q + 1 = cl_dep b i → False) → wY_isHole_12 post J2 (nI R) (nI C) (nI i) w h b rt ch re n (nI (d + 2)) := fun hn => ih (d + 2) (by omega) (by omega) (by omega) (fun e he oe q te => by
        by_cases z : e = d
        · subst z; exact hn q te
        · exact hI e (by omega) oe q te)
      refine br_f (nI_ge (b := 9) hd (by decide)) (cl_ner hi hd (fun q tq => ?_) (fun hn => ?_))
      · have iq : vp_in (nI q) 196 := vp_in_nI tq.1 (by decide)
        have ii : vp_in (nI i) 196 := vp_in_nI hi (by decide)
        refine br_f (nI_pos (Nat.lt_trans tq.1 (by decide))) ⟨ii, ?_⟩
        rw [nI_clamp (Nat.lt_trans tq.1 (by decide)), nI_clamp (Nat.lt_trans hi (by decide)), hrt i hi, hrt q tq.1, hch i hi, hch q tq.1]
        have l1 := cl_root_lt (b := b) hi
        have l2 := cl_root_lt (b := b) tq.1
        have l3 := cl_dep_13 ok hi
        have l4 := cl_dep_13 ok tq.1
        refine pk_eq (cl_root b i) R (fun e1 => ⟨iq, pk_eq (cl_root b q) C (fun e2 => ⟨iq, ii, ?_⟩) (fun e2 => ?_)⟩) (fun e1 => ?_)
        · by_cases e3 : cl_dep b q + 1 = cl_dep b i
          · exact br_t ((cl_dm1 (by omega) (by omega)).mpr e3) (hy ⟨i, q, hi, tq.1, cl_to_bs hi hd ho tq, e1, e2, e3⟩)
          · exact br_f (fun z => e3 ((cl_dm1 (by omega) (by omega)).mp z)) (nm_r (nI_add d 2) (go fun q' t' _ _ z => e3 (cl_to_un t' tq ▸ z)))
        · exact nm_r (nI_add d 2) (go fun q' t' _ z _ => e2 (cl_to_un t' tq ▸ z))
        · exact nm_r (nI_add d 2) (go fun q' t' z _ _ => e1 z)
      · exact br_t cl_m1lt (nm_r (nI_add d 2) (go fun q t _ _ _ => hn q t))
theorem yh_out {post : Int32 → Prop} {R C : Nat} {w h : Int32} {b rt ch re : Nat → Int32} (ok : cl_ok b) (hR : R < 196) (hC : C < 196) (hrt : ∀ p, p < 196 → rt p = nI (cl_root b p)) (hch : ∀ p, p < 196 → ch p = nI (cl_dep b p))
    (hy : cl_hole b R C → post 1) (hn : ¬ cl_hole b R C → post 0) :
    ∀ n i : Nat, i ≤ 196 → 196 < n + i → (∀ p q, p < i → q < 196 → gp_bs p q → cl_root b p = R → cl_root b q = C → cl_dep b q + 1 = cl_dep b p → False) → wY_isHole_2 post (nI R) (nI C) w h b rt ch re n (nI i) := by
  intro n
  induction n with
  | zero => intro d h1 h2; omega
  | succ n ih =>
    intro i h1 h2 hI
    by_cases h9 : i = 196
    · subst h9
      refine br_t (nI_le (a := 196) (b := 196) (by decide) (by decide)) (hn fun z => ?_)
      obtain ⟨p, q, hp, hq, k1, k2, k3, k4⟩ := z
      exact hI p q hp hq k1 k2 k3 k4
    · refine br_f (nI_ge (b := 196) (by omega) (by decide)) ⟨10, yh_in ok (by omega) hR hC hrt hch hy (fun hi' => ih (i + 1) (by omega) (by omega) (fun p q hp hq => ?_)) 10 1 (by decide) (by decide) (by decide) (fun e he oe => by omega)⟩
      by_cases z : p = i
      · subst z; exact hi' q hq
      · exact hI p q (by omega) hq
theorem yh_hole {post : Int32 → Prop} {R C : Nat} {w h : Int32} {b rt ch re : Nat → Int32} (ok : cl_ok b) (hR : R < 196) (hC : C < 196) (hrt : ∀ p, p < 196 → rt p = nI (cl_root b p)) (hch : ∀ p, p < 196 → ch p = nI (cl_dep b p))
    (hy : cl_hole b R C → post 1) (hn : ¬ cl_hole b R C → post 0) : wpY_isHole post (w, h, b, rt, ch, re) (nI R) (nI C) :=
  ⟨197, yh_out ok hR hC hrt hch hy hn 197 0 (by decide) (by decide) (fun p q hp => absurd hp (Nat.not_lt_zero p))⟩
/-! what the two count -/
theorem yv_area {post : Int32 → SY → Prop} {C : Nat} {w h : Int32} {b rt ch re : Nat → Int32} (hC : C < 196) (hrt : ∀ p, p < 196 → rt p = nI (cl_root b p)) (H : post (nI (cl_cnt (fun p => cl_root b p = C) 196)) (w, h, b, rt, ch, re)) :
    ∀ n i : Nat, i ≤ 196 → 196 < n + i → wY_area_17 post (nI C) w h b rt ch re n (nI (cl_cnt (fun p => cl_root b p = C) i)) (nI i) := by
  intro n
  induction n with
  | zero => intro i h1 h2; omega
  | succ n ih =>
    intro i h1 h2
    by_cases h9 : i = 196
    · subst h9
      exact br_t (nI_le (a := 196) (b := 196) (by decide) (by decide)) H
    · have hi : i < 196 := by omega
      refine br_f (nI_ge (b := 196) hi (by decide)) ⟨vp_in_nI hi (by decide), ?_⟩
      rw [nI_clamp (Nat.lt_trans hi (by decide)), hrt i hi]
      have := cl_root_lt (b := b) hi
      refine pk_eq (cl_root b i) C (fun e => nm_r (nI_1 _) (nm_r (nI_1 i) ?_)) (fun e => nm_r (nI_1 i) ?_)
      · rw [← cl_cnt_t (P := fun p => cl_root b p = C) e]
        exact ih (i + 1) (by omega) (by omega)
      · rw [← cl_cnt_f (P := fun p => cl_root b p = C) e]
        exact ih (i + 1) (by omega) (by omega)
theorem yv_holes {post : Int32 → SY → Prop} {C : Nat} {w h : Int32} {b rt ch re : Nat → Int32} (ok : cl_ok b) (hC : C < 196) (hrt : ∀ p, p < 196 → rt p = nI (cl_root b p)) (hch : ∀ p, p < 196 → ch p = nI (cl_dep b p)) (H : post (nI (cl_cnt (fun p => cl_fs b 0 p ∧ 1 ≤ p ∧ cl_hole b p C) 196)) (w, h, b, rt, ch, re)) :
    ∀ n i : Nat, 1 ≤ i → i ≤ 196 → 196 < n + i → wY_holes_21 post (nI C) w h b rt ch re n (nI (cl_cnt (fun p => cl_fs b 0 p ∧ 1 ≤ p ∧ cl_hole b p C) i)) (nI i) := by
  intro n
  induction n with
  | zero => intro i _ h1 h2; omega
  | succ n ih =>
    intro i h0 h1 h2
    by_cases h9 : i = 196
    · subst h9
      exact br_t (nI_le (a := 196) (b := 196) (by decide) (by decide)) H
    · have hi : i < 196 := by omega
      have no : ¬ (cl_fs b 0 i ∧ 1 ≤ i ∧ cl_hole b i C) → wY_holes_21 post (nI C) w h b rt ch re n (nI (cl_cnt (fun p => cl_fs b 0 p ∧ 1 ≤ p ∧ cl_hole b p C) i)) (nI (i + 1)) := fun z => by
        rw [← cl_cnt_f (P := fun p => cl_fs b 0 p ∧ 1 ≤ p ∧ cl_hole b p C) z]
        exact ih (i + 1) (by omega) (by omega) (by omega)
      refine br_f (nI_ge (b := 196) hi (by decide)) (yf_first hi hrt (fun f => ?_) (fun f => ?_))
      · refine br_f cl_10 (yh_hole ok hi hC hrt hch (fun k => ?_) (fun k => ?_))
        · refine br_f cl_10 (nm_r (nI_1 _) (nm_r (nI_1 i) ?_))
          rw [← cl_cnt_t (P := fun p => cl_fs b 0 p ∧ 1 ≤ p ∧ cl_hole b p C) ⟨f, h0, k⟩]
          exact ih (i + 1) (by omega) (by omega) (by omega)
        · exact br_t rfl (nm_r (nI_1 i) (no fun z => k z.2.2))
      · exact br_t rfl (nm_r (nI_1 i) (no fun z => f z.1))
theorem yv_encl {post : Int32 → SY → Prop} {C : Nat} {w h : Int32} {b rt ch re : Nat → Int32} {P : Nat → Prop} (hC : C < 196) (hrt : ∀ p, p < 196 → rt p = nI (cl_root b p)) (hP : ∀ p, p < 196 → (P p ↔ re p = 0 ∧ cl_root b p ≠ C)) (H : post (nI (cl_cnt P 196)) (w, h, b, rt, ch, re)) :
    ∀ n i : Nat, i ≤ 196 → 196 < n + i → wY_enclosed_22 post (nI C) w h b rt ch re n (nI (cl_cnt P i)) (nI i) := by
  intro n
  induction n with
  | zero => intro i h1 h2; omega
  | succ n ih =>
    intro i h1 h2
    by_cases h9 : i = 196
    · subst h9
      exact br_t (nI_le (a := 196) (b := 196) (by decide) (by decide)) H
    · have hi : i < 196 := by omega
      have ii : vp_in (nI i) 196 := vp_in_nI hi (by decide)
      have no : ¬ P i → wY_enclosed_22 post (nI C) w h b rt ch re n (nI (cl_cnt P i)) (nI (i + 1)) := fun z => by
        rw [← cl_cnt_f z]
        exact ih (i + 1) (by omega) (by omega)
      refine br_f (nI_ge (b := 196) hi (by decide)) ⟨ii, ?_⟩
      rw [nI_clamp (Nat.lt_trans hi (by decide)), hrt i hi]
      have := cl_root_lt (b := b) hi
      by_cases e : re i = 0
      · refine br_t e ⟨ii, pk_eq (cl_root b i) C (fun e2 => nm_r (nI_1 i) (no fun z => ((hP i hi).mp z).2 e2)) (fun e2 => nm_r (nI_1 _) (nm_r (nI_1 i) ?_))⟩
        rw [← cl_cnt_t ((hP i hi).mpr ⟨e, e2⟩)]
        exact ih (i + 1) (by omega) (by omega)
      · exact br_f e (nm_r (nI_1 i) (no fun z => e ((hP i hi).mp z).1))
theorem yv_around {post : Int32 → SY → Prop} {F A : Nat} {w h : Int32} {b rt ch : Nat → Int32} (ok : cl_ok b) (hF : F < 196) (hA : A < 196) (hrt : ∀ p, p < 196 → rt p = nI (cl_root b p)) (hch : ∀ p, p < 196 → ch p = nI (cl_dep b p))
    (fA : cl_fs b 1 A) (dA : cl_dep b A + 2 = cl_dep b F) (cut : ¬ cl_rc (cl_av b A) 0 F) (free : ∀ z, z < 196 → cl_fs b 1 z → cl_dep b z + 2 = cl_dep b F → z ≠ A → cl_rc (cl_av b z) 0 F)
    (H : ∀ re, post (nI (cl_cnt (cl_fs b 1) A)) (w, h, b, rt, ch, re)) :
    ∀ (n i : Nat) (re : Nat → Int32), i ≤ A → A < n + i → wY_around_18 post (nI F) n (nI i) w h b rt ch re := by
  intro n
  induction n with
  | zero => intro i re h1 h2; omega
  | succ n ih =>
    intro i re h1 h2
    have hi : i < 196 := by omega
    have go : ∀ re, i ≠ A → wY_around_18 post (nI F) n (nI (i + 1)) w h b rt ch re := fun re z => ih (i + 1) re (by omega) (by omega)
    refine br_f (nI_ge (b := 196) hi (by decide)) (yf_first hi hrt (fun f => ?_) (fun f => ?_))
    · have iF : vp_in (nI F) 196 := vp_in_nI hF (by decide)
      refine br_f cl_10 ⟨vp_in_nI hi (by decide), iF, ?_⟩
      rw [nI_clamp (Nat.lt_trans hi (by decide)), nI_clamp (Nat.lt_trans hF (by decide)), hch i hi, hch F hF]
      have l3 := cl_dep_13 ok hi
      have l4 := cl_dep_13 ok hF
      by_cases e : cl_dep b i + 2 = cl_dep b F
      · refine br_t ((cl_dm2 (by omega) (by omega)).mpr e) (ye_find hi hrt (fun re' hre => ⟨iF, ?_⟩))
        by_cases z : i = A
        · subst z
          exact br_t (Classical.byContradiction fun y => cut ((hre F hF).mp y)) (yf_count (by omega) hrt (H re'))
        · exact br_f ((hre F hF).mpr (free i hi f e z)) (nm_r (nI_1 i) (go re' z))
      · exact br_f (fun z => e ((cl_dm2 (by omega) (by omega)).mp z)) (nm_r (nI_1 i) (go re fun z => e (z ▸ dA)))
    · exact br_t rfl (nm_r (nI_1 i) (go re fun z => f (z ▸ fA)))
theorem yv_none {post : Int32 → SY → Prop} {F : Nat} {w h : Int32} {b rt ch re : Nat → Int32} (ok : cl_ok b) (hF : F < 196) (hrt : ∀ p, p < 196 → rt p = nI (cl_root b p)) (hch : ∀ p, p < 196 → ch p = nI (cl_dep b p)) (dF : cl_dep b F = 1)
    (H : post (-2) (w, h, b, rt, ch, re)) :
    ∀ (n i : Nat), i ≤ 196 → 196 < n + i → wY_around_18 post (nI F) n (nI i) w h b rt ch re := by
  intro n
  induction n with
  | zero => intro i h1 h2; omega
  | succ n ih =>
    intro i h1 h2
    by_cases h9 : i = 196
    · subst h9
      exact br_t (nI_le (a := 196) (b := 196) (by decide) (by decide)) H
    · have hi : i < 196 := by omega
      refine br_f (nI_ge (b := 196) hi (by decide)) (yf_first hi hrt (fun f => ?_) (fun f => ?_))
      · refine br_f cl_10 ⟨vp_in_nI hi (by decide), vp_in_nI hF (by decide), ?_⟩
        rw [nI_clamp (Nat.lt_trans hi (by decide)), nI_clamp (Nat.lt_trans hF (by decide)), hch i hi, hch F hF]
        have l3 := cl_dep_13 ok hi
        have l4 := cl_dep_13 ok hF
        refine br_f (fun z => ?_) (nm_r (nI_1 i) (ih (i + 1) (by omega) (by omega)))
        have := (cl_dm2 (by omega) (by omega)).mp z
        omega
      · exact br_t rfl (nm_r (nI_1 i) (ih (i + 1) (by omega) (by omega)))
