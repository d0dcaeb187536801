/-! walks of the reference: steps, roots, changes, reached -/
theorem cl_nb {x : Int32} (h : x = 0 ∨ x = 1) : narrow .boolean (.int x) = .int x := by
  rcases h with h | h <;> rw [h] <;> rfl
theorem cl_v1 : vp_nar .boolean 1 = 1 := rfl
theorem cl_v0 : vp_nar .boolean 0 = 0 := rfl
theorem cl_vz (v : Int32) : vp_nar .boolean (lw_bz v) = lw_bz v := by
  rcases lw_bz_01 v with h | h <;> rw [h] <;> rfl
theorem cl_m1lt : (-1 : Int32) < 0 := by decide
theorem cl_nm1ge : ¬ (0 : Int32) ≤ -1 := by decide
theorem cl_add0 (x : Int32) : x + nI 0 = x := by rw [nI_0, Int32.add_zero]
theorem yb_way {post : Int32 → Prop} {v : SY} {d : Nat} (hd : d < 9) (h1 : d % 2 = 1 → post 1) (h0 : ¬ d % 2 = 1 → post 0) : wpY_besideWay post v (nI d) := by
  unfold wpY_besideWay
  refine ⟨by decide, ?_⟩
  rw [show nI d - nI d / 2 * 2 = nI (d % 2) from pk_rem (d := 2) (by omega) (by decide) (by decide)]
  exact pk_eq (d % 2) 1 h1 h0
theorem ys_step {post : Int32 → Prop} {w h : Int32} {b rt ch re : Nat → Int32} {p q d : Nat} (hp : p < 196) (hq : q < 196) (hd : d < 9) (h1 : b p = b q → (b p ≠ 0 ∨ d % 2 = 1) → post 1) (h0 : ¬ (b p = b q ∧ (b p ≠ 0 ∨ d % 2 = 1)) → post 0) : wpY_step post (w, h, b, rt, ch, re) (nI p) (nI q) (nI d) := by
  have ip : vp_in (nI p) 196 := vp_in_nI hp (by decide)
  refine ⟨ip, vp_in_nI hq (by decide), ?_⟩
  rw [nI_clamp (Nat.lt_trans hp (by decide)), nI_clamp (Nat.lt_trans hq (by decide))]
  by_cases e : b p = b q
  · refine br_t e ⟨ip, ?_⟩
    by_cases z : b p = 0
    · exact br_t z (yb_way hd (fun o => br_f cl_10 (h1 e (Or.inr o))) (fun o => br_t rfl (h0 fun k => k.2.elim (fun y => y z) o)))
    · exact br_f z (h1 e (Or.inl z))
  · exact br_f e (h0 fun k => e k.1)
/-! roots -/
theorem yr_in {post : Int32 → SY → Prop} {J4 : Int32 → Int32 → (Nat → Int32) → (Nat → Int32) → (Nat → Int32) → (Nat → Int32) → Prop} {i : Nat} {w h : Int32} {b ch re : Nat → Int32} {g0 : Nat → Nat} (hi : i < 196)
    (J : ∀ rt x, cl_S (cl_K1 b) (cl_R1 b) g0 (i + 1) 0 rt x → J4 x (nI (i + 1)) b rt ch re) :
    ∀ (n d : Nat) (rt : Nat → Int32) (x : Int32), d ≤ 9 → 9 < n + d → cl_S (cl_K1 b) (cl_R1 b) g0 i d rt x → wY_spreadRoots_13 post J4 (nI i) w h n x (nI d) b rt ch re := by
  intro n
  induction n with
  | zero => intro d rt x h1 h2; omega
  | succ n ih =>
    intro d rt x h1 h2 hS
    by_cases h9 : d = 9
    · subst h9
      exact br_t (nI_le (a := 9) (b := 9) (by decide) (by decide)) (nm_r (nI_1 i) (J rt x (cl_S_nx hS)))
    · have hd : d < 9 := by omega
      refine br_f (nI_ge (b := 9) hd (by decide)) (cl_ner hi hd (fun q tq => ?_) (fun hn => ?_))
      · refine br_f (nI_pos (Nat.lt_trans tq.1 (by decide))) (ys_step hi tq.1 hd (fun e o => ?_) (fun no => ?_))
        · have iq : vp_in (nI q) 196 := vp_in_nI tq.1 (by decide)
          have ii : vp_in (nI i) 196 := vp_in_nI hi (by decide)
          refine br_f cl_10 ⟨iq, ii, ?_⟩
          rw [nI_clamp (Nat.lt_trans tq.1 (by decide)), nI_clamp (Nat.lt_trans hi (by decide))]
          have k : cl_K1 b i d q 0 := ⟨tq, e, o, rfl⟩
          by_cases le : rt i ≤ rt q
          · exact br_t le (nm_r (nI_1 d) (ih (d + 1) rt x (by omega) (by omega) (cl_S_s1 (cl_KR1 b) hi hS k (by rw [cl_add0]; exact le))))
          · refine br_f le ⟨iq, ii, nm_e (nm_r (nI_1 d) (ih (d + 1) _ 1 (by omega) (by omega) ?_))⟩
            have := cl_S_up (cl_KR1 b) hi hd hS k (by rw [cl_add0]; exact le)
            rw [cl_add0] at this
            exact this
        · exact br_t rfl (nm_r (nI_1 d) (ih (d + 1) rt x (by omega) (by omega) (cl_S_s0 hS (fun q' c k => no (cl_to_un k.1 tq ▸ ⟨k.2.1, k.2.2.1⟩)))))
      · exact br_t cl_m1lt (nm_r (nI_1 d) (ih (d + 1) rt x (by omega) (by omega) (cl_S_s0 hS (fun q' c k => hn q' k.1))))
theorem yr_out {post : Int32 → SY → Prop} {w h : Int32} {b ch re : Nat → Int32} {g0 : Nat → Nat} (H : ∀ rt x, cl_S (cl_K1 b) (cl_R1 b) g0 196 0 rt x → post x (w, h, b, rt, ch, re)) :
    ∀ (n i : Nat) (rt : Nat → Int32) (x : Int32), i ≤ 196 → 196 < n + i → cl_S (cl_K1 b) (cl_R1 b) g0 i 0 rt x → wY_spreadRoots_4 post w h n x (nI i) b rt ch re := by
  intro n
  induction n with
  | zero => intro d rt x h1 h2; omega
  | succ n ih =>
    intro i rt x h1 h2 hS
    by_cases h9 : i = 196
    · subst h9
      refine br_t (nI_le (a := 196) (b := 196) (by decide) (by decide)) ⟨?_, H rt x hS⟩
      obtain ⟨g, a1, a2, a3, a4, a5, a6, a7⟩ := hS
      exact cl_nb a7
    · exact br_f (nI_ge (b := 196) (by omega) (by decide)) ⟨10, yr_in (by omega) (fun rt x hS => ih (i + 1) rt x (by omega) (by omega) hS) 10 0 rt x (by decide) (by decide) hS⟩
theorem yr_rounds {post : SY → Prop} {w h : Int32} {b ch re : Nat → Int32} (H : ∀ rt, (∀ p, p < 196 → rt p = nI (cl_root b p)) → post (w, h, b, rt, ch, re)) :
    ∀ (n r : Nat) (rt : Nat → Int32) (x : Int32), r ≤ 197 → 197 < n + r → cl_G (cl_R1 b) (cl_root b) r x rt → wY_findRoots_26 post n x (nI r) w h b rt ch re := by
  intro n
  induction n with
  | zero => intro d rt x h1 h2; omega
  | succ n ih =>
    intro r rt x h1 h2 hG
    by_cases h9 : r = 197
    · subst h9
      exact br_t (nI_le (a := 197) (b := 197) (by decide) (by decide)) (H rt (cl_G_x hG (Or.inl (Nat.le_refl _))))
    · refine br_f (nI_ge (b := 197) (by omega) (by decide)) ?_
      by_cases hx : x = 0
      · exact br_t hx (H rt (cl_G_x hG (Or.inr hx)))
      · obtain ⟨g, a1, a2, a3⟩ := hG
        refine br_f hx ⟨197, yr_out (g0 := g) (fun rt' x' hS => ?_) 197 0 rt 0 (by decide) (by decide) (cl_S_0 a1 a2)⟩
        exact nm_r (nI_1 r) (ih (r + 1) rt' x' (by omega) (by omega) (cl_G_s (fun p n hp k => cl_root_le k.2.2) (fun i e q c k => k.1.1) (cl_gen1 b) a2 (a3.elim Or.inl (fun z => Or.inr z.2)) hS))
theorem yr_find {post : SY → Prop} {w h : Int32} {b rt0 ch re : Nat → Int32} (H : ∀ rt, (∀ p, p < 196 → rt p = nI (cl_root b p)) → post (w, h, b, rt, ch, re)) : wpY_findRoots post (w, h, b, rt0, ch, re) := by
  refine loop_0 (fun n i (s : Nat → Int32) => wY_findRoots_2 post w h n (nI i) b s ch re) (fun i s => ∀ p, p < i → s p = nI p) 196 rt0 (fun p hp => absurd hp (Nat.not_lt_zero p)) (fun n s hs => ?_) (fun n i s hi hs k => ?_)
  · refine br_t (nI_le (a := 196) (b := 196) (by decide) (by decide)) ⟨198, yr_rounds H 198 0 s 1 (by decide) (by decide) ⟨fun p => p, hs, fun p hp => ⟨hp, Nat.le_refl p, cl_rc_r _ p⟩, Or.inr ⟨by decide, ?_⟩⟩⟩
    exact cl_cnt_lt (P := fun p => p < 196 ∧ p = cl_root b p) (m := 0) (n := 196) (by decide) ⟨by decide, (Nat.le_zero.mp (cl_root_self b 0)).symm⟩
  · refine br_f (nI_ge (b := 196) hi (by decide)) ⟨vp_in_nI hi (by decide), nm_r (congrArg (fun z => upd s z (nI i)) (nI_clamp (Nat.lt_trans hi (by decide)))) (nm_r (nI_1 i) (k _ (fun p hp => ?_)))⟩
    by_cases e : p = i
    · rw [e]; exact pk_us
    · rw [pk_un e]; exact hs p (by omega)
/-! changes -/
theorem yc_84k {post : Int32 → SY → Prop} {J4 J13 : Int32 → Int32 → (Nat → Int32) → (Nat → Int32) → (Nat → Int32) → (Nat → Int32) → Prop} {i d q c : Nat} {w h x : Int32} {b rt ch re : Nat → Int32} {g0 : Nat → Nat} (hi : i < 196) (hd : d < 9) (hq : q < 196)
    (J : ∀ ch x, cl_S (cl_K2 b) (cl_R2 b) g0 i (d + 1) ch x → J13 x (nI (d + 1)) b rt ch re) (hS : cl_S (cl_K2 b) (cl_R2 b) g0 i d ch x) (k : cl_K2 b i d q c) : wY_spreadChanges_84 post J4 J13 x (nI i) (nI d) (nI q) (nI c) w h b rt ch re := by
  have iq : vp_in (nI q) 196 := vp_in_nI hq (by decide)
  have ii : vp_in (nI i) 196 := vp_in_nI hi (by decide)
  refine br_f (nI_pos (Nat.lt_trans hq (by decide))) ⟨iq, ii, ?_⟩
  rw [nI_clamp (Nat.lt_trans hq (by decide)), nI_clamp (Nat.lt_trans hi (by decide))]
  by_cases le : ch i ≤ ch q + nI c
  · exact br_t le (nm_r (nI_1 d) (J ch x (cl_S_s1 (cl_KR2 b) hi hS k le)))
  · exact br_f le ⟨iq, ii, nm_e (nm_r (nI_1 d) (J _ 1 (cl_S_up (cl_KR2 b) hi hd hS k le)))⟩
theorem yc_84n {post : Int32 → SY → Prop} {J4 J13 : Int32 → Int32 → (Nat → Int32) → (Nat → Int32) → (Nat → Int32) → (Nat → Int32) → Prop} {i d q : Nat} {w h x : Int32} {b rt ch re : Nat → Int32} {g0 : Nat → Nat} (hi : i < 196) (hq : q < 196)
    (J : ∀ ch x, cl_S (cl_K2 b) (cl_R2 b) g0 i (d + 1) ch x → J13 x (nI (d + 1)) b rt ch re) (hS : cl_S (cl_K2 b) (cl_R2 b) g0 i d ch x) (n : ∀ q c, ¬ cl_K2 b i d q c) : wY_spreadChanges_84 post J4 J13 x (nI i) (nI d) (nI q) 1000 w h b rt ch re := by
  have iq : vp_in (nI q) 196 := vp_in_nI hq (by decide)
  have ii : vp_in (nI i) 196 := vp_in_nI hi (by decide)
  refine br_f (nI_pos (Nat.lt_trans hq (by decide))) ⟨iq, ii, ?_⟩
  rw [nI_clamp (Nat.lt_trans hq (by decide)), nI_clamp (Nat.lt_trans hi (by decide))]
  have le : ch i ≤ ch q + 1000 := by
    obtain ⟨g, a1, a2, _⟩ := hS
    have b1 := (a2 i hi).1
    have b2 := (a2 q hq).1
    rw [a1 i hi, a1 q hq, show nI (g q) + 1000 = nI (g q + 1000) from nI_add (g q) 1000]
    exact nI_le (by omega) (by omega)
  exact br_t le (nm_r (nI_1 d) (J ch x (cl_S_s0 hS n)))
theorem yc_in {post : Int32 → SY → Prop} {J4 : Int32 → Int32 → (Nat → Int32) → (Nat → Int32) → (Nat → Int32) → (Nat → Int32) → Prop} {i : Nat} {w h : Int32} {b rt re : Nat → Int32} {g0 : Nat → Nat} (hi : i < 196)
    (J : ∀ ch x, cl_S (cl_K2 b) (cl_R2 b) g0 (i + 1) 0 ch x → J4 x (nI (i + 1)) b rt ch re) :
    ∀ (n d : Nat) (ch : Nat → Int32) (x : Int32), d ≤ 9 → 9 < n + d → cl_S (cl_K2 b) (cl_R2 b) g0 i d ch x → wY_spreadChanges_13 post J4 (nI i) w h n x (nI d) b rt ch re := by
  intro n
  induction n with
  | zero => intro d ch x h1 h2; omega
  | succ n ih =>
    intro d ch x h1 h2 hS
    by_cases h9 : d = 9
    · subst h9
      exact br_t (nI_le (a := 9) (b := 9) (by decide) (by decide)) (nm_r (nI_1 i) (J ch x (cl_S_nx hS)))
    · have hd : d < 9 := by omega
      have J13 : ∀ ch x, cl_S (cl_K2 b) (cl_R2 b) g0 i (d + 1) ch x → wY_spreadChanges_13 post J4 (nI i) w h n x (nI (d + 1)) b rt ch re := fun ch x hS => ih (d + 1) ch x (by omega) (by omega) hS
      refine br_f (nI_ge (b := 9) hd (by decide)) (cl_ner hi hd (fun q tq => ?_) (fun hn => ?_))
      · have iq : vp_in (nI q) 196 := vp_in_nI tq.1 (by decide)
        have ii : vp_in (nI i) 196 := vp_in_nI hi (by decide)
        refine br_t (nI_pos' (Nat.lt_trans tq.1 (by decide))) (ys_step hi tq.1 hd (fun e o => ?_) (fun no => ?_))
        · exact br_f cl_10 (yc_84k (c := 0) hi hd tq.1 J13 hS ⟨tq, Or.inl ⟨e, o, rfl⟩⟩)
        · refine br_t rfl ⟨ii, iq, ?_⟩
          rw [nI_clamp (Nat.lt_trans tq.1 (by decide)), nI_clamp (Nat.lt_trans hi (by decide))]
          by_cases e : b i = b q
          · refine br_t e ?_
            unfold wY_spreadChanges_81
            refine yc_84n hi tq.1 J13 hS (fun q' c k => ?_)
            have eq := cl_to_un k.1 tq
            subst eq
            rcases k.2 with z | z
            · exact no ⟨z.1, z.2.1⟩
            · exact z.1 e
          · refine br_f e (yb_way hd (fun o => ?_) (fun o => ?_))
            · exact br_f cl_10 (yc_84k (c := 1) hi hd tq.1 J13 hS ⟨tq, Or.inr ⟨e, o, rfl⟩⟩)
            · refine br_t rfl ?_
              unfold wY_spreadChanges_81
              refine yc_84n hi tq.1 J13 hS (fun q' c k => ?_)
              have eq := cl_to_un k.1 tq
              subst eq
              rcases k.2 with z | z
              · exact e z.1
              · exact o z.2.1
      · refine br_f cl_nm1ge ?_
        exact br_t cl_m1lt (nm_r (nI_1 d) (J13 ch x (cl_S_s0 hS (fun q' c k => hn q' k.1))))
theorem yc_out {post : Int32 → SY → Prop} {w h : Int32} {b rt re : Nat → Int32} {g0 : Nat → Nat} (H : ∀ ch x, cl_S (cl_K2 b) (cl_R2 b) g0 196 0 ch x → post x (w, h, b, rt, ch, re)) :
    ∀ (n i : Nat) (ch : Nat → Int32) (x : Int32), i ≤ 196 → 196 < n + i → cl_S (cl_K2 b) (cl_R2 b) g0 i 0 ch x → wY_spreadChanges_4 post w h n x (nI i) b rt ch re := by
  intro n
  induction n with
  | zero => intro d ch x h1 h2; omega
  | succ n ih =>
    intro i ch x h1 h2 hS
    by_cases h9 : i = 196
    · subst h9
      refine br_t (nI_le (a := 196) (b := 196) (by decide) (by decide)) ⟨?_, H ch x hS⟩
      obtain ⟨g, a1, a2, a3, a4, a5, a6, a7⟩ := hS
      exact cl_nb a7
    · exact br_f (nI_ge (b := 196) (by omega) (by decide)) ⟨10, yc_in (by omega) (fun ch x hS => ih (i + 1) ch x (by omega) (by omega) hS) 10 0 ch x (by decide) (by decide) hS⟩
theorem yc_rounds {post : SY → Prop} {w h : Int32} {b rt re : Nat → Int32} (ok : cl_ok b) (H : ∀ ch, (∀ p, p < 196 → ch p = nI (cl_dep b p)) → post (w, h, b, rt, ch, re)) :
    ∀ (n r : Nat) (ch : Nat → Int32) (x : Int32), r ≤ 197 → 197 < n + r → cl_G (cl_R2 b) (cl_dep b) r x ch → wY_findChanges_36 post n x (nI r) w h b rt ch re := by
  intro n
  induction n with
  | zero => intro d ch x h1 h2; omega
  | succ n ih =>
    intro r ch x h1 h2 hG
    by_cases h9 : r = 197
    · subst h9
      exact br_t (nI_le (a := 197) (b := 197) (by decide) (by decide)) (H ch (cl_G_x hG (Or.inl (Nat.le_refl _))))
    · refine br_f (nI_ge (b := 197) (by omega) (by decide)) ?_
      by_cases hx : x = 0
      · exact br_t hx (H ch (cl_G_x hG (Or.inr hx)))
      · obtain ⟨g, a1, a2, a3⟩ := hG
        refine br_f hx ⟨197, yc_out (g0 := g) (fun ch' x' hS => ?_) 197 0 ch 0 (by decide) (by decide) (cl_S_0 a1 a2)⟩
        exact nm_r (nI_1 r) (ih (r + 1) ch' x' (by omega) (by omega) (cl_G_s (cl_lo2 ok) (fun i e q c k => k.1.1) (cl_gen2 ok) a2 (a3.elim Or.inl (fun z => Or.inr z.2)) hS))
theorem yc_find {post : SY → Prop} {w h : Int32} {b rt ch0 re : Nat → Int32} (ok : cl_ok b) (H : ∀ ch, (∀ p, p < 196 → ch p = nI (cl_dep b p)) → post (w, h, b, rt, ch, re)) : wpY_findChanges post (w, h, b, rt, ch0, re) := by
  refine loop_0 (fun n i (s : Nat → Int32) => wY_findChanges_2 post w h n (nI i) b rt s re) (fun i s => ∀ p, p < i → s p = nI (if p = 0 then 0 else 500)) 196 ch0 (fun p hp => absurd hp (Nat.not_lt_zero p)) (fun n s hs => ?_) (fun n i s hi hs k => ?_)
  · refine br_t (nI_le (a := 196) (b := 196) (by decide) (by decide)) ⟨198, yc_rounds ok H 198 0 s 1 (by decide) (by decide) ⟨fun p => if p = 0 then 0 else 500, hs, fun p hp => ?_, Or.inr ⟨by decide, ?_⟩⟩⟩
    · by_cases z : p = 0
      · subst z
        exact ⟨by decide, Or.inr (cl_W_0 b), fun _ => rfl⟩
      · show cl_R2 b p (if p = 0 then 0 else 500)
        rw [if_neg z]
        exact ⟨by decide, Or.inl rfl, fun y => absurd y z⟩
    · exact cl_cnt_lt (P := fun p => p < 196 ∧ (if p = 0 then 0 else 500) = cl_dep b p) (m := 0) (n := 196) (by decide) ⟨by decide, (cl_dep_0 b).symm⟩
  · have ci : (nI i).toNatClampNeg = i := nI_clamp (Nat.lt_trans hi (by decide))
    refine br_f (nI_ge (b := 196) hi (by decide)) (pk_eq i 0 (fun z => ⟨vp_in_nI hi (by decide), nm_r (congrArg (fun z => upd s z 0) ci) (nm_r (nI_1 i) (k _ (fun p hp => ?_)))⟩) (fun z => ⟨vp_in_nI hi (by decide), nm_r (congrArg (fun z => upd s z 500) ci) (nm_r (nI_1 i) (k _ (fun p hp => ?_)))⟩))
    · by_cases e : p = i
      · rw [e, pk_us, if_pos z]; rfl
      · rw [pk_un e]; exact hs p (by omega)
    · by_cases e : p = i
      · rw [e, pk_us, if_neg z]; rfl
      · rw [pk_un e]; exact hs p (by omega)
/-! reached -/
theorem ye_in {post : Int32 → SY → Prop} {J4 : Int32 → Int32 → (Nat → Int32) → (Nat → Int32) → (Nat → Int32) → (Nat → Int32) → Prop} {i Z : Nat} {w h : Int32} {b rt ch r0 : Nat → Int32} (hi : i < 196) (hZ : Z < 196) (hrt : ∀ p, p < 196 → rt p = nI (cl_root b p))
    (J : ∀ re x, cl_P b Z r0 (i + 1) 1 re x → J4 x (nI (i + 1)) b rt ch re) :
    ∀ (n d : Nat) (re : Nat → Int32) (x : Int32), d ≤ 9 → d % 2 = 1 → 9 < n + d → cl_P b Z r0 i d re x → wY_spreadReached_14 post J4 (nI Z) (nI i) w h n x (nI d) b rt ch re := by
  intro n
  induction n with
  | zero => intro d re x h1 ho h2; omega
  | succ n ih =>
    intro d re x h1 ho h2 hP
    by_cases h9 : d = 9
    · subst h9
      exact br_t (nI_le (a := 9) (b := 9) (by decide) (by decide)) (nm_r (nI_1 i) (J re x (cl_P_nx hP)))
    · have hd : d < 9 := by omega
      have go : (∀ q, cl_to i d q → cl_root b q ≠ Z → r0 i ≠ 0 → re q ≠ 0) → wY_spreadReached_14 post J4 (nI Z) (nI i) w h n x (nI (d + 2)) b rt ch re := fun hn => ih (d + 2) re x (by omega) (by omega) (by omega) (cl_P_sk ho hP hn)
      refine br_f (nI_ge (b := 9) hd (by decide)) (cl_ner hi hd (fun q tq => ?_) (fun hn => ?_))
      · have iq : vp_in (nI q) 196 := vp_in_nI tq.1 (by decide)
        refine br_f (nI_pos (Nat.lt_trans tq.1 (by decide))) ⟨vp_in_nI hi (by decide), ?_⟩
        rw [nI_clamp (Nat.lt_trans tq.1 (by decide)), nI_clamp (Nat.lt_trans hi (by decide))]
        by_cases e : re i = 0
        · exact br_t e (nm_r (nI_add d 2) (go fun q' _ _ z => absurd e (hP.2.1 i hi z)))
        · refine br_f e ⟨iq, ?_⟩
          by_cases e2 : re q = 0
          · refine br_t e2 ⟨iq, ?_⟩
            rw [hrt q tq.1]
            have := cl_root_lt (b := b) tq.1
            refine pk_eq (cl_root b q) Z (fun z => ?_) (fun z => ?_)
            · exact nm_r (nI_add d 2) (go fun q' t' n' _ => absurd (cl_to_un t' tq ▸ z) n')
            · exact ⟨iq, nm_e (nm_r (nI_add d 2) (ih (d + 2) _ 1 (by omega) (by omega) (by omega) (cl_P_up hi hd ho hP tq z e)))⟩
          · exact br_f e2 (nm_r (nI_add d 2) (go fun q' t' _ _ => cl_to_un t' tq ▸ e2))
      · exact br_t cl_m1lt (nm_r (nI_add d 2) (go fun q t _ _ => absurd t (hn q)))
theorem ye_out {post : Int32 → SY → Prop} {Z : Nat} {w h : Int32} {b rt ch r0 : Nat → Int32} (hZ : Z < 196) (hrt : ∀ p, p < 196 → rt p = nI (cl_root b p)) (H : ∀ re x, cl_P b Z r0 196 1 re x → post x (w, h, b, rt, ch, re)) :
    ∀ (n i : Nat) (re : Nat → Int32) (x : Int32), i ≤ 196 → 196 < n + i → cl_P b Z r0 i 1 re x → wY_spreadReached_4 post (nI Z) w h n x (nI i) b rt ch re := by
  intro n
  induction n with
  | zero => intro d re x h1 h2; omega
  | succ n ih =>
    intro i re x h1 h2 hP
    by_cases h9 : i = 196
    · subst h9
      exact br_t (nI_le (a := 196) (b := 196) (by decide) (by decide)) ⟨cl_nb hP.2.2.2.2.2, H re x hP⟩
    · exact br_f (nI_ge (b := 196) (by omega) (by decide)) ⟨10, ye_in (by omega) hZ hrt (fun re x hP => ih (i + 1) re x (by omega) (by omega) hP) 10 1 re x (by decide) (by decide) (by decide) hP⟩
theorem ye_rounds {post : SY → Prop} {Z : Nat} {w h : Int32} {b rt ch : Nat → Int32} (hZ : Z < 196) (hrt : ∀ p, p < 196 → rt p = nI (cl_root b p)) (H : ∀ re, (∀ p, p < 196 → (re p ≠ 0 ↔ cl_rc (cl_av b Z) 0 p)) → post (w, h, b, rt, ch, re)) :
    ∀ (n r : Nat) (re : Nat → Int32) (x : Int32), r ≤ 197 → 197 < n + r → cl_Q b Z r x re → wY_findReached_34 post (nI Z) n x (nI r) w h b rt ch re := by
  intro n
  induction n with
  | zero => intro d re x h1 h2; omega
  | succ n ih =>
    intro r re x h1 h2 hQ
    by_cases h9 : r = 197
    · subst h9
      exact br_t (nI_le (a := 197) (b := 197) (by decide) (by decide)) (H re (cl_Q_x hQ (Or.inl (Nat.le_refl _))))
    · refine br_f (nI_ge (b := 197) (by omega) (by decide)) ?_
      by_cases hx : x = 0
      · exact br_t hx (H re (cl_Q_x hQ (Or.inr hx)))
      · refine br_f hx ⟨197, ye_out (r0 := re) hZ hrt (fun re' x' hP => ?_) 197 0 re 0 (by decide) (by decide) (cl_P_0 hQ.1)⟩
        exact nm_r (nI_1 r) (ih (r + 1) re' x' (by omega) (by omega) (cl_Q_s hQ hP))
theorem ye_find {post : SY → Prop} {Z : Nat} {w h : Int32} {b rt ch re0 : Nat → Int32} (hZ : Z < 196) (hrt : ∀ p, p < 196 → rt p = nI (cl_root b p)) (H : ∀ re, (∀ p, p < 196 → (re p ≠ 0 ↔ cl_rc (cl_av b Z) 0 p)) → post (w, h, b, rt, ch, re)) : wpY_findReached post (w, h, b, rt, ch, re0) (nI Z) := by
  refine loop_0 (fun n i (s : Nat → Int32) => wY_findReached_2 post (nI Z) w h n (nI i) b rt ch s) (fun i s => ∀ p, p < i → (s p ≠ 0 ↔ p = 0)) 196 re0 (fun p hp => absurd hp (Nat.not_lt_zero p)) (fun n s hs => ?_) (fun n i s hi hs k => ?_)
  · refine br_t (nI_le (a := 196) (b := 196) (by decide) (by decide)) ⟨198, ye_rounds hZ hrt H 198 0 s 1 (by decide) (by decide) ⟨fun p hp z => ?_, (hs 0 (by decide)).mpr rfl, Or.inr ⟨by decide, ?_⟩⟩⟩
    · rw [(hs p hp).mp z]; exact cl_rc_r _ 0
    · exact cl_cnt_lt (P := fun p => cl_rc (cl_av b Z) 0 p → s p ≠ 0) (m := 0) (n := 196) (by decide) (fun _ => (hs 0 (by decide)).mpr rfl)
  · have ci : (nI i).toNatClampNeg = i := nI_clamp (Nat.lt_trans hi (by decide))
    refine br_f (nI_ge (b := 196) hi (by decide)) (pk_eq i 0 (fun z => ⟨vp_in_nI hi (by decide), nm_r (congrArg (fun z => upd s z 1) ci) (nm_r (nI_1 i) (k _ (fun p hp => ?_)))⟩) (fun z => ⟨vp_in_nI hi (by decide), nm_r (congrArg (fun z => upd s z 0) ci) (nm_r (nI_1 i) (k _ (fun p hp => ?_)))⟩))
    · by_cases e : p = i
      · rw [e, pk_us]; exact ⟨fun _ => z, fun _ => cl_10⟩
      · rw [pk_un e]; exact hs p (by omega)
    · by_cases e : p = i
      · rw [e, pk_us]; exact ⟨fun y => absurd rfl y, fun y => absurd y z⟩
      · rw [pk_un e]; exact hs p (by omega)
