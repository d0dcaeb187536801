/-! walks of unmarkAll and markPart (written by wip/whole/gen_mark.py) -/
theorem xu_partNumber {post : SX → Prop} {f_width f_height f_componentCount f_regionCount : Int32} {a_blackAt a_componentStart a_regionStart a_partNumber a_depthAt a_outerNeighbour a_queue a_alone a_reached : Nat → Int32} (H : ∀ m : Nat → Int32, (∀ p, p < 196 → m p = -1) → post (f_width, f_height, f_componentCount, f_regionCount, a_blackAt, a_componentStart, a_regionStart, m, a_depthAt, a_outerNeighbour, a_queue, a_alone, a_reached)) : wpX_unmarkAll__partNumber post (f_width, f_height, f_componentCount, f_regionCount, a_blackAt, a_componentStart, a_regionStart, a_partNumber, a_depthAt, a_outerNeighbour, a_queue, a_alone, a_reached) :=
  loop_0 (fun n i (s : Nat → Int32) => wX_unmarkAll__partNumber_2 post f_width f_height f_componentCount f_regionCount n (nI i) a_blackAt a_componentStart a_regionStart s a_depthAt a_outerNeighbour a_queue a_alone a_reached) (fun i s => ∀ p, p < i → s p = -1) 196 a_partNumber (fun p hp => absurd hp (Nat.not_lt_zero p))
    (fun n s h => br_t (nI_le (a := 196) (b := 196) (by decide) (by decide)) (H s h))
    (fun n i s hi h k => br_f (nI_ge (b := 196) hi (by decide)) ⟨vp_in_nI hi (by decide), nm_r (congrArg (fun z => upd s z (-1)) (nI_clamp (Nat.lt_trans hi (by decide)))) (nm_r (nI_1 i) (k _ (fun p hp => by
      by_cases e : p = i
      · rw [e]; exact pk_us
      · rw [pk_un e]; exact h p (by omega))))⟩)
theorem xu_depthAt {post : SX → Prop} {f_width f_height f_componentCount f_regionCount : Int32} {a_blackAt a_componentStart a_regionStart a_partNumber a_depthAt a_outerNeighbour a_queue a_alone a_reached : Nat → Int32} (H : ∀ m : Nat → Int32, (∀ p, p < 196 → m p = -1) → post (f_width, f_height, f_componentCount, f_regionCount, a_blackAt, a_componentStart, a_regionStart, a_partNumber, m, a_outerNeighbour, a_queue, a_alone, a_reached)) : wpX_unmarkAll__depthAt post (f_width, f_height, f_componentCount, f_regionCount, a_blackAt, a_componentStart, a_regionStart, a_partNumber, a_depthAt, a_outerNeighbour, a_queue, a_alone, a_reached) :=
  loop_0 (fun n i (s : Nat → Int32) => wX_unmarkAll__depthAt_2 post f_width f_height f_componentCount f_regionCount n (nI i) a_blackAt a_componentStart a_regionStart a_partNumber s a_outerNeighbour a_queue a_alone a_reached) (fun i s => ∀ p, p < i → s p = -1) 196 a_depthAt (fun p hp => absurd hp (Nat.not_lt_zero p))
    (fun n s h => br_t (nI_le (a := 196) (b := 196) (by decide) (by decide)) (H s h))
    (fun n i s hi h k => br_f (nI_ge (b := 196) hi (by decide)) ⟨vp_in_nI hi (by decide), nm_r (congrArg (fun z => upd s z (-1)) (nI_clamp (Nat.lt_trans hi (by decide)))) (nm_r (nI_1 i) (k _ (fun p hp => by
      by_cases e : p = i
      · rw [e]; exact pk_us
      · rw [pk_un e]; exact h p (by omega))))⟩)
theorem xu_outerNeighbour {post : SX → Prop} {f_width f_height f_componentCount f_regionCount : Int32} {a_blackAt a_componentStart a_regionStart a_partNumber a_depthAt a_outerNeighbour a_queue a_alone a_reached : Nat → Int32} (H : ∀ m : Nat → Int32, (∀ p, p < 196 → m p = -1) → post (f_width, f_height, f_componentCount, f_regionCount, a_blackAt, a_componentStart, a_regionStart, a_partNumber, a_depthAt, m, a_queue, a_alone, a_reached)) : wpX_unmarkAll__outerNeighbour post (f_width, f_height, f_componentCount, f_regionCount, a_blackAt, a_componentStart, a_regionStart, a_partNumber, a_depthAt, a_outerNeighbour, a_queue, a_alone, a_reached) :=
  loop_0 (fun n i (s : Nat → Int32) => wX_unmarkAll__outerNeighbour_2 post f_width f_height f_componentCount f_regionCount n (nI i) a_blackAt a_componentStart a_regionStart a_partNumber a_depthAt s a_queue a_alone a_reached) (fun i s => ∀ p, p < i → s p = -1) 196 a_outerNeighbour (fun p hp => absurd hp (Nat.not_lt_zero p))
    (fun n s h => br_t (nI_le (a := 196) (b := 196) (by decide) (by decide)) (H s h))
    (fun n i s hi h k => br_f (nI_ge (b := 196) hi (by decide)) ⟨vp_in_nI hi (by decide), nm_r (congrArg (fun z => upd s z (-1)) (nI_clamp (Nat.lt_trans hi (by decide)))) (nm_r (nI_1 i) (k _ (fun p hp => by
      by_cases e : p = i
      · rw [e]; exact pk_us
      · rw [pk_un e]; exact h p (by omega))))⟩)
theorem xu_reached {post : SX → Prop} {f_width f_height f_componentCount f_regionCount : Int32} {a_blackAt a_componentStart a_regionStart a_partNumber a_depthAt a_outerNeighbour a_queue a_alone a_reached : Nat → Int32} (H : ∀ m : Nat → Int32, (∀ p, p < 196 → m p = -1) → post (f_width, f_height, f_componentCount, f_regionCount, a_blackAt, a_componentStart, a_regionStart, a_partNumber, a_depthAt, a_outerNeighbour, a_queue, a_alone, m)) : wpX_unmarkAll__reached post (f_width, f_height, f_componentCount, f_regionCount, a_blackAt, a_componentStart, a_regionStart, a_partNumber, a_depthAt, a_outerNeighbour, a_queue, a_alone, a_reached) :=
  loop_0 (fun n i (s : Nat → Int32) => wX_unmarkAll__reached_2 post f_width f_height f_componentCount f_regionCount n (nI i) a_blackAt a_componentStart a_regionStart a_partNumber a_depthAt a_outerNeighbour a_queue a_alone s) (fun i s => ∀ p, p < i → s p = -1) 196 a_reached (fun p hp => absurd hp (Nat.not_lt_zero p))
    (fun n s h => br_t (nI_le (a := 196) (b := 196) (by decide) (by decide)) (H s h))
    (fun n i s hi h k => br_f (nI_ge (b := 196) hi (by decide)) ⟨vp_in_nI hi (by decide), nm_r (congrArg (fun z => upd s z (-1)) (nI_clamp (Nat.lt_trans hi (by decide)))) (nm_r (nI_1 i) (k _ (fun p hp => by
      by_cases e : p = i
      · rw [e]; exact pk_us
      · rw [pk_un e]; exact h p (by omega))))⟩)
theorem xi_blackAt_partNumber {post : SX → Prop} {J18 : Int32 → Int32 → (Nat → Int32) → (Nat → Int32) → (Nat → Int32) → (Nat → Int32) → (Nat → Int32) → (Nat → Int32) → (Nat → Int32) → (Nat → Int32) → (Nat → Int32) → Prop} {k : Int32} {s t p sd : Nat} {f_width f_height f_componentCount f_regionCount : Int32} {a_blackAt a_componentStart a_regionStart a_partNumber a_depthAt a_outerNeighbour a_alone a_reached : Nat → Int32} (hs : s < 196) (hp : p < 196) (hk : k ≠ -1) (hm : ∀ p, cl_rc (cl_st a_blackAt) s p → a_partNumber p = -1)
    (J : ∀ Q m q, cl_B a_blackAt a_partNumber s k Q (t + 1) m q → J18 (nI Q) (nI (t + 1)) a_blackAt a_componentStart a_regionStart m a_depthAt a_outerNeighbour q a_alone a_reached) :
    ∀ (n w Q : Nat) (m q : Nat → Int32), w ≤ 9 → 9 < n + w → (sd = 1 ∧ a_blackAt p ≠ 0) ∨ (sd = 2 ∧ a_blackAt p = 0 ∧ w % 2 = 1) → cl_Bi a_blackAt a_partNumber s k Q t m q p w → wX_markPart__blackAt_partNumber_74 post J18 k (nI t) (nI p) (nI sd) f_width f_height f_componentCount f_regionCount n (nI Q) (nI w) a_blackAt a_componentStart a_regionStart m a_depthAt a_outerNeighbour q a_alone a_reached := by
  intro n
  induction n with
  | zero => intro w Q m q h1 h2; omega
  | succ n ih =>
    intro w Q m q h1 h2 hsd hB
    have hQ := cl_Bi_Q hB
    by_cases h9 : w = 9
    · subst h9
      exact br_t (nI_le (a := 9) (b := 9) (by decide) (by decide)) (nm_r (nI_1 t) (J Q m q (cl_B_lv hB)))
    · have hw : w < 9 := by omega
      have cp : (nI p).toNatClampNeg = p := nI_clamp (Nat.lt_trans hp (by decide))
      have hw' : ∀ d, d < w + sd → (a_blackAt p ≠ 0 ∨ d % 2 = 1) → d < w ∨ d = w := fun d hd o => by
        rcases hsd with ⟨e, _⟩ | ⟨e, z, y⟩
        · omega
        · have := o.resolve_left (fun n => n z)
          omega
      have ow : a_blackAt p ≠ 0 ∨ w % 2 = 1 := hsd.elim (fun z => Or.inl z.2) (fun z => Or.inr z.2.2)
      have hsd' : (sd = 1 ∧ a_blackAt p ≠ 0) ∨ (sd = 2 ∧ a_blackAt p = 0 ∧ (w + sd) % 2 = 1) := by
        rcases hsd with z | ⟨e, z, y⟩
        · exact Or.inl z
        · exact Or.inr ⟨e, z, by omega⟩
      have hl : w + sd ≤ 9 := by
        rcases hsd with ⟨e, _⟩ | ⟨e, _, y⟩ <;> omega
      have hf : 9 < n + (w + sd) := by
        rcases hsd with ⟨e, _⟩ | ⟨e, _, y⟩ <;> omega
      have go : (∀ v, cl_to p w v → m v = -1 → a_blackAt v = a_blackAt p → False) → wX_markPart__blackAt_partNumber_74 post J18 k (nI t) (nI p) (nI sd) f_width f_height f_componentCount f_regionCount n (nI Q) (nI (w + sd)) a_blackAt a_componentStart a_regionStart m a_depthAt a_outerNeighbour q a_alone a_reached := fun hn =>
        ih (w + sd) Q m q hl hf hsd' (cl_B_sk hs hw hm hB hw' hn)
      refine br_f (nI_ge (b := 9) hw (by decide)) (cl_ptw hp hw (fun v tv => ?_) (fun hn => ?_))
      · have cv : (nI v).toNatClampNeg = v := nI_clamp (Nat.lt_trans tv.1 (by decide))
        have iv : vp_in (nI v) 196 := vp_in_nI tv.1 (by decide)
        refine br_f (cl_nm1 (Nat.lt_trans tv.1 (by decide))) ⟨iv, ?_⟩
        rw [cv, cp]
        by_cases mv : m v = -1
        · refine br_t mv ⟨iv, vp_in_nI hp (by decide), ?_⟩
          by_cases bv : a_blackAt v = a_blackAt p
          · obtain ⟨hQ2, hB2⟩ := cl_B_ad hs hw hk hB hw' ow tv mv bv
            refine br_t bv (br_f (nI_ge (b := 196) hQ2 (by decide)) ⟨iv, nm_e ⟨vp_in_nI hQ2 (by decide), ?_⟩⟩)
            rw [nI_clamp (Nat.lt_trans hQ2 (by decide))]
            exact nm_e (nm_r (nI_1 Q) (nm_r (nI_add w sd) (ih (w + sd) (Q + 1) (upd m v k) (upd q Q (nI v)) hl hf hsd' hB2)))
          · exact br_f bv (nm_r (nI_add w sd) (go fun v' tv' _ bv' => bv (cl_to_un tv' tv ▸ bv')))
        · exact br_f mv (nm_r (nI_add w sd) (go fun v' tv' mv' _ => mv (cl_to_un tv' tv ▸ mv')))
      · exact br_t rfl (nm_r (nI_add w sd) (go fun v tv _ _ => hn v tv))
theorem xo_blackAt_partNumber {post : SX → Prop} {k : Int32} {s : Nat} {f_width f_height f_componentCount f_regionCount : Int32} {a_blackAt a_componentStart a_regionStart a_partNumber a_depthAt a_outerNeighbour a_alone a_reached : Nat → Int32} (hs : s < 196) (hk : k ≠ -1) (hm : ∀ p, cl_rc (cl_st a_blackAt) s p → a_partNumber p = -1)
    (H : ∀ m q : Nat → Int32, (∀ p, cl_rc (cl_st a_blackAt) s p → m p = k) → (∀ p, ¬ cl_rc (cl_st a_blackAt) s p → m p = a_partNumber p) → post (f_width, f_height, f_componentCount, f_regionCount, a_blackAt, a_componentStart, a_regionStart, m, a_depthAt, a_outerNeighbour, q, a_alone, a_reached)) :
    ∀ (n t Q : Nat) (m q : Nat → Int32), t ≤ 196 → 196 < n + t → cl_B a_blackAt a_partNumber s k Q t m q → wX_markPart__blackAt_partNumber_18 post k f_width f_height f_componentCount f_regionCount n (nI Q) (nI t) a_blackAt a_componentStart a_regionStart m a_depthAt a_outerNeighbour q a_alone a_reached := by
  intro n
  induction n with
  | zero => intro t Q m q h1 h2; omega
  | succ n ih =>
    intro t Q m q h1 h2 hB
    have hQ := cl_B_Q hB
    refine pk_le Q t (fun h => ?_) (fun h => ?_)
    · obtain ⟨a, c⟩ := cl_B_x hB h
      exact H m q a c
    · refine br_f (nI_ge (b := 196) (by omega) (by decide)) ⟨vp_in_nI (by omega) (by decide), ?_⟩
      obtain ⟨p, hp, hq, B1, B0⟩ := cl_B_e hs hB h
      rw [nI_clamp (by omega)]
      refine nm_r hq ⟨vp_in_nI hp (by decide), ?_⟩
      have cp : (nI p).toNatClampNeg = p := nI_clamp (Nat.lt_trans hp (by decide))
      have nx : ∀ Q m q, cl_B a_blackAt a_partNumber s k Q (t + 1) m q → wX_markPart__blackAt_partNumber_18 post k f_width f_height f_componentCount f_regionCount n (nI Q) (nI (t + 1)) a_blackAt a_componentStart a_regionStart m a_depthAt a_outerNeighbour q a_alone a_reached := fun Q m q hB => ih (t + 1) Q m q (by omega) (by omega) hB
      rw [cp]
      by_cases hb : a_blackAt p = 0
      · refine br_t hb ?_
        unfold wX_markPart__blackAt_partNumber_54
        rw [cp]
        exact ⟨vp_in_nI hp (by decide), br_t hb ⟨10, xi_blackAt_partNumber (sd := 2) hs hp hk hm nx 10 1 Q m q (by decide) (by decide) (Or.inr ⟨rfl, hb, rfl⟩) (B0 hb)⟩⟩
      · refine br_f hb ?_
        unfold wX_markPart__blackAt_partNumber_54
        rw [cp]
        exact ⟨vp_in_nI hp (by decide), br_f hb ⟨10, xi_blackAt_partNumber (sd := 1) hs hp hk hm nx 10 0 Q m q (by decide) (by decide) (Or.inl ⟨rfl, hb⟩) (B1 hb)⟩⟩
theorem xm_blackAt_partNumber {post : SX → Prop} {k : Int32} {s : Nat} {f_width f_height f_componentCount f_regionCount : Int32} {a_blackAt a_componentStart a_regionStart a_partNumber a_depthAt a_outerNeighbour a_queue a_alone a_reached : Nat → Int32} (hs : s < 196) (hk : k ≠ -1) (hm : ∀ p, cl_rc (cl_st a_blackAt) s p → a_partNumber p = -1)
    (H : ∀ m q : Nat → Int32, (∀ p, cl_rc (cl_st a_blackAt) s p → m p = k) → (∀ p, ¬ cl_rc (cl_st a_blackAt) s p → m p = a_partNumber p) → post (f_width, f_height, f_componentCount, f_regionCount, a_blackAt, a_componentStart, a_regionStart, m, a_depthAt, a_outerNeighbour, q, a_alone, a_reached)) :
    wpX_markPart__blackAt_partNumber post (f_width, f_height, f_componentCount, f_regionCount, a_blackAt, a_componentStart, a_regionStart, a_partNumber, a_depthAt, a_outerNeighbour, a_queue, a_alone, a_reached) (nI s) k := by
  refine ⟨vp_in_nI hs (by decide), ?_⟩
  rw [nI_clamp (Nat.lt_trans hs (by decide))]
  exact nm_e (nm_e ⟨197, xo_blackAt_partNumber hs hk hm H 197 0 1 _ _ (by decide) (by decide) (cl_B_0 hs)⟩)
theorem xi_blackAt_depthAt {post : SX → Prop} {J18 : Int32 → Int32 → (Nat → Int32) → (Nat → Int32) → (Nat → Int32) → (Nat → Int32) → (Nat → Int32) → (Nat → Int32) → (Nat → Int32) → (Nat → Int32) → (Nat → Int32) → Prop} {k : Int32} {s t p sd : Nat} {f_width f_height f_componentCount f_regionCount : Int32} {a_blackAt a_componentStart a_regionStart a_partNumber a_depthAt a_outerNeighbour a_alone a_reached : Nat → Int32} (hs : s < 196) (hp : p < 196) (hk : k ≠ -1) (hm : ∀ p, cl_rc (cl_st a_blackAt) s p → a_depthAt p = -1)
    (J : ∀ Q m q, cl_B a_blackAt a_depthAt s k Q (t + 1) m q → J18 (nI Q) (nI (t + 1)) a_blackAt a_componentStart a_regionStart a_partNumber m a_outerNeighbour q a_alone a_reached) :
    ∀ (n w Q : Nat) (m q : Nat → Int32), w ≤ 9 → 9 < n + w → (sd = 1 ∧ a_blackAt p ≠ 0) ∨ (sd = 2 ∧ a_blackAt p = 0 ∧ w % 2 = 1) → cl_Bi a_blackAt a_depthAt s k Q t m q p w → wX_markPart__blackAt_depthAt_74 post J18 k (nI t) (nI p) (nI sd) f_width f_height f_componentCount f_regionCount n (nI Q) (nI w) a_blackAt a_componentStart a_regionStart a_partNumber m a_outerNeighbour q a_alone a_reached := by
  intro n
  induction n with
  | zero => intro w Q m q h1 h2; omega
  | succ n ih =>
    intro w Q m q h1 h2 hsd hB
    have hQ := cl_Bi_Q hB
    by_cases h9 : w = 9
    · subst h9
      exact br_t (nI_le (a := 9) (b := 9) (by decide) (by decide)) (nm_r (nI_1 t) (J Q m q (cl_B_lv hB)))
    · have hw : w < 9 := by omega
      have cp : (nI p).toNatClampNeg = p := nI_clamp (Nat.lt_trans hp (by decide))
      have hw' : ∀ d, d < w + sd → (a_blackAt p ≠ 0 ∨ d % 2 = 1) → d < w ∨ d = w := fun d hd o => by
        rcases hsd with ⟨e, _⟩ | ⟨e, z, y⟩
        · omega
        · have := o.resolve_left (fun n => n z)
          omega
      have ow : a_blackAt p ≠ 0 ∨ w % 2 = 1 := hsd.elim (fun z => Or.inl z.2) (fun z => Or.inr z.2.2)
      have hsd' : (sd = 1 ∧ a_blackAt p ≠ 0) ∨ (sd = 2 ∧ a_blackAt p = 0 ∧ (w + sd) % 2 = 1) := by
        rcases hsd with z | ⟨e, z, y⟩
        · exact Or.inl z
        · exact Or.inr ⟨e, z, by omega⟩
      have hl : w + sd ≤ 9 := by
        rcases hsd with ⟨e, _⟩ | ⟨e, _, y⟩ <;> omega
      have hf : 9 < n + (w + sd) := by
        rcases hsd with ⟨e, _⟩ | ⟨e, _, y⟩ <;> omega
      have go : (∀ v, cl_to p w v → m v = -1 → a_blackAt v = a_blackAt p → False) → wX_markPart__blackAt_depthAt_74 post J18 k (nI t) (nI p) (nI sd) f_width f_height f_componentCount f_regionCount n (nI Q) (nI (w + sd)) a_blackAt a_componentStart a_regionStart a_partNumber m a_outerNeighbour q a_alone a_reached := fun hn =>
        ih (w + sd) Q m q hl hf hsd' (cl_B_sk hs hw hm hB hw' hn)
      refine br_f (nI_ge (b := 9) hw (by decide)) (cl_ptw hp hw (fun v tv => ?_) (fun hn => ?_))
      · have cv : (nI v).toNatClampNeg = v := nI_clamp (Nat.lt_trans tv.1 (by decide))
        have iv : vp_in (nI v) 196 := vp_in_nI tv.1 (by decide)
        refine br_f (cl_nm1 (Nat.lt_trans tv.1 (by decide))) ⟨iv, ?_⟩
        rw [cv, cp]
        by_cases mv : m v = -1
        · refine br_t mv ⟨iv, vp_in_nI hp (by decide), ?_⟩
          by_cases bv : a_blackAt v = a_blackAt p
          · obtain ⟨hQ2, hB2⟩ := cl_B_ad hs hw hk hB hw' ow tv mv bv
            refine br_t bv (br_f (nI_ge (b := 196) hQ2 (by decide)) ⟨iv, nm_e ⟨vp_in_nI hQ2 (by decide), ?_⟩⟩)
            rw [nI_clamp (Nat.lt_trans hQ2 (by decide))]
            exact nm_e (nm_r (nI_1 Q) (nm_r (nI_add w sd) (ih (w + sd) (Q + 1) (upd m v k) (upd q Q (nI v)) hl hf hsd' hB2)))
          · exact br_f bv (nm_r (nI_add w sd) (go fun v' tv' _ bv' => bv (cl_to_un tv' tv ▸ bv')))
        · exact br_f mv (nm_r (nI_add w sd) (go fun v' tv' mv' _ => mv (cl_to_un tv' tv ▸ mv')))
      · exact br_t rfl (nm_r (nI_add w sd) (go fun v tv _ _ => hn v tv))
theorem xo_blackAt_depthAt {post : SX → Prop} {k : Int32} {s : Nat} {f_width f_height f_componentCount f_regionCount : Int32} {a_blackAt a_componentStart a_regionStart a_partNumber a_depthAt a_outerNeighbour a_alone a_reached : Nat → Int32} (hs : s < 196) (hk : k ≠ -1) (hm : ∀ p, cl_rc (cl_st a_blackAt) s p → a_depthAt p = -1)
    (H : ∀ m q : Nat → Int32, (∀ p, cl_rc (cl_st a_blackAt) s p → m p = k) → (∀ p, ¬ cl_rc (cl_st a_blackAt) s p → m p = a_depthAt p) → post (f_width, f_height, f_componentCount, f_regionCount, a_blackAt, a_componentStart, a_regionStart, a_partNumber, m, a_outerNeighbour, q, a_alone, a_reached)) :
    ∀ (n t Q : Nat) (m q : Nat → Int32), t ≤ 196 → 196 < n + t → cl_B a_blackAt a_depthAt s k Q t m q → wX_markPart__blackAt_depthAt_18 post k f_width f_height f_componentCount f_regionCount n (nI Q) (nI t) a_blackAt a_componentStart a_regionStart a_partNumber m a_outerNeighbour q a_alone a_reached := by
  intro n
  induction n with
  | zero => intro t Q m q h1 h2; omega
  | succ n ih =>
    intro t Q m q h1 h2 hB
    have hQ := cl_B_Q hB
    refine pk_le Q t (fun h => ?_) (fun h => ?_)
    · obtain ⟨a, c⟩ := cl_B_x hB h
      exact H m q a c
    · refine br_f (nI_ge (b := 196) (by omega) (by decide)) ⟨vp_in_nI (by omega) (by decide), ?_⟩
      obtain ⟨p, hp, hq, B1, B0⟩ := cl_B_e hs hB h
      rw [nI_clamp (by omega)]
      refine nm_r hq ⟨vp_in_nI hp (by decide), ?_⟩
      have cp : (nI p).toNatClampNeg = p := nI_clamp (Nat.lt_trans hp (by decide))
      have nx : ∀ Q m q, cl_B a_blackAt a_depthAt s k Q (t + 1) m q → wX_markPart__blackAt_depthAt_18 post k f_width f_height f_componentCount f_regionCount n (nI Q) (nI (t + 1)) a_blackAt a_componentStart a_regionStart a_partNumber m a_outerNeighbour q a_alone a_reached := fun Q m q hB => ih (t + 1) Q m q (by omega) (by omega) hB
      rw [cp]
      by_cases hb : a_blackAt p = 0
      · refine br_t hb ?_
        unfold wX_markPart__blackAt_depthAt_54
        rw [cp]
        exact ⟨vp_in_nI hp (by decide), br_t hb ⟨10, xi_blackAt_depthAt (sd := 2) hs hp hk hm nx 10 1 Q m q (by decide) (by decide) (Or.inr ⟨rfl, hb, rfl⟩) (B0 hb)⟩⟩
      · refine br_f hb ?_
        unfold wX_markPart__blackAt_depthAt_54
        rw [cp]
        exact ⟨vp_in_nI hp (by decide), br_f hb ⟨10, xi_blackAt_depthAt (sd := 1) hs hp hk hm nx 10 0 Q m q (by decide) (by decide) (Or.inl ⟨rfl, hb⟩) (B1 hb)⟩⟩
theorem xm_blackAt_depthAt {post : SX → Prop} {k : Int32} {s : Nat} {f_width f_height f_componentCount f_regionCount : Int32} {a_blackAt a_componentStart a_regionStart a_partNumber a_depthAt a_outerNeighbour a_queue a_alone a_reached : Nat → Int32} (hs : s < 196) (hk : k ≠ -1) (hm : ∀ p, cl_rc (cl_st a_blackAt) s p → a_depthAt p = -1)
    (H : ∀ m q : Nat → Int32, (∀ p, cl_rc (cl_st a_blackAt) s p → m p = k) → (∀ p, ¬ cl_rc (cl_st a_blackAt) s p → m p = a_depthAt p) → post (f_width, f_height, f_componentCount, f_regionCount, a_blackAt, a_componentStart, a_regionStart, a_partNumber, m, a_outerNeighbour, q, a_alone, a_reached)) :
    wpX_markPart__blackAt_depthAt post (f_width, f_height, f_componentCount, f_regionCount, a_blackAt, a_componentStart, a_regionStart, a_partNumber, a_depthAt, a_outerNeighbour, a_queue, a_alone, a_reached) (nI s) k := by
  refine ⟨vp_in_nI hs (by decide), ?_⟩
  rw [nI_clamp (Nat.lt_trans hs (by decide))]
  exact nm_e (nm_e ⟨197, xo_blackAt_depthAt hs hk hm H 197 0 1 _ _ (by decide) (by decide) (cl_B_0 hs)⟩)
theorem xi_blackAt_outerNeighbour {post : SX → Prop} {J18 : Int32 → Int32 → (Nat → Int32) → (Nat → Int32) → (Nat → Int32) → (Nat → Int32) → (Nat → Int32) → (Nat → Int32) → (Nat → Int32) → (Nat → Int32) → (Nat → Int32) → Prop} {k : Int32} {s t p sd : Nat} {f_width f_height f_componentCount f_regionCount : Int32} {a_blackAt a_componentStart a_regionStart a_partNumber a_depthAt a_outerNeighbour a_alone a_reached : Nat → Int32} (hs : s < 196) (hp : p < 196) (hk : k ≠ -1) (hm : ∀ p, cl_rc (cl_st a_blackAt) s p → a_outerNeighbour p = -1)
    (J : ∀ Q m q, cl_B a_blackAt a_outerNeighbour s k Q (t + 1) m q → J18 (nI Q) (nI (t + 1)) a_blackAt a_componentStart a_regionStart a_partNumber a_depthAt m q a_alone a_reached) :
    ∀ (n w Q : Nat) (m q : Nat → Int32), w ≤ 9 → 9 < n + w → (sd = 1 ∧ a_blackAt p ≠ 0) ∨ (sd = 2 ∧ a_blackAt p = 0 ∧ w % 2 = 1) → cl_Bi a_blackAt a_outerNeighbour s k Q t m q p w → wX_markPart__blackAt_outerNeighbour_74 post J18 k (nI t) (nI p) (nI sd) f_width f_height f_componentCount f_regionCount n (nI Q) (nI w) a_blackAt a_componentStart a_regionStart a_partNumber a_depthAt m q a_alone a_reached := by
  intro n
  induction n with
  | zero => intro w Q m q h1 h2; omega
  | succ n ih =>
    intro w Q m q h1 h2 hsd hB
    have hQ := cl_Bi_Q hB
    by_cases h9 : w = 9
    · subst h9
      exact br_t (nI_le (a := 9) (b := 9) (by decide) (by decide)) (nm_r (nI_1 t) (J Q m q (cl_B_lv hB)))
    · have hw : w < 9 := by omega
      have cp : (nI p).toNatClampNeg = p := nI_clamp (Nat.lt_trans hp (by decide))
      have hw' : ∀ d, d < w + sd → (a_blackAt p ≠ 0 ∨ d % 2 = 1) → d < w ∨ d = w := fun d hd o => by
        rcases hsd with ⟨e, _⟩ | ⟨e, z, y⟩
        · omega
        · have := o.resolve_left (fun n => n z)
          omega
      have ow : a_blackAt p ≠ 0 ∨ w % 2 = 1 := hsd.elim (fun z => Or.inl z.2) (fun z => Or.inr z.2.2)
      have hsd' : (sd = 1 ∧ a_blackAt p ≠ 0) ∨ (sd = 2 ∧ a_blackAt p = 0 ∧ (w + sd) % 2 = 1) := by
        rcases hsd with z | ⟨e, z, y⟩
        · exact Or.inl z
        · exact Or.inr ⟨e, z, by omega⟩
      have hl : w + sd ≤ 9 := by
        rcases hsd with ⟨e, _⟩ | ⟨e, _, y⟩ <;> omega
      have hf : 9 < n + (w + sd) := by
        rcases hsd with ⟨e, _⟩ | ⟨e, _, y⟩ <;> omega
      have go : (∀ v, cl_to p w v → m v = -1 → a_blackAt v = a_blackAt p → False) → wX_markPart__blackAt_outerNeighbour_74 post J18 k (nI t) (nI p) (nI sd) f_width f_height f_componentCount f_regionCount n (nI Q) (nI (w + sd)) a_blackAt a_componentStart a_regionStart a_partNumber a_depthAt m q a_alone a_reached := fun hn =>
        ih (w + sd) Q m q hl hf hsd' (cl_B_sk hs hw hm hB hw' hn)
      refine br_f (nI_ge (b := 9) hw (by decide)) (cl_ptw hp hw (fun v tv => ?_) (fun hn => ?_))
      · have cv : (nI v).toNatClampNeg = v := nI_clamp (Nat.lt_trans tv.1 (by decide))
        have iv : vp_in (nI v) 196 := vp_in_nI tv.1 (by decide)
        refine br_f (cl_nm1 (Nat.lt_trans tv.1 (by decide))) ⟨iv, ?_⟩
        rw [cv, cp]
        by_cases mv : m v = -1
        · refine br_t mv ⟨iv, vp_in_nI hp (by decide), ?_⟩
          by_cases bv : a_blackAt v = a_blackAt p
          · obtain ⟨hQ2, hB2⟩ := cl_B_ad hs hw hk hB hw' ow tv mv bv
            refine br_t bv (br_f (nI_ge (b := 196) hQ2 (by decide)) ⟨iv, nm_e ⟨vp_in_nI hQ2 (by decide), ?_⟩⟩)
            rw [nI_clamp (Nat.lt_trans hQ2 (by decide))]
            exact nm_e (nm_r (nI_1 Q) (nm_r (nI_add w sd) (ih (w + sd) (Q + 1) (upd m v k) (upd q Q (nI v)) hl hf hsd' hB2)))
          · exact br_f bv (nm_r (nI_add w sd) (go fun v' tv' _ bv' => bv (cl_to_un tv' tv ▸ bv')))
        · exact br_f mv (nm_r (nI_add w sd) (go fun v' tv' mv' _ => mv (cl_to_un tv' tv ▸ mv')))
      · exact br_t rfl (nm_r (nI_add w sd) (go fun v tv _ _ => hn v tv))
theorem xo_blackAt_outerNeighbour {post : SX → Prop} {k : Int32} {s : Nat} {f_width f_height f_componentCount f_regionCount : Int32} {a_blackAt a_componentStart a_regionStart a_partNumber a_depthAt a_outerNeighbour a_alone a_reached : Nat → Int32} (hs : s < 196) (hk : k ≠ -1) (hm : ∀ p, cl_rc (cl_st a_blackAt) s p → a_outerNeighbour p = -1)
    (H : ∀ m q : Nat → Int32, (∀ p, cl_rc (cl_st a_blackAt) s p → m p = k) → (∀ p, ¬ cl_rc (cl_st a_blackAt) s p → m p = a_outerNeighbour p) → post (f_width, f_height, f_componentCount, f_regionCount, a_blackAt, a_componentStart, a_regionStart, a_partNumber, a_depthAt, m, q, a_alone, a_reached)) :
    ∀ (n t Q : Nat) (m q : Nat → Int32), t ≤ 196 → 196 < n + t → cl_B a_blackAt a_outerNeighbour s k Q t m q → wX_markPart__blackAt_outerNeighbour_18 post k f_width f_height f_componentCount f_regionCount n (nI Q) (nI t) a_blackAt a_componentStart a_regionStart a_partNumber a_depthAt m q a_alone a_reached := by
  intro n
  induction n with
  | zero => intro t Q m q h1 h2; omega
  | succ n ih =>
    intro t Q m q h1 h2 hB
    have hQ := cl_B_Q hB
    refine pk_le Q t (fun h => ?_) (fun h => ?_)
    · obtain ⟨a, c⟩ := cl_B_x hB h
      exact H m q a c
    · refine br_f (nI_ge (b := 196) (by omega) (by decide)) ⟨vp_in_nI (by omega) (by decide), ?_⟩
      obtain ⟨p, hp, hq, B1, B0⟩ := cl_B_e hs hB h
      rw [nI_clamp (by omega)]
      refine nm_r hq ⟨vp_in_nI hp (by decide), ?_⟩
      have cp : (nI p).toNatClampNeg = p := nI_clamp (Nat.lt_trans hp (by decide))
      have nx : ∀ Q m q, cl_B a_blackAt a_outerNeighbour s k Q (t + 1) m q → wX_markPart__blackAt_outerNeighbour_18 post k f_width f_height f_componentCount f_regionCount n (nI Q) (nI (t + 1)) a_blackAt a_componentStart a_regionStart a_partNumber a_depthAt m q a_alone a_reached := fun Q m q hB => ih (t + 1) Q m q (by omega) (by omega) hB
      rw [cp]
      by_cases hb : a_blackAt p = 0
      · refine br_t hb ?_
        unfold wX_markPart__blackAt_outerNeighbour_54
        rw [cp]
        exact ⟨vp_in_nI hp (by decide), br_t hb ⟨10, xi_blackAt_outerNeighbour (sd := 2) hs hp hk hm nx 10 1 Q m q (by decide) (by decide) (Or.inr ⟨rfl, hb, rfl⟩) (B0 hb)⟩⟩
      · refine br_f hb ?_
        unfold wX_markPart__blackAt_outerNeighbour_54
        rw [cp]
        exact ⟨vp_in_nI hp (by decide), br_f hb ⟨10, xi_blackAt_outerNeighbour (sd := 1) hs hp hk hm nx 10 0 Q m q (by decide) (by decide) (Or.inl ⟨rfl, hb⟩) (B1 hb)⟩⟩
theorem xm_blackAt_outerNeighbour {post : SX → Prop} {k : Int32} {s : Nat} {f_width f_height f_componentCount f_regionCount : Int32} {a_blackAt a_componentStart a_regionStart a_partNumber a_depthAt a_outerNeighbour a_queue a_alone a_reached : Nat → Int32} (hs : s < 196) (hk : k ≠ -1) (hm : ∀ p, cl_rc (cl_st a_blackAt) s p → a_outerNeighbour p = -1)
    (H : ∀ m q : Nat → Int32, (∀ p, cl_rc (cl_st a_blackAt) s p → m p = k) → (∀ p, ¬ cl_rc (cl_st a_blackAt) s p → m p = a_outerNeighbour p) → post (f_width, f_height, f_componentCount, f_regionCount, a_blackAt, a_componentStart, a_regionStart, a_partNumber, a_depthAt, m, q, a_alone, a_reached)) :
    wpX_markPart__blackAt_outerNeighbour post (f_width, f_height, f_componentCount, f_regionCount, a_blackAt, a_componentStart, a_regionStart, a_partNumber, a_depthAt, a_outerNeighbour, a_queue, a_alone, a_reached) (nI s) k := by
  refine ⟨vp_in_nI hs (by decide), ?_⟩
  rw [nI_clamp (Nat.lt_trans hs (by decide))]
  exact nm_e (nm_e ⟨197, xo_blackAt_outerNeighbour hs hk hm H 197 0 1 _ _ (by decide) (by decide) (cl_B_0 hs)⟩)
theorem xi_alone_reached {post : SX → Prop} {J18 : Int32 → Int32 → (Nat → Int32) → (Nat → Int32) → (Nat → Int32) → (Nat → Int32) → (Nat → Int32) → (Nat → Int32) → (Nat → Int32) → (Nat → Int32) → (Nat → Int32) → Prop} {k : Int32} {s t p sd : Nat} {f_width f_height f_componentCount f_regionCount : Int32} {a_blackAt a_componentStart a_regionStart a_partNumber a_depthAt a_outerNeighbour a_alone a_reached : Nat → Int32} (hs : s < 196) (hp : p < 196) (hk : k ≠ -1) (hm : ∀ p, cl_rc (cl_st a_alone) s p → a_reached p = -1)
    (J : ∀ Q m q, cl_B a_alone a_reached s k Q (t + 1) m q → J18 (nI Q) (nI (t + 1)) a_blackAt a_componentStart a_regionStart a_partNumber a_depthAt a_outerNeighbour q a_alone m) :
    ∀ (n w Q : Nat) (m q : Nat → Int32), w ≤ 9 → 9 < n + w → (sd = 1 ∧ a_alone p ≠ 0) ∨ (sd = 2 ∧ a_alone p = 0 ∧ w % 2 = 1) → cl_Bi a_alone a_reached s k Q t m q p w → wX_markPart__alone_reached_74 post J18 k (nI t) (nI p) (nI sd) f_width f_height f_componentCount f_regionCount n (nI Q) (nI w) a_blackAt a_componentStart a_regionStart a_partNumber a_depthAt a_outerNeighbour q a_alone m := by
  intro n
  induction n with
  | zero => intro w Q m q h1 h2; omega
  | succ n ih =>
    intro w Q m q h1 h2 hsd hB
    have hQ := cl_Bi_Q hB
    by_cases h9 : w = 9
    · subst h9
      exact br_t (nI_le (a := 9) (b := 9) (by decide) (by decide)) (nm_r (nI_1 t) (J Q m q (cl_B_lv hB)))
    · have hw : w < 9 := by omega
      have cp : (nI p).toNatClampNeg = p := nI_clamp (Nat.lt_trans hp (by decide))
      have hw' : ∀ d, d < w + sd → (a_alone p ≠ 0 ∨ d % 2 = 1) → d < w ∨ d = w := fun d hd o => by
        rcases hsd with ⟨e, _⟩ | ⟨e, z, y⟩
        · omega
        · have := o.resolve_left (fun n => n z)
          omega
      have ow : a_alone p ≠ 0 ∨ w % 2 = 1 := hsd.elim (fun z => Or.inl z.2) (fun z => Or.inr z.2.2)
      have hsd' : (sd = 1 ∧ a_alone p ≠ 0) ∨ (sd = 2 ∧ a_alone p = 0 ∧ (w + sd) % 2 = 1) := by
        rcases hsd with z | ⟨e, z, y⟩
        · exact Or.inl z
        · exact Or.inr ⟨e, z, by omega⟩
      have hl : w + sd ≤ 9 := by
        rcases hsd with ⟨e, _⟩ | ⟨e, _, y⟩ <;> omega
      have hf : 9 < n + (w + sd) := by
        rcases hsd with ⟨e, _⟩ | ⟨e, _, y⟩ <;> omega
      have go : (∀ v, cl_to p w v → m v = -1 → a_alone v = a_alone p → False) → wX_markPart__alone_reached_74 post J18 k (nI t) (nI p) (nI sd) f_width f_height f_componentCount f_regionCount n (nI Q) (nI (w + sd)) a_blackAt a_componentStart a_regionStart a_partNumber a_depthAt a_outerNeighbour q a_alone m := fun hn =>
        ih (w + sd) Q m q hl hf hsd' (cl_B_sk hs hw hm hB hw' hn)
      refine br_f (nI_ge (b := 9) hw (by decide)) (cl_ptw hp hw (fun v tv => ?_) (fun hn => ?_))
      · have cv : (nI v).toNatClampNeg = v := nI_clamp (Nat.lt_trans tv.1 (by decide))
        have iv : vp_in (nI v) 196 := vp_in_nI tv.1 (by decide)
        refine br_f (cl_nm1 (Nat.lt_trans tv.1 (by decide))) ⟨iv, ?_⟩
        rw [cv, cp]
        by_cases mv : m v = -1
        · refine br_t mv ⟨iv, vp_in_nI hp (by decide), ?_⟩
          by_cases bv : a_alone v = a_alone p
          · obtain ⟨hQ2, hB2⟩ := cl_B_ad hs hw hk hB hw' ow tv mv bv
            refine br_t bv (br_f (nI_ge (b := 196) hQ2 (by decide)) ⟨iv, nm_e ⟨vp_in_nI hQ2 (by decide), ?_⟩⟩)
            rw [nI_clamp (Nat.lt_trans hQ2 (by decide))]
            exact nm_e (nm_r (nI_1 Q) (nm_r (nI_add w sd) (ih (w + sd) (Q + 1) (upd m v k) (upd q Q (nI v)) hl hf hsd' hB2)))
          · exact br_f bv (nm_r (nI_add w sd) (go fun v' tv' _ bv' => bv (cl_to_un tv' tv ▸ bv')))
        · exact br_f mv (nm_r (nI_add w sd) (go fun v' tv' mv' _ => mv (cl_to_un tv' tv ▸ mv')))
      · exact br_t rfl (nm_r (nI_add w sd) (go fun v tv _ _ => hn v tv))
theorem xo_alone_reached {post : SX → Prop} {k : Int32} {s : Nat} {f_width f_height f_componentCount f_regionCount : Int32} {a_blackAt a_componentStart a_regionStart a_partNumber a_depthAt a_outerNeighbour a_alone a_reached : Nat → Int32} (hs : s < 196) (hk : k ≠ -1) (hm : ∀ p, cl_rc (cl_st a_alone) s p → a_reached p = -1)
    (H : ∀ m q : Nat → Int32, (∀ p, cl_rc (cl_st a_alone) s p → m p = k) → (∀ p, ¬ cl_rc (cl_st a_alone) s p → m p = a_reached p) → post (f_width, f_height, f_componentCount, f_regionCount, a_blackAt, a_componentStart, a_regionStart, a_partNumber, a_depthAt, a_outerNeighbour, q, a_alone, m)) :
    ∀ (n t Q : Nat) (m q : Nat → Int32), t ≤ 196 → 196 < n + t → cl_B a_alone a_reached s k Q t m q → wX_markPart__alone_reached_18 post k f_width f_height f_componentCount f_regionCount n (nI Q) (nI t) a_blackAt a_componentStart a_regionStart a_partNumber a_depthAt a_outerNeighbour q a_alone m := by
  intro n
  induction n with
  | zero => intro t Q m q h1 h2; omega
  | succ n ih =>
    intro t Q m q h1 h2 hB
    have hQ := cl_B_Q hB
    refine pk_le Q t (fun h => ?_) (fun h => ?_)
    · obtain ⟨a, c⟩ := cl_B_x hB h
      exact H m q a c
    · refine br_f (nI_ge (b := 196) (by omega) (by decide)) ⟨vp_in_nI (by omega) (by decide), ?_⟩
      obtain ⟨p, hp, hq, B1, B0⟩ := cl_B_e hs hB h
      rw [nI_clamp (by omega)]
      refine nm_r hq ⟨vp_in_nI hp (by decide), ?_⟩
      have cp : (nI p).toNatClampNeg = p := nI_clamp (Nat.lt_trans hp (by decide))
      have nx : ∀ Q m q, cl_B a_alone a_reached s k Q (t + 1) m q → wX_markPart__alone_reached_18 post k f_width f_height f_componentCount f_regionCount n (nI Q) (nI (t + 1)) a_blackAt a_componentStart a_regionStart a_partNumber a_depthAt a_outerNeighbour q a_alone m := fun Q m q hB => ih (t + 1) Q m q (by omega) (by omega) hB
      rw [cp]
      by_cases hb : a_alone p = 0
      · refine br_t hb ?_
        unfold wX_markPart__alone_reached_54
        rw [cp]
        exact ⟨vp_in_nI hp (by decide), br_t hb ⟨10, xi_alone_reached (sd := 2) hs hp hk hm nx 10 1 Q m q (by decide) (by decide) (Or.inr ⟨rfl, hb, rfl⟩) (B0 hb)⟩⟩
      · refine br_f hb ?_
        unfold wX_markPart__alone_reached_54
        rw [cp]
        exact ⟨vp_in_nI hp (by decide), br_f hb ⟨10, xi_alone_reached (sd := 1) hs hp hk hm nx 10 0 Q m q (by decide) (by decide) (Or.inl ⟨rfl, hb⟩) (B1 hb)⟩⟩
theorem xm_alone_reached {post : SX → Prop} {k : Int32} {s : Nat} {f_width f_height f_componentCount f_regionCount : Int32} {a_blackAt a_componentStart a_regionStart a_partNumber a_depthAt a_outerNeighbour a_queue a_alone a_reached : Nat → Int32} (hs : s < 196) (hk : k ≠ -1) (hm : ∀ p, cl_rc (cl_st a_alone) s p → a_reached p = -1)
    (H : ∀ m q : Nat → Int32, (∀ p, cl_rc (cl_st a_alone) s p → m p = k) → (∀ p, ¬ cl_rc (cl_st a_alone) s p → m p = a_reached p) → post (f_width, f_height, f_componentCount, f_regionCount, a_blackAt, a_componentStart, a_regionStart, a_partNumber, a_depthAt, a_outerNeighbour, q, a_alone, m)) :
    wpX_markPart__alone_reached post (f_width, f_height, f_componentCount, f_regionCount, a_blackAt, a_componentStart, a_regionStart, a_partNumber, a_depthAt, a_outerNeighbour, a_queue, a_alone, a_reached) (nI s) k := by
  refine ⟨vp_in_nI hs (by decide), ?_⟩
  rw [nI_clamp (Nat.lt_trans hs (by decide))]
  exact nm_e (nm_e ⟨197, xo_alone_reached hs hk hm H 197 0 1 _ _ (by decide) (by decide) (cl_B_0 hs)⟩)
