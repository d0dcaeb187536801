/-! a place's neighbours as both sides reckon them; the flood of a part -/
theorem cl_ptw {post : Int32 → Prop} {p d : Nat} (hp : p < 196) (hd : d < 9) (hy : ∀ q, cl_to p d q → post (nI q)) (hn : (∀ q, ¬ cl_to p d q) → post (-1)) : wpX_placeToward post (nI p) (nI d) := by
  have e14 : (14 : Int32) ≠ 0 := by decide
  have e3 : (3 : Int32) ≠ 0 := by decide
  have r1 : nI p - nI p / 14 * 14 = nI (p % 14) := pk_rem (d := 14) (by omega) (by decide) (by decide)
  have r2 : nI d - nI d / 3 * 3 = nI (d % 3) := pk_rem (d := 3) (by omega) (by decide) (by decide)
  have r3 : nI p / 14 = nI (p / 14) := pk_div (d := 14) (by omega) (by decide) (by decide)
  have r4 : nI d / 3 = nI (d / 3) := pk_div (d := 3) (by omega) (by decide) (by decide)
  unfold wpX_placeToward
  refine ⟨e14, e3, ?_⟩
  rw [r1, r2, r3, r4, nI_add, nI_add]
  intro x ex
  refine ⟨e14, e3, ?_⟩
  intro y ey
  have m1 : (0 : Int32) - 1 < 0 := by decide
  by_cases hx : p % 14 + d % 3 = 0
  · rw [hx, nI_0] at ex
    rw [ex]
    exact br_t m1 (hn fun q h => by unfold cl_to at h; omega)
  · obtain ⟨c, hc⟩ : ∃ c, p % 14 + d % 3 = c + 1 := ⟨p % 14 + d % 3 - 1, by omega⟩
    rw [hc, nI_pred] at ex
    rw [ex]
    refine br_f (nI_pos (by omega)) (pk_le 14 c (fun h => hn fun q k => by unfold cl_to at k; omega) (fun h => ?_))
    by_cases hy0 : p / 14 + d / 3 = 0
    · rw [hy0, nI_0] at ey
      rw [ey]
      exact br_t m1 (hn fun q h => by unfold cl_to at h; omega)
    · obtain ⟨r, hr⟩ : ∃ r, p / 14 + d / 3 = r + 1 := ⟨p / 14 + d / 3 - 1, by omega⟩
      rw [hr, nI_pred] at ey
      rw [ey]
      refine br_f (nI_pos (by omega)) (pk_lt r 14 (fun h2 => ?_) (fun h2 => hn fun q k => by unfold cl_to at k; omega))
      have e : nI r * 14 + nI c = nI (r * 14 + c) := by
        rw [show nI r * 14 = nI (r * 14) from pk_mul r 14, nI_add]
      rw [e]
      exact hy _ ⟨by omega, by omega, by omega⟩
theorem cl_ner {post : Int32 → Prop} {v : SY} {p d : Nat} (hp : p < 196) (hd : d < 9) (hy : ∀ q, cl_to p d q → post (nI q)) (hn : (∀ q, ¬ cl_to p d q) → post (-1)) : wpY_near post v (nI p) (nI d) := by
  have e14 : (14 : Int32) ≠ 0 := by decide
  have e3 : (3 : Int32) ≠ 0 := by decide
  have r1 : nI p - nI p / 14 * 14 = nI (p % 14) := pk_rem (d := 14) (by omega) (by decide) (by decide)
  have r2 : nI d - nI d / 3 * 3 = nI (d % 3) := pk_rem (d := 3) (by omega) (by decide) (by decide)
  have r3 : nI p / 14 = nI (p / 14) := pk_div (d := 14) (by omega) (by decide) (by decide)
  have r4 : nI d / 3 = nI (d / 3) := pk_div (d := 3) (by omega) (by decide) (by decide)
  unfold wpY_near
  refine ⟨e14, e3, ?_⟩
  rw [r1, r2, r3, r4, nI_add, nI_add]
  intro x ex
  refine ⟨e14, e3, ?_⟩
  intro y ey
  have m1 : (0 : Int32) - 1 < 0 := by decide
  by_cases hx : p % 14 + d % 3 = 0
  · rw [hx, nI_0] at ex
    rw [ex]
    exact br_t m1 (hn fun q h => by unfold cl_to at h; omega)
  · obtain ⟨c, hc⟩ : ∃ c, p % 14 + d % 3 = c + 1 := ⟨p % 14 + d % 3 - 1, by omega⟩
    rw [hc, nI_pred] at ex
    rw [ex]
    refine br_f (nI_pos (by omega)) (pk_lt 13 c (fun h => hn fun q k => by unfold cl_to at k; omega) (fun h => ?_))
    by_cases hy0 : p / 14 + d / 3 = 0
    · rw [hy0, nI_0] at ey
      rw [ey]
      exact br_t m1 (hn fun q h => by unfold cl_to at h; omega)
    · obtain ⟨r, hr⟩ : ∃ r, p / 14 + d / 3 = r + 1 := ⟨p / 14 + d / 3 - 1, by omega⟩
      rw [hr, nI_pred] at ey
      rw [ey]
      refine br_f (nI_pos (by omega)) (pk_le r 13 (fun h2 => ?_) (fun h2 => hn fun q k => by unfold cl_to at k; omega))
      have e : 14 * nI r + nI c = nI (14 * r + c) := by
        rw [show 14 * nI r = nI (14 * r) from pk_mul 14 r, nI_add]
      rw [e]
      exact hy _ ⟨by omega, by omega, by omega⟩
theorem cl_nm1 {n : Nat} (h : n < 2 ^ 31) : ¬ nI n = -1 := fun e => by
  have a := nI_toInt h
  rw [e, show (-1 : Int32).toInt = -1 from by decide] at a
  omega
/-! the flood -/
def cl_B (b m0 : Nat → Int32) (s : Nat) (k : Int32) (Q t : Nat) (m q : Nat → Int32) : Prop :=
  ∃ V : Nat → Prop, V s ∧ (∀ p, V p → cl_rc (cl_st b) s p) ∧ cl_cnt V 196 = Q ∧ (∀ i, i < Q → ∃ p, V p ∧ q i = nI p) ∧ (∀ p, V p → m p = k) ∧ (∀ p, ¬ V p → m p = m0 p) ∧ (∀ p, V p → (∃ i, t ≤ i ∧ i < Q ∧ q i = nI p) ∨ (∀ v, cl_st b p v → V v))
def cl_Bi (b m0 : Nat → Int32) (s : Nat) (k : Int32) (Q t : Nat) (m q : Nat → Int32) (p w : Nat) : Prop :=
  ∃ V : Nat → Prop, V s ∧ (∀ p, V p → cl_rc (cl_st b) s p) ∧ cl_cnt V 196 = Q ∧ (∀ i, i < Q → ∃ p, V p ∧ q i = nI p) ∧ (∀ p, V p → m p = k) ∧ (∀ p, ¬ V p → m p = m0 p) ∧ V p ∧ t < Q ∧
    (∀ p', V p' → (∃ i, t + 1 ≤ i ∧ i < Q ∧ q i = nI p') ∨ (∀ v, cl_st b p' v → V v) ∨ (p' = p ∧ ∀ d, d < w → (b p ≠ 0 ∨ d % 2 = 1) → ∀ v, cl_to p d v → b p = b v → V v))
theorem cl_B_Q {b m0 : Nat → Int32} {s : Nat} {k : Int32} {Q t : Nat} {m q : Nat → Int32} (h : cl_B b m0 s k Q t m q) : Q ≤ 196 := by
  obtain ⟨V, _, _, e, _⟩ := h
  rw [← e]; exact cl_cnt_le V 196
theorem cl_Bi_Q {b m0 : Nat → Int32} {s : Nat} {k : Int32} {Q t : Nat} {m q : Nat → Int32} {p w : Nat} (h : cl_Bi b m0 s k Q t m q p w) : Q ≤ 196 := by
  obtain ⟨V, _, _, e, _⟩ := h
  rw [← e]; exact cl_cnt_le V 196
theorem cl_B_0 {b m0 q0 : Nat → Int32} {s : Nat} {k : Int32} (hs : s < 196) : cl_B b m0 s k 1 0 (upd m0 s k) (upd q0 0 (nI s)) := by
  refine ⟨fun j => False ∨ j = s, Or.inr rfl, ?_, ?_, ?_, ?_, ?_, ?_⟩
  · intro p hp
    rcases hp with hp | rfl
    · exact hp.elim
    · exact cl_rc_r _ _
  · rw [cl_cnt_un (P := fun _ => False) hs id, cl_cnt_z (fun _ _ => id)]
  · intro i hi
    have : i = 0 := by omega
    subst this
    exact ⟨s, Or.inr rfl, pk_us⟩
  · intro p hp
    rcases hp with hp | rfl
    · exact hp.elim
    · exact pk_us
  · intro p hp
    exact pk_un (fun z => hp (Or.inr z))
  · intro p hp
    rcases hp with hp | rfl
    · exact hp.elim
    · exact Or.inl ⟨0, by omega, by omega, pk_us⟩
theorem cl_B_x {b m0 : Nat → Int32} {s : Nat} {k : Int32} {Q t : Nat} {m q : Nat → Int32} (h : cl_B b m0 s k Q t m q) (ht : Q ≤ t) : (∀ p, cl_rc (cl_st b) s p → m p = k) ∧ (∀ p, ¬ cl_rc (cl_st b) s p → m p = m0 p) := by
  obtain ⟨V, v0, vr, vc, vq, vm, vn, vt⟩ := h
  have cl : ∀ u v, V u → cl_st b u v → V v := fun u v hu e => by
    rcases vt u hu with ⟨i, a, c, _⟩ | z
    · omega
    · exact z v e
  exact ⟨fun p hp => vm p (hp V v0 cl), fun p hp => vn p (fun z => hp (vr p z))⟩
theorem cl_B_e {b m0 : Nat → Int32} {s : Nat} {k : Int32} {Q t : Nat} {m q : Nat → Int32} (hs : s < 196) (h : cl_B b m0 s k Q t m q) (ht : t < Q) : ∃ p, p < 196 ∧ q t = nI p ∧ (b p ≠ 0 → cl_Bi b m0 s k Q t m q p 0) ∧ (b p = 0 → cl_Bi b m0 s k Q t m q p 1) := by
  obtain ⟨V, v0, vr, vc, vq, vm, vn, vt⟩ := h
  obtain ⟨p, vp, hq⟩ := vq t ht
  have hp : p < 196 := cl_pt_lt hs (vr p vp)
  have main : ∀ w, (∀ d, d < w → (b p ≠ 0 ∨ d % 2 = 1) → ∀ v, cl_to p d v → b p = b v → V v) → cl_Bi b m0 s k Q t m q p w := fun w hw => by
    refine ⟨V, v0, vr, vc, vq, vm, vn, vp, ht, fun p' vp' => ?_⟩
    rcases vt p' vp' with ⟨i, a, c, e⟩ | z
    · by_cases hi : i = t
      · subst hi
        have : p' = p := (nI_eq (Nat.lt_trans (cl_pt_lt hs (vr p' vp')) (by decide)) (Nat.lt_trans hp (by decide))).mp (e.symm.trans hq)
        exact Or.inr (Or.inr ⟨this, hw⟩)
      · exact Or.inl ⟨i, by omega, c, e⟩
    · exact Or.inr (Or.inl z)
  refine ⟨p, hp, hq, fun _ => main 0 (fun d hd => absurd hd (Nat.not_lt_zero d)), fun hb => main 1 (fun d hd k => ?_)⟩
  rcases k with k | k
  · exact absurd hb k
  · omega
theorem cl_B_sk {b m0 : Nat → Int32} {s : Nat} {k : Int32} {Q t : Nat} {m q : Nat → Int32} {p w w' : Nat} (hs : s < 196) (hw : w < 9) (hm : ∀ p, cl_rc (cl_st b) s p → m0 p = -1) (h : cl_Bi b m0 s k Q t m q p w) (hw' : ∀ d, d < w' → (b p ≠ 0 ∨ d % 2 = 1) → d < w ∨ d = w) (hn : ∀ v, cl_to p w v → m v = -1 → b v = b p → False) : cl_Bi b m0 s k Q t m q p w' := by
  obtain ⟨V, v0, vr, vc, vq, vm, vn, vp, ht, vt⟩ := h
  have hp : p < 196 := cl_pt_lt hs (vr p vp)
  refine ⟨V, v0, vr, vc, vq, vm, vn, vp, ht, fun p' vp' => ?_⟩
  rcases vt p' vp' with z | z | ⟨z, y⟩
  · exact Or.inl z
  · exact Or.inr (Or.inl z)
  · refine Or.inr (Or.inr ⟨z, fun d hd o v tv e => ?_⟩)
    rcases hw' d hd o with g | rfl
    · exact y d g o v tv e
    · refine Classical.byContradiction fun nv => hn v tv ?_ e.symm
      rw [vn v nv]
      exact hm v (cl_rc_s (vr p vp) (cl_to_st hp hw o tv e))
theorem cl_B_ad {b m0 : Nat → Int32} {s : Nat} {k : Int32} {Q t : Nat} {m q : Nat → Int32} {p w w' v : Nat} (hs : s < 196) (hw : w < 9) (hk : k ≠ -1) (h : cl_Bi b m0 s k Q t m q p w) (hw' : ∀ d, d < w' → (b p ≠ 0 ∨ d % 2 = 1) → d < w ∨ d = w) (ow : b p ≠ 0 ∨ w % 2 = 1) (tv : cl_to p w v) (mv : m v = -1) (bv : b v = b p) : Q < 196 ∧ cl_Bi b m0 s k (Q + 1) t (upd m v k) (upd q Q (nI v)) p w' := by
  obtain ⟨V, v0, vr, vc, vq, vm, vn, vp, ht, vt⟩ := h
  have hp : p < 196 := cl_pt_lt hs (vr p vp)
  have nv : ¬ V v := fun z => hk ((vm v z).symm.trans mv)
  have hQ : Q < 196 := by rw [← vc]; exact cl_cnt_nf tv.1 nv
  refine ⟨hQ, fun j => V j ∨ j = v, Or.inl v0, ?_, ?_, ?_, ?_, ?_, Or.inl vp, by omega, ?_⟩
  · intro p' hp'
    rcases hp' with z | rfl
    · exact vr p' z
    · exact cl_rc_s (vr p vp) (cl_to_st hp hw ow tv bv.symm)
  · rw [cl_cnt_un tv.1 nv, vc]
  · intro i hi
    by_cases e : i = Q
    · subst e
      exact ⟨v, Or.inr rfl, pk_us⟩
    · obtain ⟨p', a, c⟩ := vq i (by omega)
      exact ⟨p', Or.inl a, (pk_un e).trans c⟩
  · intro p' hp'
    by_cases e : p' = v
    · subst e; exact pk_us
    · rw [pk_un e]
      exact vm p' (hp'.resolve_right e)
  · intro p' hp'
    rw [pk_un (fun z => hp' (Or.inr z))]
    exact vn p' (fun z => hp' (Or.inl z))
  · intro p' hp'
    rcases hp' with hp' | rfl
    · rcases vt p' hp' with ⟨i, a, c, e⟩ | z | ⟨z, y⟩
      · exact Or.inl ⟨i, a, by omega, (pk_un (by omega)).trans e⟩
      · exact Or.inr (Or.inl fun v' e => Or.inl (z v' e))
      · refine Or.inr (Or.inr ⟨z, fun d hd o v' tv' e => ?_⟩)
        rcases hw' d hd o with g | rfl
        · exact Or.inl (y d g o v' tv' e)
        · exact Or.inr (cl_to_un tv' tv)
    · exact Or.inl ⟨Q, by omega, by omega, pk_us⟩
theorem cl_B_lv {b m0 : Nat → Int32} {s : Nat} {k : Int32} {Q t : Nat} {m q : Nat → Int32} {p : Nat} (h : cl_Bi b m0 s k Q t m q p 9) : cl_B b m0 s k Q (t + 1) m q := by
  obtain ⟨V, v0, vr, vc, vq, vm, vn, vp, ht, vt⟩ := h
  refine ⟨V, v0, vr, vc, vq, vm, vn, fun p' vp' => ?_⟩
  rcases vt p' vp' with z | z | ⟨rfl, y⟩
  · exact Or.inl z
  · exact Or.inr z
  · refine Or.inr fun v e => ?_
    obtain ⟨d, hd, o, tv⟩ := cl_st_to e
    exact y d hd o v tv e.2.2.1
