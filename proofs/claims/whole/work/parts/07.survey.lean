/-! the survey: parts numbered, depths measured -/
def cl_fs (b : Nat → Int32) (c : Int32) (p : Nat) : Prop := b p = c ∧ cl_root b p = p
def cl_N (b : Nat → Int32) (i : Nat) (cc rn : Int32) (cs rs pn : Nat → Int32) : Prop :=
  cc = nI (cl_cnt (cl_fs b 1) i) ∧ rn = nI (cl_cnt (cl_fs b 0) i) ∧ (∀ r, r < i → cl_fs b 1 r → cs (cl_cnt (cl_fs b 1) r) = nI r) ∧ (∀ r, r < i → cl_fs b 0 r → rs (cl_cnt (cl_fs b 0) r) = nI r) ∧
  (∀ p, p < 196 → cl_root b p < i → pn p = nI (cl_cnt (cl_fs b (b p)) (cl_root b p))) ∧ (∀ p, p < 196 → i ≤ cl_root b p → pn p = -1)
theorem cl_c196 (P : Nat → Prop) {i : Nat} (h : i ≤ 196) : cl_cnt P i < 2 ^ 31 := Nat.lt_of_le_of_lt (Nat.le_trans (cl_cnt_le P i) h) (by decide)
theorem cl_01 : (0 : Int32) ≠ 1 := by decide
theorem cl_10 : (1 : Int32) ≠ 0 := by decide
theorem cl_N_sk {b : Nat → Int32} {i : Nat} {cc rn : Int32} {cs rs pn : Nat → Int32} (hi : i < 196) (h : cl_N b i cc rn cs rs pn) (hp : ¬ pn i = -1) : cl_N b (i + 1) cc rn cs rs pn := by
  obtain ⟨h1, h2, h3, h4, h5, h6⟩ := h
  have nr : ¬ i ≤ cl_root b i := fun z => hp (h6 i hi z)
  have nf : ∀ c, ¬ cl_fs b c i := fun c z => nr (by rw [z.2]; exact Nat.le_refl i)
  have ni : ∀ p, cl_root b p ≠ i := fun p z => nr (by
    have := cl_root_i b p
    rw [z] at this
    omega)
  refine ⟨by rw [cl_cnt_f (nf 1)]; exact h1, by rw [cl_cnt_f (nf 0)]; exact h2, fun r hr f => ?_, fun r hr f => ?_, fun p hp' hr => ?_, fun p hp' hr => h6 p hp' (by omega)⟩
  · by_cases e : r = i
    · subst e; exact absurd f (nf 1)
    · exact h3 r (by omega) f
  · by_cases e : r = i
    · subst e; exact absurd f (nf 0)
    · exact h4 r (by omega) f
  · have := ni p
    exact h5 p hp' (by omega)
theorem cl_N_rt {b : Nat → Int32} {i : Nat} {cc rn : Int32} {cs rs pn : Nat → Int32} (hi : i < 196) (h : cl_N b i cc rn cs rs pn) (hp : pn i = -1) : cl_root b i = i ∧ ∀ p, cl_rc (cl_st b) i p → pn p = -1 := by
  obtain ⟨h1, h2, h3, h4, h5, h6⟩ := h
  have a : cl_root b i = i := by
    have := cl_root_self b i
    by_cases z : cl_root b i < i
    · have e := h5 i hi z
      rw [hp] at e
      exact absurd e.symm (cl_nm1 (cl_c196 _ (Nat.le_of_lt (cl_root_lt hi))))
    · omega
  exact ⟨a, fun p r => h6 p (cl_pt_lt hi r) (by rw [← cl_root_eq r, a]; exact Nat.le_refl i)⟩
theorem cl_N_pn {b : Nat → Int32} {i : Nat} {cc rn : Int32} {cs rs pn m : Nat → Int32} {k : Int32} (hi : i < 196) (h : cl_N b i cc rn cs rs pn) (a : cl_root b i = i) (hk : k = nI (cl_cnt (cl_fs b (b i)) i)) (m1 : ∀ p, cl_rc (cl_st b) i p → m p = k) (m2 : ∀ p, ¬ cl_rc (cl_st b) i p → m p = pn p) :
    (∀ p, p < 196 → cl_root b p < i + 1 → m p = nI (cl_cnt (cl_fs b (b p)) (cl_root b p))) ∧ (∀ p, p < 196 → i + 1 ≤ cl_root b p → m p = -1) := by
  obtain ⟨h1, h2, h3, h4, h5, h6⟩ := h
  constructor
  · intro p hp hr
    by_cases e : cl_root b p = i
    · have r := cl_root_pt (a.trans e.symm)
      rw [m1 p r, hk, ← cl_pt_c r, e]
    · rw [m2 p (fun z => e ((cl_root_eq z).symm.trans a))]
      exact h5 p hp (by omega)
  · intro p hp hr
    rw [m2 p (fun z => by
      have := (cl_root_eq z).symm.trans a
      omega)]
    exact h6 p hp (by omega)
theorem cl_N_b {b : Nat → Int32} {i : Nat} {cc rn : Int32} {cs rs pn m : Nat → Int32} (hi : i < 196) (h : cl_N b i cc rn cs rs pn) (a : cl_root b i = i) (hb : b i = 1) (m1 : ∀ p, cl_rc (cl_st b) i p → m p = nI (cl_cnt (cl_fs b 1) i)) (m2 : ∀ p, ¬ cl_rc (cl_st b) i p → m p = pn p) : cl_N b (i + 1) (nI (cl_cnt (cl_fs b 1) i + 1)) rn (upd cs (cl_cnt (cl_fs b 1) i) (nI i)) rs m := by
  have k := cl_N_pn hi h a (by rw [hb]) m1 m2
  obtain ⟨h1, h2, h3, h4, h5, h6⟩ := h
  have f1 : cl_fs b 1 i := ⟨hb, a⟩
  have f0 : ¬ cl_fs b 0 i := fun z => cl_01 (z.1.symm.trans hb)
  refine ⟨by rw [cl_cnt_t f1], by rw [cl_cnt_f f0]; exact h2, fun r hr f => ?_, fun r hr f => ?_, k.1, k.2⟩
  · by_cases e : r = i
    · subst e; exact pk_us
    · have := cl_cnt_lt (m := r) (n := i) (by omega) f
      rw [pk_un (by omega)]
      exact h3 r (by omega) f
  · by_cases e : r = i
    · subst e; exact absurd f f0
    · exact h4 r (by omega) f
theorem cl_N_w {b : Nat → Int32} {i : Nat} {cc rn : Int32} {cs rs pn m : Nat → Int32} (hi : i < 196) (h : cl_N b i cc rn cs rs pn) (a : cl_root b i = i) (hb : b i = 0) (m1 : ∀ p, cl_rc (cl_st b) i p → m p = nI (cl_cnt (cl_fs b 0) i)) (m2 : ∀ p, ¬ cl_rc (cl_st b) i p → m p = pn p) : cl_N b (i + 1) cc (nI (cl_cnt (cl_fs b 0) i + 1)) cs (upd rs (cl_cnt (cl_fs b 0) i) (nI i)) m := by
  have k := cl_N_pn hi h a (by rw [hb]) m1 m2
  obtain ⟨h1, h2, h3, h4, h5, h6⟩ := h
  have f0 : cl_fs b 0 i := ⟨hb, a⟩
  have f1 : ¬ cl_fs b 1 i := fun z => cl_10 (z.1.symm.trans hb)
  refine ⟨by rw [cl_cnt_f f1]; exact h1, by rw [cl_cnt_t f0], fun r hr f => ?_, fun r hr f => ?_, k.1, k.2⟩
  · by_cases e : r = i
    · subst e; exact absurd f f1
    · exact h3 r (by omega) f
  · by_cases e : r = i
    · subst e; exact pk_us
    · have := cl_cnt_lt (m := r) (n := i) (by omega) f
      rw [pk_un (by omega)]
      exact h4 r (by omega) f
theorem xn_loop {post : SX → Prop} {f_width f_height : Int32} {b da on al re : Nat → Int32} (ok : cl_ok b)
    (H : ∀ (cc rn : Int32) (cs rs pn q : Nat → Int32), cl_N b 196 cc rn cs rs pn → post (f_width, f_height, cc, rn, b, cs, rs, pn, da, on, q, al, re)) :
    ∀ (n i : Nat) (cc rn : Int32) (cs rs pn q : Nat → Int32), i ≤ 196 → 196 < n + i → cl_N b i cc rn cs rs pn → wX_numberParts_19 post n (nI i) f_width f_height cc rn b cs rs pn da on q al re := by
  intro n
  induction n with
  | zero => intro i cc rn cs rs pn q h1 h2; omega
  | succ n ih =>
    intro i cc rn cs rs pn q h1 h2 hN
    by_cases h9 : i = 196
    · subst h9
      exact br_t (nI_le (a := 196) (b := 196) (by decide) (by decide)) (H cc rn cs rs pn q hN)
    · have hi : i < 196 := by omega
      have ci : (nI i).toNatClampNeg = i := nI_clamp (by omega)
      have vi : vp_in (nI i) 196 := vp_in_nI hi (by decide)
      refine br_f (nI_ge (b := 196) hi (by decide)) ⟨vi, ?_⟩
      rw [ci]
      by_cases hp : pn i = -1
      · obtain ⟨a, hm⟩ := cl_N_rt hi hN hp
        refine br_t hp ⟨vi, ?_⟩
        have e1 := hN.1
        have e2 := hN.2.1
        have l1 : cl_cnt (cl_fs b 1) i < 196 := Nat.lt_of_le_of_lt (cl_cnt_le _ i) hi
        have l0 : cl_cnt (cl_fs b 0) i < 196 := Nat.lt_of_le_of_lt (cl_cnt_le _ i) hi
        by_cases hb : b i = 0
        · refine br_t hb ⟨by rw [e2]; exact vp_in_nI l0 (by decide), ?_⟩
          rw [e2, nI_clamp (Nat.lt_trans l0 (by decide))]
          exact nm_e (xm_blackAt_partNumber hi (cl_nm1 (Nat.lt_trans l0 (by decide))) hm (fun m q' m1 m2 => nm_r (nI_1 _) (nm_r (nI_1 i) (ih (i + 1) _ _ _ _ _ _ (by omega) (by omega) (cl_N_w hi hN a hb m1 m2)))))
        · refine br_f hb ⟨by rw [e1]; exact vp_in_nI l1 (by decide), ?_⟩
          rw [e1, nI_clamp (Nat.lt_trans l1 (by decide))]
          exact nm_e (xm_blackAt_partNumber hi (cl_nm1 (Nat.lt_trans l1 (by decide))) hm (fun m q' m1 m2 => nm_r (nI_1 _) (nm_r (nI_1 i) (ih (i + 1) _ _ _ _ _ _ (by omega) (by omega) (cl_N_b hi hN a ((ok.1 i).resolve_left hb) m1 m2)))))
      · exact br_f hp (nm_r (nI_1 i) (ih (i + 1) cc rn cs rs pn q (by omega) (by omega) (cl_N_sk hi hN hp)))
theorem xn_parts {post : SX → Prop} {f_width f_height cc0 rn0 : Int32} {b cs0 rs0 pn0 da on q0 al re : Nat → Int32} (ok : cl_ok b)
    (H : ∀ (cc rn : Int32) (cs rs pn q : Nat → Int32), cl_N b 196 cc rn cs rs pn → post (f_width, f_height, cc, rn, b, cs, rs, pn, da, on, q, al, re)) :
    wpX_numberParts post (f_width, f_height, cc0, rn0, b, cs0, rs0, pn0, da, on, q0, al, re) := by
  unfold wpX_numberParts
  refine xu_partNumber (fun m hm => ⟨197, ?_⟩)
  exact xn_loop ok H 197 0 0 0 cs0 rs0 m q0 (by decide) (by decide) ⟨rfl, rfl, fun r hr => absurd hr (Nat.not_lt_zero r), fun r hr => absurd hr (Nat.not_lt_zero r), fun p _ hr => absurd hr (Nat.not_lt_zero _), fun p hp _ => hm p hp⟩
/-! depths -/
theorem xb_loop {post : Int32 → Prop} {p : Nat} {w : Int32} {f_width f_height cc rn : Int32} {b cs rs pn da on q al re : Nat → Int32} (hp : p < 196) (hy : ∀ v, v < 196 → gp_bs p v → da v = w → post (nI v)) (hn : (∀ v, v < 196 → gp_bs p v → da v ≠ w) → post (-1)) :
    ∀ (n d : Nat), d ≤ 9 → d % 2 = 1 → 9 < n + d → (∀ e, e < d → e % 2 = 1 → ∀ v, cl_to p e v → da v ≠ w) → wX_besideOfDepth_2 post (nI p) w f_width f_height cc rn b cs rs pn da on q al re n (nI d) := by
  intro n
  induction n with
  | zero => intro d h1 _ h2; omega
  | succ n ih =>
    intro d h1 ho h2 hI
    by_cases h9 : d = 9
    · subst h9
      exact br_t (nI_le (a := 9) (b := 9) (by decide) (by decide)) (hn fun v hv bv => by
        obtain ⟨e, he, oe, te⟩ := cl_bs_to hp hv bv
        exact hI e he oe v te)
    · have hd : d < 9 := by omega
      have go : (∀ v, cl_to p d v → da v ≠ w) → wX_besideOfDepth_2 post (nI p) w f_width f_height cc rn b cs rs pn da on q al re n (nI (d + 2)) := fun h => ih (d + 2) (by omega) (by omega) (by omega) (fun e he oe v te => by
        by_cases ed : e = d
        · subst ed; exact h v te
        · exact hI e (by omega) oe v te)
      refine br_f (nI_ge (b := 9) hd (by decide)) (cl_ptw hp hd (fun v tv => ?_) (fun hn' => ?_))
      · refine br_f (cl_nm1 (Nat.lt_trans tv.1 (by decide))) ⟨vp_in_nI tv.1 (by decide), ?_⟩
        rw [nI_clamp (Nat.lt_trans tv.1 (by decide))]
        by_cases e : da v = w
        · exact br_t e (hy v tv.1 (cl_to_bs hp hd ho tv) e)
        · exact br_f e (nm_r (nI_add d 2) (go fun v' tv' => cl_to_un tv' tv ▸ e))
      · exact br_t rfl (nm_r (nI_add d 2) (go fun v tv => absurd tv (hn' v)))
theorem xb_beside {post : Int32 → Prop} {p : Nat} {w : Int32} {f_width f_height cc rn : Int32} {b cs rs pn da on q al re : Nat → Int32} (hp : p < 196) (hy : ∀ v, v < 196 → gp_bs p v → da v = w → post (nI v)) (hn : (∀ v, v < 196 → gp_bs p v → da v ≠ w) → post (-1)) : wpX_besideOfDepth post (f_width, f_height, cc, rn, b, cs, rs, pn, da, on, q, al, re) (nI p) w :=
  ⟨10, xb_loop hp hy hn 10 1 (by decide) (by decide) (by decide) (fun e he oe => by omega)⟩
def cl_o (b : Nat → Int32) (on : Nat → Int32) (p : Nat) : Prop := ∃ o, o < 196 ∧ on p = nI o ∧ (cl_dep b p ≠ 0 → cl_dep b o + 1 = cl_dep b p ∧ ∃ p', p' < 196 ∧ cl_root b p = cl_root b p' ∧ gp_bs p' o)
def cl_D (b : Nat → Int32) (L i : Nat) (da on : Nat → Int32) : Prop :=
  (∀ p, p < 196 → cl_dep b p < L → da p = nI (cl_dep b p)) ∧ (∀ p, p < 196 → L < cl_dep b p → da p = -1) ∧ (∀ p, p < 196 → cl_dep b p = L → da p = nI L ∨ da p = -1) ∧
  (∀ p q, p < 196 → q < 196 → cl_root b p = cl_root b q → da p = -1 → da q = -1) ∧ (∀ p, p < i → cl_dep b p = L → (∃ q, q < 196 ∧ gp_bs p q ∧ cl_dep b q + 1 = L) → da p = nI L) ∧
  (∀ p, p < 196 → da p = -1 → on p = -1) ∧ (∀ p, p < 196 → da p ≠ -1 → cl_o b on p)
theorem cl_D_up {b : Nat → Int32} {L : Nat} {da on : Nat → Int32} (ok : cl_ok b) (hL : 1 ≤ L) (hL2 : L ≤ 14) (h : cl_D b L 196 da on) : cl_D b (L + 1) 0 da on := by
  obtain ⟨d1, d2, d3, d4, d5, o1, o2⟩ := h
  refine ⟨fun p hp hd => ?_, fun p hp hd => d2 p hp (by omega), fun p hp hd => Or.inr (d2 p hp (by omega)), d4, fun p hp => absurd hp (Nat.not_lt_zero p), o1, o2⟩
  by_cases e : cl_dep b p = L
  · rcases cl_dep_d ok hp with ⟨z, _⟩ | ⟨p', q, hp', hq, r, bq, dq⟩
    · omega
    · have dp := cl_dep_rt ok r
      have k := d5 p' hp' (by omega) ⟨q, hq, bq, by omega⟩
      rw [e]
      refine (d3 p hp e).resolve_right fun z => ?_
      have := d4 p p' hp hp' r z
      rw [k] at this
      exact cl_nm1 (by omega) this
  · exact d1 p hp (by omega)
theorem cl_D_sk {b : Nat → Int32} {L i : Nat} {da on : Nat → Int32} (hi : i < 196) (h : cl_D b L i da on) (k : cl_dep b i = L → (∃ q, q < 196 ∧ gp_bs i q ∧ cl_dep b q + 1 = L) → da i = nI L) : cl_D b L (i + 1) da on := by
  obtain ⟨d1, d2, d3, d4, d5, o1, o2⟩ := h
  refine ⟨d1, d2, d3, d4, fun p hp hd hq => ?_, o1, o2⟩
  by_cases e : p = i
  · subst e; exact k hd hq
  · exact d5 p (by omega) hd hq
theorem cl_D_ad {b : Nat → Int32} {L i v : Nat} {da on da' on' : Nat → Int32} (ok : cl_ok b) (hL : L ≤ 14) (hi : i < 196) (hv : v < 196) (h : cl_D b L i da on) (di : cl_dep b i = L) (bv : gp_bs i v) (dv : cl_dep b v + 1 = L)
    (m1 : ∀ p, cl_rc (cl_st b) i p → da' p = nI L) (m2 : ∀ p, ¬ cl_rc (cl_st b) i p → da' p = da p) (n1 : ∀ p, cl_rc (cl_st b) i p → on' p = nI v) (n2 : ∀ p, ¬ cl_rc (cl_st b) i p → on' p = on p) : cl_D b L (i + 1) da' on' := by
  obtain ⟨d1, d2, d3, d4, d5, o1, o2⟩ := h
  have nL : ¬ nI L = -1 := cl_nm1 (by omega)
  have dr : ∀ p, cl_rc (cl_st b) i p → cl_dep b p = L := fun p r => (cl_dep_p ok r).symm.trans di
  have un : ∀ p, da' p = -1 → ¬ cl_rc (cl_st b) i p := fun p e r => nL ((m1 p r).symm.trans e)
  refine ⟨fun p hp hd => ?_, fun p hp hd => ?_, fun p hp hd => ?_, fun p q hp hq r e => ?_, fun p hp hd hq => ?_, fun p hp e => ?_, fun p hp e => ?_⟩
  · rw [m2 p (fun r => by have := dr p r; omega)]
    exact d1 p hp hd
  · rw [m2 p (fun r => by have := dr p r; omega)]
    exact d2 p hp hd
  · by_cases r : cl_rc (cl_st b) i p
    · exact Or.inl (m1 p r)
    · rw [m2 p r]; exact d3 p hp hd
  · have np := un p e
    have nq : ¬ cl_rc (cl_st b) i q := fun z => np (cl_rc_t z (cl_root_pt r.symm))
    rw [m2 p np] at e
    rw [m2 q nq]
    exact d4 p q hp hq r e
  · by_cases r : cl_rc (cl_st b) i p
    · exact m1 p r
    · rw [m2 p r]
      refine d5 p ?_ hd hq
      by_cases e : p = i
      · subst e; exact absurd (cl_rc_r _ p) r
      · omega
  · have np := un p e
    rw [m2 p np] at e
    rw [n2 p np]
    exact o1 p hp e
  · by_cases r : cl_rc (cl_st b) i p
    · exact ⟨v, hv, n1 p r, fun _ => ⟨by rw [dr p r]; exact dv, i, hi, (cl_root_eq r).symm, bv⟩⟩
    · rw [m2 p r] at e
      obtain ⟨o, ho, eo, k⟩ := o2 p hp e
      exact ⟨o, ho, (n2 p r).trans eo, k⟩
theorem xd_in {post : SX → Prop} {J44 : Int32 → Int32 → Int32 → Int32 → Int32 → (Nat → Int32) → (Nat → Int32) → (Nat → Int32) → (Nat → Int32) → (Nat → Int32) → (Nat → Int32) → (Nat → Int32) → (Nat → Int32) → (Nat → Int32) → Prop} {L : Nat} {f_width f_height cc rn : Int32} {b cs rs pn al re : Nat → Int32} (ok : cl_ok b) (hL : 1 ≤ L) (hL2 : L < 14)
    (J : ∀ da on q, cl_D b (L + 1) 0 da on → J44 (nI (L + 1)) f_width f_height cc rn b cs rs pn da on q al re) :
    ∀ (n i : Nat) (da on q : Nat → Int32), i ≤ 196 → 196 < n + i → cl_D b L i da on → wX_measureDepths_52 post J44 (nI L) n (nI i) f_width f_height cc rn b cs rs pn da on q al re := by
  intro n
  induction n with
  | zero => intro i da on q h1 h2; omega
  | succ n ih =>
    intro i da on q h1 h2 hD
    by_cases h9 : i = 196
    · subst h9
      exact br_t (nI_le (a := 196) (b := 196) (by decide) (by decide)) (nm_r (nI_1 L) (J da on q (cl_D_up ok hL (by omega) hD)))
    · have hi : i < 196 := by omega
      have nL : ¬ nI L = -1 := cl_nm1 (by omega)
      refine br_f (nI_ge (b := 196) hi (by decide)) ⟨vp_in_nI hi (by decide), ?_⟩
      rw [nI_clamp (by omega)]
      by_cases hp : da i = -1
      · have eL : nI L - 1 = nI (L - 1) := by
          obtain ⟨l, rfl⟩ : ∃ l, L = l + 1 := ⟨L - 1, by omega⟩
          exact nI_pred l
        have hge : L ≤ cl_dep b i := Nat.not_lt.mp fun z => by
          have := hD.1 i hi z
          rw [hp] at this
          exact cl_nm1 (by omega) this.symm
        refine br_t hp ?_
        rw [eL]
        refine xb_beside hi (fun v hv bv ev => ?_) (fun hn => ?_)
        · have dv : cl_dep b v + 1 = L := by
            rcases Nat.lt_trichotomy (cl_dep b v) L with z | z | z
            · have := hD.1 v hv z
              rw [ev] at this
              have := (nI_eq (by omega) (by omega)).mp this
              omega
            · rcases hD.2.2.1 v hv z with k | k
              · rw [ev] at k
                have := (nI_eq (by omega) (by omega)).mp k
                omega
              · rw [ev] at k
                exact absurd k (cl_nm1 (by omega))
            · have := hD.2.1 v hv z
              rw [ev] at this
              exact absurd this (cl_nm1 (by omega))
          have di : cl_dep b i = L := by
            have := cl_dep_b ok hv hi (gp_bs_y bv)
            omega
          have hm : ∀ p, cl_rc (cl_st b) i p → da p = -1 := fun p r => hD.2.2.2.1 i p hi (cl_pt_lt hi r) (cl_root_eq r) hp
          refine br_f (cl_nm1 (Nat.lt_trans hv (by decide))) (xm_blackAt_depthAt hi nL hm (fun da' q' m1 m2 => ?_))
          refine xm_blackAt_outerNeighbour hi (cl_nm1 (Nat.lt_trans hv (by decide))) (fun p r => hD.2.2.2.2.2.1 p (cl_pt_lt hi r) (hm p r)) (fun on' q'' n1 n2 => ?_)
          exact nm_r (nI_1 i) (ih (i + 1) da' on' q'' (by omega) (by omega) (cl_D_ad ok (by omega) hi hv hD di bv dv m1 m2 n1 n2))
        · refine br_t rfl (nm_r (nI_1 i) (ih (i + 1) da on q (by omega) (by omega) (cl_D_sk hi hD (fun _ hq => ?_))))
          obtain ⟨v, hv, bv, dv⟩ := hq
          have := hD.1 v hv (by omega)
          exact absurd (this.trans (congrArg nI (by omega))) (hn v hv bv)
      · exact br_f hp (nm_r (nI_1 i) (ih (i + 1) da on q (by omega) (by omega) (cl_D_sk hi hD (fun e _ => (hD.2.2.1 i hi e).resolve_right hp))))
theorem xd_out {post : SX → Prop} {f_width f_height cc rn : Int32} {b cs rs pn al re : Nat → Int32} (ok : cl_ok b)
    (H : ∀ da on q : Nat → Int32, (∀ p, p < 196 → da p = nI (cl_dep b p)) → (∀ p, p < 196 → cl_o b on p) → post (f_width, f_height, cc, rn, b, cs, rs, pn, da, on, q, al, re)) :
    ∀ (n L : Nat) (da on q : Nat → Int32), 1 ≤ L → L ≤ 14 → 14 < n + L → cl_D b L 0 da on → wX_measureDepths_44 post n (nI L) f_width f_height cc rn b cs rs pn da on q al re := by
  intro n
  induction n with
  | zero => intro L da on q _ h1 h2; omega
  | succ n ih =>
    intro L da on q h0 h1 h2 hD
    by_cases h9 : L = 14
    · subst h9
      have ha : ∀ p, p < 196 → da p = nI (cl_dep b p) := fun p hp => hD.1 p hp (by have := cl_dep_13 ok hp; omega)
      exact br_t (nI_le (a := 14) (b := 14) (by decide) (by decide)) (H da on q ha (fun p hp => hD.2.2.2.2.2.2 p hp (by
        rw [ha p hp]
        exact cl_nm1 (by have := cl_dep_13 ok hp; omega))))
    · refine br_f (nI_ge (b := 14) (by omega) (by decide)) ⟨197, xd_in ok h0 (by omega) (fun da on q hD' => ih (L + 1) da on q (by omega) (by omega) (by omega) hD') 197 0 da on q (by decide) (by decide) hD⟩
theorem xd_meas {post : SX → Prop} {f_width f_height cc rn : Int32} {b cs rs pn da0 on0 q0 al re : Nat → Int32} (ok : cl_ok b)
    (H : ∀ da on q : Nat → Int32, (∀ p, p < 196 → da p = nI (cl_dep b p)) → (∀ p, p < 196 → cl_o b on p) → post (f_width, f_height, cc, rn, b, cs, rs, pn, da, on, q, al, re)) :
    wpX_measureDepths post (f_width, f_height, cc, rn, b, cs, rs, pn, da0, on0, q0, al, re) := by
  unfold wpX_measureDepths
  refine xu_depthAt (fun da1 e1 => ?_)
  refine xu_outerNeighbour (fun on1 e2 => ?_)
  refine xm_blackAt_depthAt (s := 0) (k := nI 0) (by decide) (cl_nm1 (by decide)) (fun p r => e1 p (cl_pt_lt (by decide) r)) (fun da2 q2 m1 m2 => ?_)
  refine xm_blackAt_outerNeighbour (s := 0) (k := nI 0) (by decide) (cl_nm1 (by decide)) (fun p r => e2 p (cl_pt_lt (by decide) r)) (fun on2 q3 n1 n2 => ?_)
  have dr : ∀ p, cl_rc (cl_st b) 0 p → cl_dep b p = 0 := fun p r => (cl_dep_p ok r).symm.trans (cl_dep_0 b)
  have un : ∀ p, p < 196 → cl_dep b p ≠ 0 → da2 p = -1 := fun p hp z => (m2 p (fun r => z (dr p r))).trans (e1 p hp)
  have rd : ∀ p, p < 196 → cl_dep b p = 0 → cl_rc (cl_st b) 0 p := fun p hp z => by
    rcases cl_dep_d ok hp with ⟨_, r⟩ | ⟨_, _, _, _, _, _, d⟩
    · exact cl_root_pt r
    · omega
  have n0 : ¬ nI 0 = -1 := cl_nm1 (by decide)
  refine ⟨14, xd_out ok H 14 1 da2 on2 q3 (by decide) (by decide) (by decide) ⟨fun p hp hd => ?_, fun p hp hd => un p hp (by omega), fun p hp hd => Or.inr (un p hp (by omega)), fun p q hp hq r e => ?_, fun p hp => absurd hp (Nat.not_lt_zero p), fun p hp e => ?_, fun p hp e => ?_⟩⟩
  · have z : cl_dep b p = 0 := by omega
    rw [m1 p (rd p hp z), z]
  · refine un q hq fun z => ?_
    have z' : cl_dep b p = 0 := (cl_dep_rt ok r).trans z
    exact n0 ((m1 p (rd p hp z')).symm.trans e)
  · refine (n2 p (fun r => n0 ((m1 p r).symm.trans e))).trans (e2 p hp)
  · have z : cl_dep b p = 0 := Classical.byContradiction fun z => e (un p hp z)
    exact ⟨0, by decide, n1 p (rd p hp z), fun y => absurd z y⟩
def cl_X (b : Nat → Int32) (cc rn : Int32) (cs rs pn da on : Nat → Int32) : Prop := cl_N b 196 cc rn cs rs pn ∧ (∀ p, p < 196 → da p = nI (cl_dep b p)) ∧ (∀ p, p < 196 → cl_o b on p)
theorem xs_survey {post : SX → Prop} {f_width f_height cc0 rn0 : Int32} {b cs0 rs0 pn0 da0 on0 q0 al re : Nat → Int32} (ok : cl_ok b)
    (H : ∀ (cc rn : Int32) (cs rs pn da on q : Nat → Int32), cl_X b cc rn cs rs pn da on → post (f_width, f_height, cc, rn, b, cs, rs, pn, da, on, q, al, re)) :
    wpX_survey post (f_width, f_height, cc0, rn0, b, cs0, rs0, pn0, da0, on0, q0, al, re) := by
  unfold wpX_survey
  refine xn_parts ok (fun cc rn cs rs pn q hN => ?_)
  exact xd_meas ok (fun da on q' h1 h2 => H cc rn cs rs pn da on q' ⟨hN, h1, h2⟩)
