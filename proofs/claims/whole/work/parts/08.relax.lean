/-! sweeps that lower values along edges, until nothing changes -/
def cl_S (K : Nat → Nat → Nat → Nat → Prop) (R : Nat → Nat → Prop) (g0 : Nat → Nat) (i d : Nat) (rt : Nat → Int32) (ch : Int32) : Prop :=
  ∃ g : Nat → Nat, (∀ p, p < 196 → rt p = nI (g p)) ∧ (∀ p, p < 196 → R p (g p)) ∧ (∀ p, p < 196 → g p ≤ g0 p) ∧ (∀ p, p < i → ∀ e, e < 9 → ∀ q c, K p e q c → g p ≤ g0 q + c) ∧ (∀ e, e < d → ∀ q c, K i e q c → g i ≤ g0 q + c) ∧ (ch = 0 → ∀ p, p < 196 → g p = g0 p) ∧ (ch = 0 ∨ ch = 1)
/-- what an edge rule and a value rule must keep -/
def cl_KR (K : Nat → Nat → Nat → Nat → Prop) (R : Nat → Nat → Prop) : Prop :=
  (∀ p n, R p n → n ≤ 500) ∧ (∀ i e q c, K i e q c → q < 196 ∧ c ≤ 1) ∧ (∀ i e q c q' c', K i e q c → K i e q' c' → q = q' ∧ c = c') ∧ (∀ i e q c n m, i < 196 → e < 9 → K i e q c → R q n → R i m → n + c < m → R i (n + c))
theorem cl_S_0 {K : Nat → Nat → Nat → Nat → Prop} {R : Nat → Nat → Prop} {g0 : Nat → Nat} {rt : Nat → Int32} (h : ∀ p, p < 196 → rt p = nI (g0 p)) (hr : ∀ p, p < 196 → R p (g0 p)) : cl_S K R g0 0 0 rt 0 :=
  ⟨g0, h, hr, fun _ _ => Nat.le_refl _, fun p hp => absurd hp (Nat.not_lt_zero p), fun e he => absurd he (Nat.not_lt_zero e), fun _ _ _ => rfl, Or.inl rfl⟩
theorem cl_S_nx {K : Nat → Nat → Nat → Nat → Prop} {R : Nat → Nat → Prop} {g0 : Nat → Nat} {i : Nat} {rt : Nat → Int32} {ch : Int32} (h : cl_S K R g0 i 9 rt ch) : cl_S K R g0 (i + 1) 0 rt ch := by
  obtain ⟨g, a1, a2, a3, a4, a5, a6, a7⟩ := h
  refine ⟨g, a1, a2, a3, fun p hp e he q c k => ?_, fun e he => absurd he (Nat.not_lt_zero e), a6, a7⟩
  by_cases z : p = i
  · subst z; exact a5 e he q c k
  · exact a4 p (by omega) e he q c k
theorem cl_S_s0 {K : Nat → Nat → Nat → Nat → Prop} {R : Nat → Nat → Prop} {g0 : Nat → Nat} {i d : Nat} {rt : Nat → Int32} {ch : Int32} (h : cl_S K R g0 i d rt ch) (n : ∀ q c, ¬ K i d q c) : cl_S K R g0 i (d + 1) rt ch := by
  obtain ⟨g, a1, a2, a3, a4, a5, a6, a7⟩ := h
  refine ⟨g, a1, a2, a3, a4, fun e he q c k => ?_, a6, a7⟩
  by_cases z : e = d
  · subst z; exact absurd k (n q c)
  · exact a5 e (by omega) q c k
theorem cl_S_s1 {K : Nat → Nat → Nat → Nat → Prop} {R : Nat → Nat → Prop} {g0 : Nat → Nat} {i d q c : Nat} {rt : Nat → Int32} {ch : Int32} (kr : cl_KR K R) (hi : i < 196) (h : cl_S K R g0 i d rt ch) (k : K i d q c) (le : rt i ≤ rt q + nI c) : cl_S K R g0 i (d + 1) rt ch := by
  obtain ⟨g, a1, a2, a3, a4, a5, a6, a7⟩ := h
  obtain ⟨hq, hc⟩ := kr.2.1 i d q c k
  have b1 := kr.1 _ _ (a2 i hi)
  have b2 := kr.1 _ _ (a2 q hq)
  rw [a1 i hi, a1 q hq, nI_add, nI_leI (by omega) (by omega)] at le
  refine ⟨g, a1, a2, a3, a4, fun e he q' c' k' => ?_, a6, a7⟩
  by_cases z : e = d
  · subst z
    obtain ⟨rfl, rfl⟩ := kr.2.2.1 _ _ _ _ _ _ k k'
    have := a3 q hq
    omega
  · exact a5 e (by omega) q' c' k'
theorem cl_S_up {K : Nat → Nat → Nat → Nat → Prop} {R : Nat → Nat → Prop} {g0 : Nat → Nat} {i d q c : Nat} {rt : Nat → Int32} {ch : Int32} (kr : cl_KR K R) (hi : i < 196) (hd : d < 9) (h : cl_S K R g0 i d rt ch) (k : K i d q c) (le : ¬ rt i ≤ rt q + nI c) : cl_S K R g0 i (d + 1) (upd rt i (rt q + nI c)) 1 := by
  obtain ⟨g, a1, a2, a3, a4, a5, a6, a7⟩ := h
  obtain ⟨hq, hc⟩ := kr.2.1 i d q c k
  have b1 := kr.1 _ _ (a2 i hi)
  have b2 := kr.1 _ _ (a2 q hq)
  rw [a1 i hi, a1 q hq, nI_add, nI_leI (by omega) (by omega)] at le
  have lt : g q + c < g i := by omega
  have us : (fun p => if p = i then g q + c else g p) i = g q + c := if_pos rfl
  have un : ∀ p, p ≠ i → (fun p => if p = i then g q + c else g p) p = g p := fun p h => if_neg h
  refine ⟨fun p => if p = i then g q + c else g p, fun p hp => ?_, fun p hp => ?_, fun p hp => ?_, fun p hp e he q' c' k' => ?_, fun e he q' c' k' => ?_, fun z => absurd z (by decide), Or.inr rfl⟩
  · by_cases z : p = i
    · subst z
      rw [pk_us, us, a1 q hq, nI_add]
    · rw [pk_un z, un p z]; exact a1 p hp
  · by_cases z : p = i
    · subst z
      rw [us]
      exact kr.2.2.2 p d q c _ _ hp hd k (a2 q hq) (a2 p hp) lt
    · rw [un p z]; exact a2 p hp
  · by_cases z : p = i
    · subst z
      rw [us]
      have := a3 p hp
      omega
    · rw [un p z]; exact a3 p hp
  · rw [un p (by omega)]
    exact a4 p hp e he q' c' k'
  · rw [us]
    by_cases z : e = d
    · subst z
      obtain ⟨rfl, rfl⟩ := kr.2.2.1 _ _ _ _ _ _ k k'
      have := a3 q hq
      omega
    · have := a5 e (by omega) q' c' k'
      omega
/-- the rounds: all settled, or changed and enough settled -/
def cl_G (R : Nat → Nat → Prop) (T : Nat → Nat) (r : Nat) (x : Int32) (rt : Nat → Int32) : Prop :=
  ∃ g : Nat → Nat, (∀ p, p < 196 → rt p = nI (g p)) ∧ (∀ p, p < 196 → R p (g p)) ∧ ((∀ p, p < 196 → g p = T p) ∨ (x ≠ 0 ∧ r < cl_cnt (fun p => p < 196 ∧ g p = T p) 196))
theorem cl_G_x {R : Nat → Nat → Prop} {T : Nat → Nat} {r : Nat} {x : Int32} {rt : Nat → Int32} (h : cl_G R T r x rt) (e : 197 ≤ r ∨ x = 0) : ∀ p, p < 196 → rt p = nI (T p) := by
  obtain ⟨g, a1, a2, a3⟩ := h
  intro p hp
  rcases a3 with z | ⟨z, y⟩
  · rw [a1 p hp, z p hp]
  · rcases e with e | e
    · have := cl_cnt_le (fun p => p < 196 ∧ g p = T p) 196
      omega
    · exact absurd e z
theorem cl_G_s {K : Nat → Nat → Nat → Nat → Prop} {R : Nat → Nat → Prop} {T : Nat → Nat} {r : Nat} {ch : Int32} {rt' : Nat → Int32} {g : Nat → Nat} (lo : ∀ p n, p < 196 → R p n → T p ≤ n) (kt : ∀ i e q c, K i e q c → q < 196)
    (gen : ∀ g : Nat → Nat, (∀ p, p < 196 → R p (g p)) → (∀ p e q c, p < 196 → e < 9 → K p e q c → g q = T q → T p = T q + c → g p = T p) → ∀ p, p < 196 → g p = T p)
    (a2 : ∀ p, p < 196 → R p (g p)) (a3 : (∀ p, p < 196 → g p = T p) ∨ r < cl_cnt (fun p => p < 196 ∧ g p = T p) 196) (h : cl_S K R g 196 0 rt' ch) : cl_G R T (r + 1) ch rt' := by
  obtain ⟨g', b1, b2, b3, b4, b5, b6, b7⟩ := h
  refine ⟨g', b1, b2, ?_⟩
  by_cases all : ∀ p, p < 196 → g p = T p
  · refine Or.inl fun p hp => ?_
    have := lo p _ hp (b2 p hp)
    have := b3 p hp
    have := all p hp
    omega
  · have y := a3.resolve_left all
    have gr := cl_grow (A := fun p => p < 196 ∧ g p = T p) (A' := fun p => p < 196 ∧ g' p = T p) (T := fun p q => ∃ e c, e < 9 ∧ K p e q c ∧ T p = T q + c)
      (fun p hp => ⟨hp.1, by
        have := lo p _ hp.1 (b2 p hp.1)
        have := b3 p hp.1
        have := hp.2
        omega⟩)
      (fun p q hp hq t => ⟨hp, by
        obtain ⟨e, c, he, k, tt⟩ := t
        have := lo p _ hp (b2 p hp)
        have := b4 p hp e he q c k
        have := hq.2
        omega⟩)
      (fun cl p hp => ⟨hp, gen g a2 (fun p e q c hp he k gq tt => (cl p q hp ⟨kt p e q c k, gq⟩ ⟨e, c, he, k, tt⟩).2) p hp⟩)
      (fun z => all fun p hp => (z p hp).2)
    refine Or.inr ⟨fun z => ?_, by omega⟩
    have e := cl_cnt_c (P := fun p => p < 196 ∧ g p = T p) (Q := fun p => p < 196 ∧ g' p = T p) (n := 196) (fun p hp => by
      have := b6 z p hp
      rw [this])
    omega
/-! roots -/
def cl_K1 (b : Nat → Int32) (i e q c : Nat) : Prop := cl_to i e q ∧ b i = b q ∧ (b i ≠ 0 ∨ e % 2 = 1) ∧ c = 0
def cl_R1 (b : Nat → Int32) (p n : Nat) : Prop := p < 196 ∧ n ≤ p ∧ cl_rc (cl_st b) p n
theorem cl_KR1 (b : Nat → Int32) : cl_KR (cl_K1 b) (cl_R1 b) := by
  refine ⟨fun p n h => ?_, fun i e q c h => ⟨h.1.1, by have := h.2.2.2; omega⟩, fun i e q c q' c' h k => ⟨cl_to_un h.1 k.1, h.2.2.2.trans k.2.2.2.symm⟩, fun i e q c n m hi he k r rm hn => ?_⟩
  · have := h.1
    have := h.2.1
    omega
  · have s := cl_to_st hi he k.2.2.1 k.1 k.2.1
    have c0 := k.2.2.2
    subst c0
    have := rm.2.1
    exact ⟨hi, by omega, cl_rc_t (cl_rc_1 s) r.2.2⟩
theorem cl_gen1 (b : Nat → Int32) (g : Nat → Nat) (hr : ∀ p, p < 196 → cl_R1 b p (g p)) (cl : ∀ p e q c, p < 196 → e < 9 → cl_K1 b p e q c → g q = cl_root b q → cl_root b p = cl_root b q + c → g p = cl_root b p) : ∀ p, p < 196 → g p = cl_root b p := by
  intro p hp
  have base : g (cl_root b p) = cl_root b (cl_root b p) := by
    have h := hr (cl_root b p) (cl_root_lt hp)
    have := cl_root_le h.2.2
    have := h.2.1
    have := cl_root_i b p
    omega
  refine cl_pt_y (cl_root_rc b p) (fun x => g x = cl_root b x) base (fun u v a e => ?_)
  obtain ⟨d, hd, o, t⟩ := cl_st_to (cl_st_y u v e)
  exact cl v d u 0 e.2.1 hd ⟨t, e.2.2.1.symm, o, rfl⟩ a (cl_root_s e).symm
/-! depths -/
def cl_K2 (b : Nat → Int32) (i e q c : Nat) : Prop := cl_to i e q ∧ ((b i = b q ∧ (b i ≠ 0 ∨ e % 2 = 1) ∧ c = 0) ∨ (b i ≠ b q ∧ e % 2 = 1 ∧ c = 1))
def cl_R2 (b : Nat → Int32) (p n : Nat) : Prop := n ≤ 500 ∧ (n = 500 ∨ cl_W b p n) ∧ (p = 0 → n = 0)
theorem cl_KR2 (b : Nat → Int32) : cl_KR (cl_K2 b) (cl_R2 b) := by
  refine ⟨fun p n h => h.1, fun i e q c h => ⟨h.1.1, ?_⟩, fun i e q c q' c' h k => ?_, fun i e q c n m hi he k r rm hn => ?_⟩
  · rcases h.2 with z | z
    · have := z.2.2; omega
    · have := z.2.2; omega
  · have eq := cl_to_un h.1 k.1
    subst eq
    refine ⟨rfl, ?_⟩
    rcases h.2 with z | z <;> rcases k.2 with y | y
    · exact z.2.2.trans y.2.2.symm
    · exact absurd z.1 y.1
    · exact absurd y.1 z.1
    · exact z.2.2.trans y.2.2.symm
  · have hm := rm.1
    refine ⟨by omega, Or.inr ?_, fun z => ?_⟩
    · have w : cl_W b q n := r.2.1.resolve_left (by omega)
      rcases k.2 with z | z
      · have c0 := z.2.2
        subst c0
        exact cl_W_s w (cl_st_y _ _ (cl_to_st hi he z.2.1 k.1 z.1))
      · have c1 := z.2.2
        subst c1
        exact cl_W_b w k.1.1 hi (gp_bs_y (cl_to_bs hi he z.2.1 k.1)) (fun y => z.1 y.symm)
    · have := rm.2.2 z
      omega
theorem cl_lo2 {b : Nat → Int32} (ok : cl_ok b) (p n : Nat) (hp : p < 196) (h : cl_R2 b p n) : cl_dep b p ≤ n := by
  rcases h.2.1 with z | z
  · have := cl_dep_13 ok hp
    omega
  · exact cl_dep_le z
theorem cl_gen2 {b : Nat → Int32} (ok : cl_ok b) (g : Nat → Nat) (hr : ∀ p, p < 196 → cl_R2 b p (g p)) (cl : ∀ p e q c, p < 196 → e < 9 → cl_K2 b p e q c → g q = cl_dep b q → cl_dep b p = cl_dep b q + c → g p = cl_dep b p) : ∀ p, p < 196 → g p = cl_dep b p := by
  intro p hp
  have k := cl_dep_W ok hp (fun p n => cl_W b p n ∧ (n = cl_dep b p → g p = cl_dep b p)) ⟨cl_W_0 b, fun _ => by
    rw [cl_dep_0]; exact (hr 0 (by decide)).2.2 rfl⟩
    (fun u v n i e => ⟨cl_W_s i.1 e, fun z => by
      have dd := cl_dep_s ok e
      obtain ⟨d, hd, o, t⟩ := cl_st_to (cl_st_y u v e)
      exact cl v d u 0 e.2.1 hd ⟨t, Or.inl ⟨e.2.2.1.symm, o, rfl⟩⟩ (i.2 (z.trans dd.symm)) dd.symm⟩)
    (fun u v n i hu hv e c => ⟨cl_W_b i.1 hu hv e c, fun z => by
      have d1 := cl_dep_le i.1
      have d2 := cl_dep_b ok hu hv e
      obtain ⟨d, hd, o, t⟩ := cl_bs_to hv hu (gp_bs_y e)
      exact cl v d u 1 hv hd ⟨t, Or.inr ⟨fun y => c y.symm, o, rfl⟩⟩ (i.2 (by omega)) (by omega)⟩)
  exact k.2 rfl
/-! reached: sweeps that push -/
def cl_P (b : Nat → Int32) (Z : Nat) (r0 : Nat → Int32) (i d : Nat) (re : Nat → Int32) (ch : Int32) : Prop :=
  (∀ p, p < 196 → re p ≠ 0 → cl_rc (cl_av b Z) 0 p) ∧ (∀ p, p < 196 → r0 p ≠ 0 → re p ≠ 0) ∧ (∀ p, p < i → ∀ e, e < 9 → e % 2 = 1 → ∀ q, cl_to p e q → cl_root b q ≠ Z → r0 p ≠ 0 → re q ≠ 0) ∧ (∀ e, e < d → e % 2 = 1 → ∀ q, cl_to i e q → cl_root b q ≠ Z → r0 i ≠ 0 → re q ≠ 0) ∧ (ch = 0 → ∀ p, p < 196 → re p ≠ 0 → r0 p ≠ 0) ∧ (ch = 0 ∨ ch = 1)
theorem cl_P_0 {b : Nat → Int32} {Z : Nat} {r0 : Nat → Int32} (h : ∀ p, p < 196 → r0 p ≠ 0 → cl_rc (cl_av b Z) 0 p) : cl_P b Z r0 0 1 r0 0 :=
  ⟨h, fun _ _ z => z, fun p hp => absurd hp (Nat.not_lt_zero p), fun e he o => by omega, fun _ _ _ z => z, Or.inl rfl⟩
theorem cl_P_nx {b : Nat → Int32} {Z : Nat} {r0 : Nat → Int32} {i : Nat} {re : Nat → Int32} {ch : Int32} (h : cl_P b Z r0 i 9 re ch) : cl_P b Z r0 (i + 1) 1 re ch := by
  obtain ⟨a1, a2, a3, a4, a5, a6⟩ := h
  refine ⟨a1, a2, fun p hp e he o q t n k => ?_, fun e he o => by omega, a5, a6⟩
  by_cases z : p = i
  · subst z; exact a4 e he o q t n k
  · exact a3 p (by omega) e he o q t n k
theorem cl_P_sk {b : Nat → Int32} {Z : Nat} {r0 : Nat → Int32} {i d : Nat} {re : Nat → Int32} {ch : Int32} (hd : d % 2 = 1) (h : cl_P b Z r0 i d re ch) (n : ∀ q, cl_to i d q → cl_root b q ≠ Z → r0 i ≠ 0 → re q ≠ 0) : cl_P b Z r0 i (d + 2) re ch := by
  obtain ⟨a1, a2, a3, a4, a5, a6⟩ := h
  refine ⟨a1, a2, a3, fun e he o q t k y => ?_, a5, a6⟩
  by_cases z : e = d
  · subst z; exact n q t k y
  · exact a4 e (by omega) o q t k y
theorem cl_P_up {b : Nat → Int32} {Z : Nat} {r0 : Nat → Int32} {i d q : Nat} {re : Nat → Int32} {ch : Int32} (hi : i < 196) (hd9 : d < 9) (hd : d % 2 = 1) (h : cl_P b Z r0 i d re ch) (t : cl_to i d q) (n : cl_root b q ≠ Z) (k : re i ≠ 0) : cl_P b Z r0 i (d + 2) (upd re q 1) 1 := by
  obtain ⟨a1, a2, a3, a4, a5, a6⟩ := h
  have us : upd re q 1 q ≠ 0 := by rw [pk_us]; decide
  have mo : ∀ p, re p ≠ 0 → upd re q 1 p ≠ 0 := fun p h => by
    by_cases z : p = q
    · subst z; exact us
    · rw [pk_un z]; exact h
  refine ⟨fun p hp z => ?_, fun p hp z => mo p (a2 p hp z), fun p hp e he o q' t' n' k' => mo _ (a3 p hp e he o q' t' n' k'), fun e he o q' t' n' k' => ?_, fun z => absurd z (by decide), Or.inr rfl⟩
  · by_cases y : p = q
    · subst y
      exact cl_rc_s (a1 i hi k) ⟨hi, hp, cl_to_bs hi hd9 hd t, n⟩
    · rw [pk_un y] at z
      exact a1 p hp z
  · by_cases z : e = d
    · subst z
      rw [cl_to_un t' t]; exact us
    · exact mo _ (a4 e (by omega) o q' t' n' k')
def cl_Q (b : Nat → Int32) (Z : Nat) (r : Nat) (x : Int32) (re : Nat → Int32) : Prop :=
  (∀ p, p < 196 → re p ≠ 0 → cl_rc (cl_av b Z) 0 p) ∧ re 0 ≠ 0 ∧ ((∀ p, p < 196 → cl_rc (cl_av b Z) 0 p → re p ≠ 0) ∨ (x ≠ 0 ∧ r < cl_cnt (fun p => cl_rc (cl_av b Z) 0 p → re p ≠ 0) 196))
theorem cl_Q_x {b : Nat → Int32} {Z r : Nat} {x : Int32} {re : Nat → Int32} (h : cl_Q b Z r x re) (e : 197 ≤ r ∨ x = 0) : ∀ p, p < 196 → (re p ≠ 0 ↔ cl_rc (cl_av b Z) 0 p) := by
  obtain ⟨a1, a2, a3⟩ := h
  intro p hp
  refine ⟨a1 p hp, ?_⟩
  rcases a3 with z | ⟨z, y⟩
  · exact z p hp
  · rcases e with e | e
    · have := cl_cnt_le (fun p => cl_rc (cl_av b Z) 0 p → re p ≠ 0) 196
      omega
    · exact absurd e z
theorem cl_Q_s {b : Nat → Int32} {Z r : Nat} {x ch : Int32} {re re' : Nat → Int32} (h : cl_Q b Z r x re) (h' : cl_P b Z re 196 1 re' ch) : cl_Q b Z (r + 1) ch re' := by
  obtain ⟨a1, a2, a3⟩ := h
  obtain ⟨b1, b2, b3, b4, b5, b6⟩ := h'
  refine ⟨b1, b2 0 (by decide) a2, ?_⟩
  by_cases all : ∀ p, p < 196 → cl_rc (cl_av b Z) 0 p → re p ≠ 0
  · exact Or.inl fun p hp k => b2 p hp (all p hp k)
  · have y := a3.resolve_left all
    have gr := cl_grow (A := fun p => cl_rc (cl_av b Z) 0 p → p < 196 ∧ re p ≠ 0) (A' := fun p => cl_rc (cl_av b Z) 0 p → p < 196 ∧ re' p ≠ 0) (T := fun p q => cl_av b Z q p ∧ cl_rc (cl_av b Z) 0 q)
      (fun p h k => ⟨(h k).1, b2 p (h k).1 (h k).2⟩)
      (fun p q hp hq t _ => by
        obtain ⟨e, he, o, to⟩ := cl_bs_to t.1.1 t.1.2.1 t.1.2.2.1
        exact ⟨hp, b3 q t.1.1 e he o p to t.1.2.2.2 (hq t.2).2⟩)
      (fun cl p hp k => by
        have := k (fun x => cl_rc (cl_av b Z) 0 x ∧ x < 196 ∧ re x ≠ 0) ⟨cl_rc_r _ 0, by decide, a2⟩ (fun u v i e => by
          have rv := cl_rc_s i.1 e
          exact ⟨rv, cl v u e.2.1 (fun _ => i.2) ⟨e, i.1⟩ rv⟩)
        exact this.2)
      (fun z => all fun p hp k => (z p hp k).2)
    have e1 := cl_cnt_c (P := fun p => cl_rc (cl_av b Z) 0 p → p < 196 ∧ re p ≠ 0) (Q := fun p => cl_rc (cl_av b Z) 0 p → re p ≠ 0) (n := 196) (fun p hp => ⟨fun z k => (z k).2, fun z k => ⟨hp, z k⟩⟩)
    have e2 := cl_cnt_c (P := fun p => cl_rc (cl_av b Z) 0 p → p < 196 ∧ re' p ≠ 0) (Q := fun p => cl_rc (cl_av b Z) 0 p → re' p ≠ 0) (n := 196) (fun p hp => ⟨fun z k => (z k).2, fun z k => ⟨hp, z k⟩⟩)
    refine Or.inr ⟨fun z => ?_, by omega⟩
    have e := cl_cnt_sub (P := fun p => cl_rc (cl_av b Z) 0 p → re' p ≠ 0) (Q := fun p => cl_rc (cl_av b Z) 0 p → re p ≠ 0) (n := 196) (fun p hp f k => b5 z p hp (f k))
    omega
