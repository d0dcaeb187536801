/-! reach, counts, the grid, parts, depths -/
def cl_rc (R : Nat → Nat → Prop) (p q : Nat) : Prop := ∀ S : Nat → Prop, S p → (∀ u v, S u → R u v → S v) → S q
theorem cl_rc_r (R : Nat → Nat → Prop) (p : Nat) : cl_rc R p p := fun _ h _ => h
theorem cl_rc_s {R : Nat → Nat → Prop} {p u v : Nat} (h : cl_rc R p u) (e : R u v) : cl_rc R p v := fun S h0 hs => hs u v (h S h0 hs) e
theorem cl_rc_1 {R : Nat → Nat → Prop} {u v : Nat} (e : R u v) : cl_rc R u v := cl_rc_s (cl_rc_r R u) e
theorem cl_rc_t {R : Nat → Nat → Prop} {p q r : Nat} (h : cl_rc R p q) (k : cl_rc R q r) : cl_rc R p r := k (fun x => cl_rc R p x) h (fun _ _ a e => cl_rc_s a e)
theorem cl_rc_y {R : Nat → Nat → Prop} (sy : ∀ u v, R u v → R v u) {p q : Nat} (h : cl_rc R p q) : cl_rc R q p :=
  h (fun x => cl_rc R x p) (cl_rc_r R p) (fun u v a e => cl_rc_t (cl_rc_1 (sy u v e)) a)
theorem cl_rc_m {R R' : Nat → Nat → Prop} (sub : ∀ u v, R u v → R' u v) {p q : Nat} (h : cl_rc R p q) : cl_rc R' p q :=
  h (fun x => cl_rc R' p x) (cl_rc_r R' p) (fun u v a e => cl_rc_s a (sub u v e))
/-! counts -/
noncomputable def cl_one (P : Prop) : Nat := @ite Nat P (Classical.propDecidable P) 1 0
theorem cl_one_t {P : Prop} (h : P) : cl_one P = 1 := @if_pos P (Classical.propDecidable P) h Nat 1 0
theorem cl_one_f {P : Prop} (h : ¬ P) : cl_one P = 0 := @if_neg P (Classical.propDecidable P) h Nat 1 0
noncomputable def cl_cnt (P : Nat → Prop) : Nat → Nat
  | 0 => 0
  | n + 1 => cl_cnt P n + cl_one (P n)
theorem cl_cnt_0 (P : Nat → Prop) : cl_cnt P 0 = 0 := rfl
theorem cl_cnt_t {P : Nat → Prop} {n : Nat} (h : P n) : cl_cnt P (n + 1) = cl_cnt P n + 1 := by
  show cl_cnt P n + cl_one (P n) = _
  rw [cl_one_t h]
theorem cl_cnt_f {P : Nat → Prop} {n : Nat} (h : ¬ P n) : cl_cnt P (n + 1) = cl_cnt P n := by
  show cl_cnt P n + cl_one (P n) = _
  rw [cl_one_f h]; rfl
theorem cl_cnt_le (P : Nat → Prop) (n : Nat) : cl_cnt P n ≤ n := by
  induction n with
  | zero => exact Nat.le_refl 0
  | succ n ih =>
    by_cases h : P n
    · rw [cl_cnt_t h]; omega
    · rw [cl_cnt_f h]; omega
theorem cl_cnt_s (P : Nat → Prop) (n : Nat) : cl_cnt P n ≤ cl_cnt P (n + 1) := by
  by_cases h : P n
  · rw [cl_cnt_t h]; omega
  · rw [cl_cnt_f h]; omega
theorem cl_cnt_mo (P : Nat → Prop) {m n : Nat} (h : m ≤ n) : cl_cnt P m ≤ cl_cnt P n := by
  induction n with
  | zero =>
    have e : m = 0 := by omega
    rw [e]; exact Nat.le_refl _
  | succ n ih =>
    by_cases e : m = n + 1
    · rw [e]; exact Nat.le_refl _
    · exact Nat.le_trans (ih (by omega)) (cl_cnt_s P n)
theorem cl_cnt_lt {P : Nat → Prop} {m n : Nat} (h : m < n) (hm : P m) : cl_cnt P m < cl_cnt P n := by
  have a := cl_cnt_mo P (m := m + 1) (n := n) (by omega)
  rw [cl_cnt_t hm] at a
  omega
theorem cl_cnt_inj {P : Nat → Prop} {m n : Nat} (hm : P m) (hn : P n) (e : cl_cnt P m = cl_cnt P n) : m = n := by
  rcases Nat.lt_trichotomy m n with h | h | h
  · have := cl_cnt_lt h hm; omega
  · exact h
  · have := cl_cnt_lt h hn; omega
theorem cl_cnt_c {P Q : Nat → Prop} {n : Nat} (h : ∀ j, j < n → (P j ↔ Q j)) : cl_cnt P n = cl_cnt Q n := by
  induction n with
  | zero => rfl
  | succ n ih =>
    have e := ih (fun j hj => h j (by omega))
    by_cases k : P n
    · rw [cl_cnt_t k, cl_cnt_t ((h n (by omega)).mp k), e]
    · rw [cl_cnt_f k, cl_cnt_f (fun z => k ((h n (by omega)).mpr z)), e]
theorem cl_cnt_sub {P Q : Nat → Prop} {n : Nat} (h : ∀ j, j < n → P j → Q j) : cl_cnt P n ≤ cl_cnt Q n := by
  induction n with
  | zero => exact Nat.le_refl 0
  | succ n ih =>
    have e := ih (fun j hj => h j (by omega))
    by_cases k : P n
    · rw [cl_cnt_t k, cl_cnt_t (h n (by omega) k)]; omega
    · rw [cl_cnt_f k]; exact Nat.le_trans e (cl_cnt_s Q n)
theorem cl_cnt_sl {P Q : Nat → Prop} {n x : Nat} (h : ∀ j, j < n → P j → Q j) (hx : x < n) (hp : ¬ P x) (hq : Q x) : cl_cnt P n < cl_cnt Q n := by
  induction n with
  | zero => omega
  | succ n ih =>
    by_cases e : x = n
    · subst e
      rw [cl_cnt_f hp, cl_cnt_t hq]
      have := cl_cnt_sub (n := x) (fun j hj => h j (by omega))
      omega
    · have i := ih (fun j hj => h j (by omega)) (by omega)
      by_cases k : P n
      · rw [cl_cnt_t k, cl_cnt_t (h n (by omega) k)]; omega
      · rw [cl_cnt_f k]; exact Nat.lt_of_lt_of_le i (cl_cnt_s Q n)
theorem cl_cnt_un {P : Nat → Prop} {n x : Nat} (hx : x < n) (hp : ¬ P x) : cl_cnt (fun j => P j ∨ j = x) n = cl_cnt P n + 1 := by
  induction n with
  | zero => omega
  | succ n ih =>
    by_cases e : x = n
    · subst e
      rw [cl_cnt_f hp, cl_cnt_t (Or.inr rfl)]
      have := cl_cnt_c (P := fun j => P j ∨ j = x) (Q := P) (n := x) (fun j hj => ⟨fun z => z.elim id (fun z => absurd z (by omega)), Or.inl⟩)
      omega
    · have i := ih (by omega)
      by_cases k : P n
      · rw [cl_cnt_t k, cl_cnt_t (Or.inl k)]; omega
      · rw [cl_cnt_f k, cl_cnt_f (fun z => z.elim k (fun z => e z.symm))]; omega
theorem cl_cnt_nf {P : Nat → Prop} {n x : Nat} (hx : x < n) (hp : ¬ P x) : cl_cnt P n < n := by
  have := cl_cnt_un hx hp
  have := cl_cnt_le (fun j => P j ∨ j = x) n
  omega
theorem cl_cnt_z {P : Nat → Prop} {n : Nat} (h : ∀ j, j < n → ¬ P j) : cl_cnt P n = 0 := by
  induction n with
  | zero => rfl
  | succ n ih => rw [cl_cnt_f (h n (by omega)), ih (fun j hj => h j (by omega))]
theorem cl_cnt_ex {P : Nat → Prop} {n k : Nat} (h : k < cl_cnt P n) : ∃ r, r < n ∧ P r ∧ cl_cnt P r = k := by
  induction n with
  | zero => exact absurd h (Nat.not_lt_zero k)
  | succ n ih =>
    by_cases hk : k < cl_cnt P n
    · obtain ⟨r, a, b, c⟩ := ih hk
      exact ⟨r, by omega, b, c⟩
    · by_cases hp : P n
      · rw [cl_cnt_t hp] at h
        exact ⟨n, by omega, hp, by omega⟩
      · rw [cl_cnt_f hp] at h
        exact absurd h hk
/-- a set of settled places that grows -/
theorem cl_grow {A A' : Nat → Prop} {T : Nat → Nat → Prop} (sub : ∀ p, A p → A' p) (st : ∀ p q, p < 196 → A q → T p q → A' p) (gen : (∀ p q, p < 196 → A q → T p q → A p) → ∀ p, p < 196 → A p) (hn : ¬ ∀ p, p < 196 → A p) : cl_cnt A 196 < cl_cnt A' 196 := by
  by_cases h : ∃ p, p < 196 ∧ ¬ A p ∧ ∃ q, A q ∧ T p q
  · obtain ⟨p, hp, na, q, aq, t⟩ := h
    exact cl_cnt_sl (fun j _ => sub j) hp na (st p q hp aq t)
  · exact absurd (gen fun p q hp aq t => Classical.byContradiction fun na => h ⟨p, hp, na, q, aq, t⟩) hn
