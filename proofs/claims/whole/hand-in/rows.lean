section
theorem pk_us {f : Nat → Int32} {k : Nat} {x : Int32} : upd f k x k = x := if_pos rfl
theorem pk_un {f : Nat → Int32} {k j : Nat} {x : Int32} (h : j ≠ k) : upd f k x j = f j := if_neg h
theorem pk_sub {a b : Nat} (h : b ≤ a) : nI a - nI b = nI (a - b) := by
  obtain ⟨c, rfl⟩ : ∃ c, a = c + b := ⟨a - b, by omega⟩
  rw [← nI_add, Int32.add_sub_cancel, Nat.add_sub_cancel]
theorem pk_m1 (n : Nat) : nI (n + 1) + (-1) = nI n := by
  rw [← nI_1, Int32.add_assoc, show (1 : Int32) + (-1) = 0 from rfl, Int32.add_zero]
theorem pk_mul (a b : Nat) : nI a * nI b = nI (a * b) := (Int32.ofNat_mul a b).symm
theorem pk_div {a d : Nat} (ha : a < 2 ^ 31) (h0 : 0 < d) (hd : d < 2 ^ 31) : nI a / nI d = nI (a / d) := by
  apply Int32.toInt_inj.mp
  rw [lg_idiv_nonneg (by rw [nI_toInt ha]; omega) (by rw [nI_toInt hd]; omega), nI_toInt ha, nI_toInt hd, nI_toInt (Nat.lt_of_le_of_lt (Nat.div_le_self a d) ha)]
  first | rfl | exact (Int.natCast_ediv _ _).symm
theorem pk_rem {a d : Nat} (ha : a < 2 ^ 31) (h0 : 0 < d) (hd : d < 2 ^ 31) : nI a - nI a / nI d * nI d = nI (a % d) := by
  rw [pk_div ha h0 hd, pk_mul, pk_sub (Nat.div_mul_le_self a d)]
  exact congrArg nI (by have := Nat.div_add_mod' a d; omega)
theorem pk_sub_toInt {a b : Nat} (ha : a < 2 ^ 30) (hb : b < 2 ^ 30) : (nI a - nI b).toInt = (a : Int) - b := by
  rw [Int32.toInt_sub, nI_toInt (by omega), nI_toInt (by omega)]
  exact Int.bmod_eq_of_le (by omega) (by omega)
theorem pk_sneg {a b : Nat} (hb : b < 2 ^ 30) (h : a < b) : nI a - nI b < 0 := by
  rw [Int32.lt_iff_toInt_lt, pk_sub_toInt (by omega) hb, show (0 : Int32).toInt = 0 from by decide]
  omega
theorem pk_ix (x : Int32) {n : Nat} (hn : n < 2 ^ 31) : x < 0 ∨ nI n ≤ x ∨ ∃ j : Nat, j < n ∧ x = nI j := by
  by_cases h : x < 0
  · exact Or.inl h
  · obtain ⟨j, hj, rfl⟩ := nI_of h
    by_cases h2 : j < n
    · exact Or.inr (Or.inr ⟨j, h2, rfl⟩)
    · exact Or.inr (Or.inl (nI_le (by omega) hj))
theorem pk_le {x y : Int32} {A B : Prop} (a b : Nat) (f : a ≤ b → A) (g : b < a → B) (hx : x = nI a := by rfl) (hy : y = nI b := by rfl) (ha : a < 2 ^ 31 := by omega) (hb : b < 2 ^ 31 := by omega) : (x ≤ y → A) ∧ (¬ x ≤ y → B) := by
  subst hx hy
  rw [nI_leI ha hb]
  exact ⟨f, fun z => g (by omega)⟩
theorem pk_lt {x y : Int32} {A B : Prop} (a b : Nat) (f : a < b → A) (g : b ≤ a → B) (hx : x = nI a := by rfl) (hy : y = nI b := by rfl) (ha : a < 2 ^ 31 := by omega) (hb : b < 2 ^ 31 := by omega) : (x < y → A) ∧ (¬ x < y → B) := by
  subst hx hy
  rw [nI_ltI ha hb]
  exact ⟨f, fun z => g (by omega)⟩
theorem pk_eq {x y : Int32} {A B : Prop} (a b : Nat) (f : a = b → A) (g : a ≠ b → B) (hx : x = nI a := by rfl) (hy : y = nI b := by rfl) (ha : a < 2 ^ 31 := by omega) (hb : b < 2 ^ 31 := by omega) : (x = y → A) ∧ (¬ x = y → B) := by
  subst hx hy
  rw [nI_eq ha hb]
  exact ⟨f, g⟩
theorem pk_in {x : Int32} (n N : Nat) (h : n < N) (hx : x = nI n := by rfl) (hN : N < 2 ^ 31 := by omega) : vp_in x N := by
  subst hx
  exact vp_in_nI h hN
theorem pk_cl {x : Int32} (n : Nat) (hx : x = nI n := by rfl) (h : n < 2 ^ 31 := by omega) : x.toNatClampNeg = n := by
  subst hx
  exact nI_clamp h
theorem pk_loop {σ : Type} (W : Nat → Nat → σ → Prop) (I : Nat → σ → Prop) (e i0 : Nat) (s : σ) (hi : i0 ≤ e) (h0 : I i0 s) (hx : ∀ n s, I e s → W (n + 1) e s)
    (hs : ∀ n i s, i < e → I i s → (∀ s', I (i + 1) s' → W n (i + 1) s') → W (n + 1) i s) : ∃ n, W n i0 s :=
  ⟨e + 1, loop_i W I e hx hs (e + 1) i0 s hi (by omega) h0⟩
theorem pk_least (P : Nat → Prop) (h : ∃ k, P k) : ∃ k, P k ∧ ∀ j, j < k → ¬ P j := by
  obtain ⟨k, hk⟩ := h
  induction k using Nat.strongRecOn with
  | ind k ih =>
    by_cases e : ∃ j, j < k ∧ P j
    · obtain ⟨j, hj, pj⟩ := e
      exact ih j hj pj
    · exact ⟨k, hk, fun j hj pj => e ⟨j, hj, pj⟩⟩
end
section
/-! reach, counts, the grid, parts, depths -/
def cl_rc (R : Nat → Nat → Prop) (p q : Nat) : Prop := ∀ S : Nat → Prop, S p → (∀ u v, S u → R u v → S v) → S q
theorem cl_rc_r (R : Nat → Nat → Prop) (p : Nat) : cl_rc R p p := fun _ h _ => h
theorem cl_rc_s {R : Nat → Nat → Prop} {p u v : Nat} (h : cl_rc R p u) (e : R u v) : cl_rc R p v := fun S h0 hs => hs u v (h S h0 hs) e
theorem cl_rc_1 {R : Nat → Nat → Prop} {u v : Nat} (e : R u v) : cl_rc R u v := cl_rc_s (cl_rc_r R u) e
theorem cl_rc_t {R : Nat → Nat → Prop} {p q r : Nat} (h : cl_rc R p q) (k : cl_rc R q r) : cl_rc R p r := k (fun x => cl_rc R p x) h (fun _ _ a e => cl_rc_s a e)
theorem cl_rc_y {R : Nat → Nat → Prop} (sy : ∀ u v, R u v → R v u) {p q : Nat} (h : cl_rc R p q) : cl_rc R q p :=
  h (fun x => cl_rc R x p) (cl_rc_r R p) (fun u v a e => cl_rc_t (cl_rc_1 (sy u v e)) a)
theorem cl_rc_m {R R' : Nat → Nat → Prop} (sub : ∀ u v, R u v → R' u v) {p q : Nat} (h : cl_rc R p q) : cl_rc R' p q :=
  h (fun x => cl_rc R' p x) (cl_rc_r R' p) (fun u v a e => cl_rc_s a (sub u v e))
/-! counts -/
noncomputable def cl_one (P : Prop) : Nat := @ite Nat P (Classical.propDecidable P) 1 0
theorem cl_one_t {P : Prop} (h : P) : cl_one P = 1 := @if_pos P (Classical.propDecidable P) h Nat 1 0
theorem cl_one_f {P : Prop} (h : ¬ P) : cl_one P = 0 := @if_neg P (Classical.propDecidable P) h Nat 1 0
noncomputable def cl_cnt (P : Nat → Prop) : Nat → Nat
  | 0 => 0
  | n + 1 => cl_cnt P n + cl_one (P n)
theorem cl_cnt_0 (P : Nat → Prop) : cl_cnt P 0 = 0 := rfl
theorem cl_cnt_t {P : Nat → Prop} {n : Nat} (h : P n) : cl_cnt P (n + 1) = cl_cnt P n + 1 := by
  show cl_cnt P n + cl_one (P n) = _
  rw [cl_one_t h]
theorem cl_cnt_f {P : Nat → Prop} {n : Nat} (h : ¬ P n) : cl_cnt P (n + 1) = cl_cnt P n := by
  show cl_cnt P n + cl_one (P n) = _
  rw [cl_one_f h]; rfl
theorem cl_cnt_le (P : Nat → Prop) (n : Nat) : cl_cnt P n ≤ n := by
  induction n with
  | zero => exact Nat.le_refl 0
  | succ n ih =>
    by_cases h : P n
    · rw [cl_cnt_t h]; omega
    · rw [cl_cnt_f h]; omega
theorem cl_cnt_s (P : Nat → Prop) (n : Nat) : cl_cnt P n ≤ cl_cnt P (n + 1) := by
  by_cases h : P n
  · rw [cl_cnt_t h]; omega
  · rw [cl_cnt_f h]; omega
theorem cl_cnt_mo (P : Nat → Prop) {m n : Nat} (h : m ≤ n) : cl_cnt P m ≤ cl_cnt P n := by
  induction n with
  | zero =>
    have e : m = 0 := by omega
    rw [e]; exact Nat.le_refl _
  | succ n ih =>
    by_cases e : m = n + 1
    · rw [e]; exact Nat.le_refl _
    · exact Nat.le_trans (ih (by omega)) (cl_cnt_s P n)
theorem cl_cnt_lt {P : Nat → Prop} {m n : Nat} (h : m < n) (hm : P m) : cl_cnt P m < cl_cnt P n := by
  have a := cl_cnt_mo P (m := m + 1) (n := n) (by omega)
  rw [cl_cnt_t hm] at a
  omega
theorem cl_cnt_inj {P : Nat → Prop} {m n : Nat} (hm : P m) (hn : P n) (e : cl_cnt P m = cl_cnt P n) : m = n := by
  rcases Nat.lt_trichotomy m n with h | h | h
  · have := cl_cnt_lt h hm; omega
  · exact h
  · have := cl_cnt_lt h hn; omega
theorem cl_cnt_c {P Q : Nat → Prop} {n : Nat} (h : ∀ j, j < n → (P j ↔ Q j)) : cl_cnt P n = cl_cnt Q n := by
  induction n with
  | zero => rfl
  | succ n ih =>
    have e := ih (fun j hj => h j (by omega))
    by_cases k : P n
    · rw [cl_cnt_t k, cl_cnt_t ((h n (by omega)).mp k), e]
    · rw [cl_cnt_f k, cl_cnt_f (fun z => k ((h n (by omega)).mpr z)), e]
theorem cl_cnt_sub {P Q : Nat → Prop} {n : Nat} (h : ∀ j, j < n → P j → Q j) : cl_cnt P n ≤ cl_cnt Q n := by
  induction n with
  | zero => exact Nat.le_refl 0
  | succ n ih =>
    have e := ih (fun j hj => h j (by omega))
    by_cases k : P n
    · rw [cl_cnt_t k, cl_cnt_t (h n (by omega) k)]; omega
    · rw [cl_cnt_f k]; exact Nat.le_trans e (cl_cnt_s Q n)
theorem cl_cnt_sl {P Q : Nat → Prop} {n x : Nat} (h : ∀ j, j < n → P j → Q j) (hx : x < n) (hp : ¬ P x) (hq : Q x) : cl_cnt P n < cl_cnt Q n := by
  induction n with
  | zero => omega
  | succ n ih =>
    by_cases e : x = n
    · subst e
      rw [cl_cnt_f hp, cl_cnt_t hq]
      have := cl_cnt_sub (n := x) (fun j hj => h j (by omega))
      omega
    · have i := ih (fun j hj => h j (by omega)) (by omega)
      by_cases k : P n
      · rw [cl_cnt_t k, cl_cnt_t (h n (by omega) k)]; omega
      · rw [cl_cnt_f k]; exact Nat.lt_of_lt_of_le i (cl_cnt_s Q n)
theorem cl_cnt_un {P : Nat → Prop} {n x : Nat} (hx : x < n) (hp : ¬ P x) : cl_cnt (fun j => P j ∨ j = x) n = cl_cnt P n + 1 := by
  induction n with
  | zero => omega
  | succ n ih =>
    by_cases e : x = n
    · subst e
      rw [cl_cnt_f hp, cl_cnt_t (Or.inr rfl)]
      have := cl_cnt_c (P := fun j => P j ∨ j = x) (Q := P) (n := x) (fun j hj => ⟨fun z => z.elim id (fun z => absurd z (by omega)), Or.inl⟩)
      omega
    · have i := ih (by omega)
      by_cases k : P n
      · rw [cl_cnt_t k, cl_cnt_t (Or.inl k)]; omega
      · rw [cl_cnt_f k, cl_cnt_f (fun z => z.elim k (fun z => e z.symm))]; omega
theorem cl_cnt_nf {P : Nat → Prop} {n x : Nat} (hx : x < n) (hp : ¬ P x) : cl_cnt P n < n := by
  have := cl_cnt_un hx hp
  have := cl_cnt_le (fun j => P j ∨ j = x) n
  omega
theorem cl_cnt_z {P : Nat → Prop} {n : Nat} (h : ∀ j, j < n → ¬ P j) : cl_cnt P n = 0 := by
  induction n with
  | zero => rfl
  | succ n ih => rw [cl_cnt_f (h n (by omega)), ih (fun j hj => h j (by omega))]
theorem cl_cnt_ex {P : Nat → Prop} {n k : Nat} (h : k < cl_cnt P n) : ∃ r, r < n ∧ P r ∧ cl_cnt P r = k := by
  induction n with
  | zero => exact absurd h (Nat.not_lt_zero k)
  | succ n ih =>
    by_cases hk : k < cl_cnt P n
    · obtain ⟨r, a, b, c⟩ := ih hk
      exact ⟨r, by omega, b, c⟩
    · by_cases hp : P n
      · rw [cl_cnt_t hp] at h
        exact ⟨n, by omega, hp, by omega⟩
      · rw [cl_cnt_f hp] at h
        exact absurd h hk
/-- a set of settled places that grows -/
theorem cl_grow {A A' : Nat → Prop} {T : Nat → Nat → Prop} (sub : ∀ p, A p → A' p) (st : ∀ p q, p < 196 → A q → T p q → A' p) (gen : (∀ p q, p < 196 → A q → T p q → A p) → ∀ p, p < 196 → A p) (hn : ¬ ∀ p, p < 196 → A p) : cl_cnt A 196 < cl_cnt A' 196 := by
  by_cases h : ∃ p, p < 196 ∧ ¬ A p ∧ ∃ q, A q ∧ T p q
  · obtain ⟨p, hp, na, q, aq, t⟩ := h
    exact cl_cnt_sl (fun j _ => sub j) hp na (st p q hp aq t)
  · exact absurd (gen fun p q hp aq t => Classical.byContradiction fun na => h ⟨p, hp, na, q, aq, t⟩) hn
end
section
def gp_bs (u v : Nat) : Prop := (v = u + 1 ∧ u % 14 ≠ 13) ∨ (u = v + 1 ∧ v % 14 ≠ 13) ∨ v = u + 14 ∨ u = v + 14
def gp_dg (u v : Nat) : Prop := (v = u + 15 ∧ u % 14 ≠ 13) ∨ (u = v + 15 ∧ v % 14 ≠ 13) ∨ (v = u + 13 ∧ u % 14 ≠ 0) ∨ (u = v + 13 ∧ v % 14 ≠ 0)
def gp_S (f : Nat → Int) : Nat → Int
  | 0 => 0
  | n + 1 => gp_S f n + f n
/-- the square with its first corner at u has two corners of one part across, or two sides each of one part -/
def gp_Sq (c : Nat → Nat) : Prop := ∀ u, u % 14 ≠ 13 → u + 15 < 196 → c u = c (u + 15) ∨ c (u + 1) = c (u + 14) ∨ (c u = c (u + 1) ∧ c (u + 14) = c (u + 15)) ∨ (c u = c (u + 14) ∧ c (u + 1) = c (u + 15))
theorem gp_sq0 {c : Nat → Nat} (sq : gp_Sq c) {F : Nat → Nat → Int} (F0 : ∀ p, F p p = 0) (Fa : ∀ p q, F q p = - F p q) {u : Nat} (h : u % 14 ≠ 13) (hu : u + 15 < 196) : F (c u) (c (u + 1)) + F (c (u + 1)) (c (u + 15)) = F (c u) (c (u + 14)) + F (c (u + 14)) (c (u + 15)) := by
  rcases sq u h hu with e | e | ⟨e, e'⟩ | ⟨e, e'⟩
  · rw [← e, Fa (c u) (c (u + 1)), Fa (c u) (c (u + 14))]; omega
  · rw [e]
  · rw [← e, ← e', F0, F0]; omega
  · rw [← e, ← e', F0, F0]; omega
def gp_ph (c : Nat → Nat) (F : Nat → Nat → Int) (x y : Nat) : Int := gp_S (fun i => F (c i) (c (i + 1))) x + gp_S (fun j => F (c (14 * j + x)) (c (14 * j + x + 14))) y
theorem gp_ph_v (c : Nat → Nat) (F : Nat → Nat → Int) (x y : Nat) : gp_ph c F x (y + 1) = gp_ph c F x y + F (c (14 * y + x)) (c (14 * y + x + 14)) := by
  unfold gp_ph
  rw [gp_S]
  omega
theorem gp_ph_h {c : Nat → Nat} (sq : gp_Sq c) {F : Nat → Nat → Int} (F0 : ∀ p, F p p = 0) (Fa : ∀ p q, F q p = - F p q) {x : Nat} (hx : x < 13) : ∀ y, y < 14 → gp_ph c F (x + 1) y = gp_ph c F x y + F (c (14 * y + x)) (c (14 * y + x + 1)) := by
  intro y
  induction y with
  | zero =>
    intro _
    have e : 14 * 0 + x = x := by omega
    rw [e]
    unfold gp_ph
    rw [gp_S, gp_S, gp_S]
    omega
  | succ y ih =>
    intro hy
    have h := ih (by omega)
    have q := gp_sq0 sq F0 Fa (u := 14 * y + x) (by omega) (by omega)
    have e1 : 14 * (y + 1) + x = 14 * y + x + 14 := by omega
    have e2 : 14 * y + (x + 1) = 14 * y + x + 1 := by omega
    have e3 : 14 * y + x + 1 + 14 = 14 * y + x + 15 := by omega
    have e4 : 14 * y + x + 14 + 1 = 14 * y + x + 15 := by omega
    rw [gp_ph_v, gp_ph_v, e1, e2, e3, e4]
    omega
theorem gp_pot {c : Nat → Nat} (sq : gp_Sq c) {F : Nat → Nat → Int} (F0 : ∀ p, F p p = 0) (Fa : ∀ p q, F q p = - F p q) : ∃ φ : Nat → Int, ∀ u v, u < 196 → v < 196 → gp_bs u v → φ v = φ u + F (c u) (c v) := by
  have hh : ∀ u, u < 195 → u % 14 ≠ 13 → gp_ph c F ((u + 1) % 14) ((u + 1) / 14) = gp_ph c F (u % 14) (u / 14) + F (c u) (c (u + 1)) := by
    intro u hu h13
    have e1 : (u + 1) % 14 = u % 14 + 1 := by omega
    have e2 : (u + 1) / 14 = u / 14 := by omega
    have e3 : 14 * (u / 14) + u % 14 = u := by omega
    have k := gp_ph_h sq F0 Fa (x := u % 14) (by omega) (u / 14) (by omega)
    rw [e3] at k
    rw [e1, e2, k]
  have hv : ∀ u, u + 14 < 196 → gp_ph c F ((u + 14) % 14) ((u + 14) / 14) = gp_ph c F (u % 14) (u / 14) + F (c u) (c (u + 14)) := by
    intro u hu
    have e1 : (u + 14) % 14 = u % 14 := by omega
    have e2 : (u + 14) / 14 = u / 14 + 1 := by omega
    have e3 : 14 * (u / 14) + u % 14 = u := by omega
    have k := gp_ph_v c F (u % 14) (u / 14)
    rw [e3] at k
    rw [e1, e2, k]
  refine ⟨fun p => gp_ph c F (p % 14) (p / 14), fun u v hu hv' b => ?_⟩
  dsimp only
  rcases b with ⟨rfl, h⟩ | ⟨rfl, h⟩ | rfl | rfl
  · exact hh u (by omega) h
  · have k := hh v (by omega) h
    rw [Fa (c v) (c (v + 1))]
    omega
  · exact hv u hv'
  · have k := hv v hu
    rw [Fa (c v) (c (v + 14))]
    omega
/-- the pair (P, Q): one more from P into Q, one less back -/
def gp_F (P Q p q : Nat) : Int := if p = P ∧ q = Q then 1 else if p = Q ∧ q = P then -1 else 0
theorem gp_F0 {P Q : Nat} (h : P ≠ Q) (p : Nat) : gp_F P Q p p = 0 := by
  unfold gp_F
  rw [if_neg (fun z => h (z.1.symm.trans z.2)), if_neg (fun z => h (z.2.symm.trans z.1))]
theorem gp_Fa {P Q : Nat} (h : P ≠ Q) (p q : Nat) : gp_F P Q q p = - gp_F P Q p q := by
  unfold gp_F
  by_cases a : p = P ∧ q = Q
  · rw [if_neg (fun z => h (z.1.symm.trans a.2)), if_pos ⟨a.2, a.1⟩, if_pos a]
  · by_cases b : p = Q ∧ q = P
    · rw [if_pos ⟨b.2, b.1⟩, if_neg a, if_pos b]; rfl
    · rw [if_neg (fun z => b ⟨z.2, z.1⟩), if_neg (fun z => a ⟨z.2, z.1⟩), if_neg a, if_neg b]; rfl
/-! ways and steps -/
def cl_to (p d q : Nat) : Prop := q < 196 ∧ p % 14 + d % 3 = q % 14 + 1 ∧ p / 14 + d / 3 = q / 14 + 1
def gp_ad (u v : Nat) : Prop := u = v ∨ gp_bs u v ∨ gp_dg u v
theorem gp_bs_y {u v : Nat} (h : gp_bs u v) : gp_bs v u := by
  unfold gp_bs at *; omega
theorem gp_ad_y {u v : Nat} (h : gp_ad u v) : gp_ad v u := by
  unfold gp_ad gp_bs gp_dg at *; omega
theorem cl_to_bs {p d q : Nat} (hp : p < 196) (hd : d < 9) (o : d % 2 = 1) (h : cl_to p d q) : gp_bs p q := by
  unfold cl_to at h
  unfold gp_bs
  have : d = 1 ∨ d = 3 ∨ d = 5 ∨ d = 7 := by omega
  rcases this with rfl | rfl | rfl | rfl <;> omega
theorem cl_bs_to {p q : Nat} (hp : p < 196) (hq : q < 196) (h : gp_bs p q) : ∃ d, d < 9 ∧ d % 2 = 1 ∧ cl_to p d q := by
  unfold gp_bs at h
  unfold cl_to
  rcases h with h | h | h | h
  · exact ⟨5, by omega, by omega, by omega⟩
  · exact ⟨3, by omega, by omega, by omega⟩
  · exact ⟨7, by omega, by omega, by omega⟩
  · exact ⟨1, by omega, by omega, by omega⟩
theorem cl_to_ad {p d q : Nat} (hp : p < 196) (hd : d < 9) (h : cl_to p d q) : gp_ad p q := by
  unfold cl_to at h
  unfold gp_ad gp_bs gp_dg
  have : d = 0 ∨ d = 1 ∨ d = 2 ∨ d = 3 ∨ d = 4 ∨ d = 5 ∨ d = 6 ∨ d = 7 ∨ d = 8 := by omega
  rcases this with rfl | rfl | rfl | rfl | rfl | rfl | rfl | rfl | rfl <;> omega
theorem cl_ad_to {p q : Nat} (hp : p < 196) (hq : q < 196) (h : gp_ad p q) : ∃ d, d < 9 ∧ cl_to p d q := by
  rcases h with rfl | h | h
  · exact ⟨4, by omega, by unfold cl_to; omega⟩
  · obtain ⟨d, a, _, c⟩ := cl_bs_to hp hq h
    exact ⟨d, a, c⟩
  · unfold gp_dg at h
    unfold cl_to
    rcases h with h | h | h | h
    · exact ⟨8, by omega, by omega⟩
    · exact ⟨0, by omega, by omega⟩
    · exact ⟨6, by omega, by omega⟩
    · exact ⟨2, by omega, by omega⟩
theorem cl_to_un {p d q q' : Nat} (h : cl_to p d q) (k : cl_to p d q') : q = q' := by
  unfold cl_to at *; omega
def cl_st (b : Nat → Int32) (u v : Nat) : Prop := u < 196 ∧ v < 196 ∧ b u = b v ∧ (gp_bs u v ∨ (b u ≠ 0 ∧ gp_ad u v))
theorem cl_st_y {b : Nat → Int32} (u v : Nat) (h : cl_st b u v) : cl_st b v u :=
  ⟨h.2.1, h.1, h.2.2.1.symm, h.2.2.2.elim (fun z => Or.inl (gp_bs_y z)) (fun z => Or.inr ⟨h.2.2.1 ▸ z.1, gp_ad_y z.2⟩)⟩
theorem cl_st_to {b : Nat → Int32} {p q : Nat} (h : cl_st b p q) : ∃ d, d < 9 ∧ (b p ≠ 0 ∨ d % 2 = 1) ∧ cl_to p d q := by
  rcases h.2.2.2 with k | ⟨k, a⟩
  · obtain ⟨d, x, y, z⟩ := cl_bs_to h.1 h.2.1 k
    exact ⟨d, x, Or.inr y, z⟩
  · obtain ⟨d, x, z⟩ := cl_ad_to h.1 h.2.1 a
    exact ⟨d, x, Or.inl k, z⟩
theorem cl_to_st {b : Nat → Int32} {p q d : Nat} (hp : p < 196) (hd : d < 9) (k : b p ≠ 0 ∨ d % 2 = 1) (t : cl_to p d q) (e : b p = b q) : cl_st b p q := by
  refine ⟨hp, t.1, e, ?_⟩
  by_cases o : d % 2 = 1
  · exact Or.inl (cl_to_bs hp hd o t)
  · exact Or.inr ⟨k.resolve_right o, cl_to_ad hp hd t⟩
/-! parts -/
theorem cl_pt_lt {b : Nat → Int32} {p q : Nat} (hp : p < 196) (h : cl_rc (cl_st b) p q) : q < 196 := h (fun x => x < 196) hp (fun _ _ _ e => e.2.1)
theorem cl_pt_c {b : Nat → Int32} {p q : Nat} (h : cl_rc (cl_st b) p q) : b p = b q := h (fun x => b p = b x) rfl (fun _ _ a e => a.trans e.2.2.1)
theorem cl_pt_y {b : Nat → Int32} {p q : Nat} (h : cl_rc (cl_st b) p q) : cl_rc (cl_st b) q p := cl_rc_y cl_st_y h
noncomputable def cl_root (b : Nat → Int32) (p : Nat) : Nat := (pk_least (fun q => cl_rc (cl_st b) p q) ⟨p, cl_rc_r _ p⟩).choose
theorem cl_root_rc (b : Nat → Int32) (p : Nat) : cl_rc (cl_st b) p (cl_root b p) := (pk_least (fun q => cl_rc (cl_st b) p q) ⟨p, cl_rc_r _ p⟩).choose_spec.1
theorem cl_root_le {b : Nat → Int32} {p q : Nat} (h : cl_rc (cl_st b) p q) : cl_root b p ≤ q :=
  Nat.not_lt.mp fun z => (pk_least (fun q => cl_rc (cl_st b) p q) ⟨p, cl_rc_r _ p⟩).choose_spec.2 q z h
theorem cl_root_eq {b : Nat → Int32} {p q : Nat} (h : cl_rc (cl_st b) p q) : cl_root b p = cl_root b q :=
  Nat.le_antisymm (cl_root_le (cl_rc_t h (cl_root_rc b q))) (cl_root_le (cl_rc_t (cl_pt_y h) (cl_root_rc b p)))
theorem cl_root_pt {b : Nat → Int32} {p q : Nat} (h : cl_root b p = cl_root b q) : cl_rc (cl_st b) p q :=
  cl_rc_t (cl_root_rc b p) (h ▸ cl_pt_y (cl_root_rc b q))
theorem cl_root_s {b : Nat → Int32} {p q : Nat} (h : cl_st b p q) : cl_root b p = cl_root b q := cl_root_eq (cl_rc_1 h)
theorem cl_root_self (b : Nat → Int32) (p : Nat) : cl_root b p ≤ p := cl_root_le (cl_rc_r _ p)
theorem cl_root_lt {b : Nat → Int32} {p : Nat} (hp : p < 196) : cl_root b p < 196 := Nat.lt_of_le_of_lt (cl_root_self b p) hp
theorem cl_root_i (b : Nat → Int32) (p : Nat) : cl_root b (cl_root b p) = cl_root b p := (cl_root_eq (cl_root_rc b p)).symm
theorem cl_root_c (b : Nat → Int32) (p : Nat) : b (cl_root b p) = b p := (cl_pt_c (cl_root_rc b p)).symm
theorem cl_bs_rt {b : Nat → Int32} {u v : Nat} (hu : u < 196) (hv : v < 196) (h : gp_bs u v) (e : b u = b v) : cl_root b u = cl_root b v := cl_root_s ⟨hu, hv, e, Or.inl h⟩
/-! depths -/
def cl_ok (b : Nat → Int32) : Prop := (∀ p, b p = 0 ∨ b p = 1) ∧ (∀ p, p < 14 → b p = 0)
def cl_W (b : Nat → Int32) (p n : Nat) : Prop := ∀ S : Nat → Nat → Prop, S 0 0 → (∀ u v n, S u n → cl_st b u v → S v n) → (∀ u v n, S u n → u < 196 → v < 196 → gp_bs u v → b u ≠ b v → S v (n + 1)) → S p n
theorem cl_W_0 (b : Nat → Int32) : cl_W b 0 0 := fun _ h _ _ => h
theorem cl_W_s {b : Nat → Int32} {u v n : Nat} (h : cl_W b u n) (e : cl_st b u v) : cl_W b v n := fun S h0 h1 h2 => h1 u v n (h S h0 h1 h2) e
theorem cl_W_b {b : Nat → Int32} {u v n : Nat} (h : cl_W b u n) (hu : u < 196) (hv : v < 196) (e : gp_bs u v) (c : b u ≠ b v) : cl_W b v (n + 1) := fun S h0 h1 h2 => h2 u v n (h S h0 h1 h2) hu hv e c
theorem cl_W_ex {b : Nat → Int32} (ok : cl_ok b) : ∀ p, p < 196 → ∃ n, n ≤ p / 14 ∧ cl_W b p n := by
  intro p
  induction p using Nat.strongRecOn with
  | _ p ih =>
    intro hp
    by_cases h0 : p = 0
    · subst h0; exact ⟨0, by omega, cl_W_0 b⟩
    · by_cases h1 : p < 14
      · obtain ⟨n, a, w⟩ := ih (p - 1) (by omega) (by omega)
        refine ⟨n, by omega, cl_W_s w ⟨by omega, hp, ?_, Or.inl ?_⟩⟩
        · rw [ok.2 p h1, ok.2 (p - 1) (by omega)]
        · unfold gp_bs; omega
      · obtain ⟨n, a, w⟩ := ih (p - 14) (by omega) (by omega)
        have hb : gp_bs (p - 14) p := by unfold gp_bs; omega
        by_cases c : b (p - 14) = b p
        · exact ⟨n, by omega, cl_W_s w ⟨by omega, hp, c, Or.inl hb⟩⟩
        · exact ⟨n + 1, by omega, cl_W_b w (by omega) hp hb c⟩
noncomputable def cl_dep (b : Nat → Int32) (p : Nat) : Nat := (pk_least (fun n => cl_W b p n ∨ n = 600) ⟨600, Or.inr rfl⟩).choose
theorem cl_dep_le {b : Nat → Int32} {p n : Nat} (h : cl_W b p n) : cl_dep b p ≤ n :=
  Nat.not_lt.mp fun z => (pk_least (fun n => cl_W b p n ∨ n = 600) ⟨600, Or.inr rfl⟩).choose_spec.2 n z (Or.inl h)
theorem cl_dep_13 {b : Nat → Int32} (ok : cl_ok b) {p : Nat} (hp : p < 196) : cl_dep b p ≤ 13 := by
  obtain ⟨n, a, w⟩ := cl_W_ex ok p hp
  have := cl_dep_le w
  omega
theorem cl_dep_W {b : Nat → Int32} (ok : cl_ok b) {p : Nat} (hp : p < 196) : cl_W b p (cl_dep b p) := by
  rcases (pk_least (fun n => cl_W b p n ∨ n = 600) ⟨600, Or.inr rfl⟩).choose_spec.1 with h | h
  · exact h
  · have := cl_dep_13 ok hp
    unfold cl_dep at this
    omega
theorem cl_dep_0 (b : Nat → Int32) : cl_dep b 0 = 0 := Nat.le_zero.mp (cl_dep_le (cl_W_0 b))
theorem cl_dep_s {b : Nat → Int32} (ok : cl_ok b) {u v : Nat} (h : cl_st b u v) : cl_dep b u = cl_dep b v :=
  Nat.le_antisymm (cl_dep_le (cl_W_s (cl_dep_W ok h.2.1) (cl_st_y u v h))) (cl_dep_le (cl_W_s (cl_dep_W ok h.1) h))
theorem cl_dep_b {b : Nat → Int32} (ok : cl_ok b) {u v : Nat} (hu : u < 196) (hv : v < 196) (h : gp_bs u v) : cl_dep b v ≤ cl_dep b u + 1 := by
  by_cases c : b u = b v
  · have := cl_dep_s ok (u := u) (v := v) ⟨hu, hv, c, Or.inl h⟩
    omega
  · exact cl_dep_le (cl_W_b (cl_dep_W ok hu) hu hv h c)
theorem cl_dep_p {b : Nat → Int32} (ok : cl_ok b) {p q : Nat} (h : cl_rc (cl_st b) p q) : cl_dep b p = cl_dep b q :=
  h (fun x => cl_dep b p = cl_dep b x) rfl (fun _ _ a e => a.trans (cl_dep_s ok e))
theorem cl_dep_rt {b : Nat → Int32} (ok : cl_ok b) {p q : Nat} (h : cl_root b p = cl_root b q) : cl_dep b p = cl_dep b q := cl_dep_p ok (cl_root_pt h)
theorem cl_W_lt {b : Nat → Int32} {p n : Nat} (h : cl_W b p n) : p < 196 := h (fun p _ => p < 196) (by decide) (fun _ _ _ _ e => e.2.1) (fun _ _ _ _ _ hv _ _ => hv)
/-- a place of depth n: it hangs together with 0, or with a place beside one of depth n - 1 -/
theorem cl_dep_d {b : Nat → Int32} (ok : cl_ok b) {p : Nat} (hp : p < 196) : (cl_dep b p = 0 ∧ cl_root b 0 = cl_root b p) ∨ (∃ p' q, p' < 196 ∧ q < 196 ∧ cl_root b p = cl_root b p' ∧ gp_bs p' q ∧ cl_dep b q + 1 = cl_dep b p) := by
  have k := cl_dep_W ok hp (fun p n => cl_W b p n ∧ (n = cl_dep b p → (cl_dep b p = 0 ∧ cl_root b 0 = cl_root b p) ∨ (∃ p' q, p' < 196 ∧ q < 196 ∧ cl_root b p = cl_root b p' ∧ gp_bs p' q ∧ cl_dep b q + 1 = cl_dep b p)))
    ⟨cl_W_0 b, fun e => Or.inl ⟨e.symm, rfl⟩⟩
    (fun u v n i e => ⟨cl_W_s i.1 e, fun z => by
      have d := cl_dep_s ok e
      have r := cl_root_s e
      rw [← d, ← r]
      exact i.2 (z.trans d.symm)⟩)
    (fun u v n i hu hv e c => ⟨cl_W_b i.1 hu hv e c, fun z => Or.inr ⟨v, u, hv, hu, rfl, gp_bs_y e, by
      have d1 := cl_dep_le i.1
      have d2 := cl_dep_b ok hu hv e
      omega⟩⟩)
  exact k.2 rfl
theorem cl_dep_par {b : Nat → Int32} (ok : cl_ok b) {p : Nat} (hp : p < 196) : (b p = 0 ↔ cl_dep b p % 2 = 0) := by
  have k := cl_dep_W ok hp (fun p n => b p = 0 ↔ n % 2 = 0) ⟨fun _ => rfl, fun _ => ok.2 0 (by decide)⟩
    (fun u v n i e => by rw [← e.2.2.1]; exact i)
    (fun u v n i _ _ _ c => by
      have h01 : (0 : Int32) ≠ 1 := by decide
      rcases ok.1 u with hu | hu <;> rcases ok.1 v with hv | hv
      · exact absurd (hu.trans hv.symm) c
      · have := i.mp hu
        exact ⟨fun z => absurd (z.symm.trans hv) h01, fun z => by omega⟩
      · have : ¬ n % 2 = 0 := fun z => h01 ((i.mpr z).symm.trans hu)
        exact ⟨fun _ => by omega, fun _ => hv⟩
      · exact absurd (hu.trans hv.symm) c)
  exact k
end
section
/-! nesting by a potential -/
theorem gp_sq_rt {b : Nat → Int32} (ok : cl_ok b) : gp_Sq (cl_root b) := by
  intro u h13 hu
  have b1 : gp_bs u (u + 1) := by unfold gp_bs; omega
  have b2 : gp_bs u (u + 14) := by unfold gp_bs; omega
  have b3 : gp_bs (u + 1) (u + 15) := by unfold gp_bs; omega
  have b4 : gp_bs (u + 14) (u + 15) := by unfold gp_bs; omega
  have d1 : gp_dg u (u + 15) := by unfold gp_dg; omega
  have d2 : gp_dg (u + 1) (u + 14) := by unfold gp_dg; omega
  have h01 : (1 : Int32) ≠ 0 := by decide
  have r1 : b u = b (u + 1) → cl_root b u = cl_root b (u + 1) := fun e => cl_bs_rt (by omega) (by omega) b1 e
  have r2 : b u = b (u + 14) → cl_root b u = cl_root b (u + 14) := fun e => cl_bs_rt (by omega) (by omega) b2 e
  have r3 : b (u + 1) = b (u + 15) → cl_root b (u + 1) = cl_root b (u + 15) := fun e => cl_bs_rt (by omega) (by omega) b3 e
  have r4 : b (u + 14) = b (u + 15) → cl_root b (u + 14) = cl_root b (u + 15) := fun e => cl_bs_rt (by omega) (by omega) b4 e
  have s1 : b u = 1 → b (u + 15) = 1 → cl_root b u = cl_root b (u + 15) := fun e e' => cl_root_s ⟨by omega, by omega, e.trans e'.symm, Or.inr ⟨e ▸ h01, Or.inr (Or.inr d1)⟩⟩
  have s2 : b (u + 1) = 1 → b (u + 14) = 1 → cl_root b (u + 1) = cl_root b (u + 14) := fun e e' => cl_root_s ⟨by omega, by omega, e.trans e'.symm, Or.inr ⟨e ▸ h01, Or.inr (Or.inr d2)⟩⟩
  rcases ok.1 u with e0 | e0 <;> rcases ok.1 (u + 1) with e1 | e1 <;> rcases ok.1 (u + 14) with e2 | e2 <;> rcases ok.1 (u + 15) with e3 | e3 <;> rw [e0, e1] at r1 <;> rw [e0, e2] at r2 <;> rw [e1, e3] at r3 <;> rw [e2, e3] at r4
  · exact Or.inl ((r1 rfl).trans (r3 rfl))
  · exact Or.inr (Or.inl ((r1 rfl).symm.trans (r2 rfl)))
  · exact Or.inl ((r1 rfl).trans (r3 rfl))
  · exact Or.inr (Or.inr (Or.inl ⟨r1 rfl, r4 rfl⟩))
  · exact Or.inl ((r2 rfl).trans (r4 rfl))
  · exact Or.inr (Or.inr (Or.inr ⟨r2 rfl, r3 rfl⟩))
  · exact Or.inr (Or.inl (s2 e1 e2))
  · exact Or.inr (Or.inl (s2 e1 e2))
  · exact Or.inr (Or.inl ((r3 rfl).trans (r4 rfl).symm))
  · exact Or.inl (s1 e0 e3)
  · exact Or.inr (Or.inr (Or.inr ⟨r2 rfl, r3 rfl⟩))
  · exact Or.inl (s1 e0 e3)
  · exact Or.inr (Or.inr (Or.inl ⟨r1 rfl, r4 rfl⟩))
  · exact Or.inl (s1 e0 e3)
  · exact Or.inr (Or.inl (s2 e1 e2))
  · exact Or.inl (s1 e0 e3)
theorem gp_Fz {P Q p q : Nat} (h : (p ≠ P ∧ q ≠ P) ∨ (p ≠ Q ∧ q ≠ Q)) : gp_F P Q p q = 0 := by
  unfold gp_F
  rw [if_neg (fun z => h.elim (fun k => k.1 z.1) (fun k => k.2 z.2)), if_neg (fun z => h.elim (fun k => k.2 z.2) (fun k => k.1 z.1))]
theorem gp_F1 {P Q : Nat} : gp_F P Q P Q = 1 := if_pos ⟨rfl, rfl⟩
theorem gp_dg_w {u v : Nat} (hu : u < 196) (hv : v < 196) (h : gp_dg u v) : ∃ w, w < 196 ∧ gp_bs u w ∧ gp_bs w v := by
  unfold gp_dg at h
  unfold gp_bs
  rcases h with h | h | h | h
  · exact ⟨u + 1, by omega, by omega, by omega⟩
  · exact ⟨v + 1, by omega, by omega, by omega⟩
  · exact ⟨u + 14, by omega, by omega, by omega⟩
  · exact ⟨v + 14, by omega, by omega, by omega⟩
theorem cl_phi {b : Nat → Int32} (ok : cl_ok b) {P Q : Nat} (h : P ≠ Q) : ∃ φ : Nat → Int, (∀ u v, u < 196 → v < 196 → gp_bs u v → φ v = φ u + gp_F P Q (cl_root b u) (cl_root b v)) ∧ (∀ u v, cl_root b u = cl_root b v → φ v = φ u) := by
  obtain ⟨φ, hφ⟩ := gp_pot (gp_sq_rt ok) (gp_F0 h) (gp_Fa h)
  have hs : ∀ u v, cl_st b u v → φ v = φ u := by
    intro u v e
    have r := cl_root_s e
    have hb : gp_bs u v → φ v = φ u := fun k => by
      have := hφ u v e.1 e.2.1 k
      rw [r, gp_F0 h] at this
      omega
    rcases e.2.2.2 with k | ⟨_, k⟩
    · exact hb k
    · rcases k with rfl | k | k
      · rfl
      · exact hb k
      · obtain ⟨w, hw, b1, b2⟩ := gp_dg_w e.1 e.2.1 k
        have a1 := hφ u w e.1 hw b1
        have a2 := hφ w v hw e.2.1 b2
        rw [← r, gp_Fa h (cl_root b u) (cl_root b w)] at a2
        omega
  refine ⟨φ, hφ, fun u v r => ?_⟩
  exact cl_root_pt r (fun x => φ x = φ u) rfl (fun x y a e => (hs x y e).trans a)
def cl_mv (b : Nat → Int32) (Z u v : Nat) : Prop := cl_st b u v ∨ (u < 196 ∧ v < 196 ∧ gp_bs u v ∧ cl_root b u ≠ Z ∧ cl_root b v ≠ Z)
def cl_av (b : Nat → Int32) (Z u v : Nat) : Prop := u < 196 ∧ v < 196 ∧ gp_bs u v ∧ cl_root b v ≠ Z
theorem cl_way {b : Nat → Int32} (ok : cl_ok b) {p : Nat} (hp : p < 196) {z : Nat} (hz : cl_root b z ≠ cl_root b p) (hd : cl_dep b p ≤ cl_dep b z) : cl_rc (cl_mv b (cl_root b z)) 0 p := by
  have k := cl_dep_W ok hp (fun p n => cl_W b p n ∧ (n = cl_dep b p → cl_root b z ≠ cl_root b p → cl_dep b p ≤ cl_dep b z → cl_rc (cl_mv b (cl_root b z)) 0 p))
    ⟨cl_W_0 b, fun _ _ _ => cl_rc_r _ 0⟩
    (fun u v n i e => ⟨cl_W_s i.1 e, fun y r d => by
      have dd := cl_dep_s ok e
      have rr := cl_root_s e
      rw [← dd] at y d
      rw [← rr] at r
      exact cl_rc_s (i.2 y r d) (Or.inl e)⟩)
    (fun u v n i hu hv e c => ⟨cl_W_b i.1 hu hv e c, fun y r d => by
      have d1 := cl_dep_le i.1
      have d2 := cl_dep_b ok hu hv e
      have ru : cl_root b z ≠ cl_root b u := fun q => by
        have := cl_dep_rt ok q
        omega
      exact cl_rc_s (i.2 (by omega) ru (by omega)) (Or.inr ⟨hu, hv, e, fun q => ru q.symm, fun q => r q.symm⟩)⟩)
  exact k.2 rfl hz hd
theorem cl_mv_phi {b : Nat → Int32} {P Q Z : Nat} {φ : Nat → Int} (h1 : ∀ u v, u < 196 → v < 196 → gp_bs u v → φ v = φ u + gp_F P Q (cl_root b u) (cl_root b v)) (h2 : ∀ u v, cl_root b u = cl_root b v → φ v = φ u) (hZ : Z = P ∨ Z = Q) {x y : Nat} (h : cl_rc (cl_mv b Z) x y) : φ y = φ x := by
  refine h (fun y => φ y = φ x) rfl (fun u v a e => ?_)
  rcases e with e | ⟨hu, hv, e, n1, n2⟩
  · exact (h2 u v (cl_root_s e)).trans a
  · have := h1 u v hu hv e
    rw [gp_Fz (hZ.elim (fun z => Or.inl (z ▸ ⟨n1, n2⟩)) (fun z => Or.inr (z ▸ ⟨n1, n2⟩)))] at this
    omega
/-- a part has one neighbour part that is one less deep -/
theorem cl_uni {b : Nat → Int32} (ok : cl_ok b) {p p' q o : Nat} (hp : p < 196) (hp' : p' < 196) (hq : q < 196) (ho : o < 196) (r : cl_root b p = cl_root b p') (bq : gp_bs p q) (bo : gp_bs p' o) (dq : cl_dep b q + 1 = cl_dep b p) (d_o : cl_dep b o + 1 = cl_dep b p) : cl_root b q = cl_root b o := by
  refine Classical.byContradiction fun ne => ?_
  have n1 : cl_root b p ≠ cl_root b q := fun z => by
    have := cl_dep_rt ok z
    omega
  have n2 : cl_root b p ≠ cl_root b o := fun z => by
    have := cl_dep_rt ok z
    omega
  obtain ⟨φ, h1, h2⟩ := cl_phi ok n1
  have w1 := cl_mv_phi h1 h2 (Or.inl rfl) (cl_way ok hq (z := p) n1 (by omega))
  have w2 := cl_mv_phi h1 h2 (Or.inr rfl) (cl_way ok ho (z := q) ne (by omega))
  have a1 := h1 p q hp hq bq
  have a2 := h1 p' o hp' ho bo
  have a3 := h2 p p' r
  rw [gp_F1] at a1
  rw [← r, gp_Fz (Or.inr ⟨n1, fun z => ne z.symm⟩)] at a2
  omega
/-- the part around the hole in which a component lies cuts it off -/
theorem cl_cut {b : Nat → Int32} (ok : cl_ok b) {x c r r' a : Nat} (hc : c < 196) (hr : r < 196) (hr' : r' < 196) (ha : a < 196) (rx : cl_root b x = cl_root b c) (bc : gp_bs c r) (dc : cl_dep b r + 1 = cl_dep b c) (rr : cl_root b r = cl_root b r') (ba : gp_bs r' a) (da : cl_dep b a + 1 = cl_dep b r) (bl : b a ≠ 0) : ¬ cl_rc (cl_av b (cl_root b a)) 0 x := by
  intro h
  have n1 : cl_root b r ≠ cl_root b a := fun z => by
    have := cl_dep_rt ok z
    omega
  have n2 : cl_root b c ≠ cl_root b a := fun z => by
    have := cl_dep_rt ok z
    omega
  have n0 : cl_root b 0 ≠ cl_root b a := fun z => by
    have := cl_pt_c (cl_root_pt z)
    rw [ok.2 0 (by decide)] at this
    exact bl this.symm
  obtain ⟨φ, h1, h2⟩ := cl_phi ok n1
  have w1 := cl_mv_phi h1 h2 (Or.inl rfl) (cl_way ok ha (z := r) n1 (by omega))
  have a1 := h1 r' a hr' ha ba
  rw [← rr, gp_F1] at a1
  have a2 := h2 r r' rr
  have a3 := h1 c r hc hr bc
  rw [gp_Fz (Or.inr ⟨n2, n1⟩)] at a3
  have a4 := h2 x c rx
  have k := h (fun y => φ y = φ 0 ∧ cl_root b y ≠ cl_root b a) ⟨rfl, n0⟩ (fun u v i e => ⟨by
    have := h1 u v e.1 e.2.1 e.2.2.1
    rw [gp_Fz (Or.inr ⟨i.2, e.2.2.2⟩)] at this
    have := i.1
    omega, e.2.2.2⟩)
  have := k.1
  omega
theorem cl_mv_av {b : Nat → Int32} (ok : cl_ok b) {z x : Nat} (bz : b z ≠ 0) (h : cl_rc (cl_mv b (cl_root b z)) 0 x) : cl_rc (cl_av b (cl_root b z)) 0 x := by
  have cz : ∀ y, cl_root b y = cl_root b z → b y ≠ 0 := fun y e => by
    rw [cl_pt_c (cl_root_pt e)]; exact bz
  have k := h (fun y => cl_root b y ≠ cl_root b z ∧ cl_rc (cl_av b (cl_root b z)) 0 y) ⟨fun e => cz 0 e (ok.2 0 (by decide)), cl_rc_r _ 0⟩ (fun u v i e => by
    rcases e with e | ⟨hu, hv, e, n1, n2⟩
    · have r := cl_root_s e
      have nv : cl_root b v ≠ cl_root b z := fun q => i.1 (r.trans q)
      refine ⟨nv, ?_⟩
      rcases e.2.2.2 with k | ⟨bu, k⟩
      · exact cl_rc_s i.2 ⟨e.1, e.2.1, k, nv⟩
      · rcases k with rfl | k | k
        · exact i.2
        · exact cl_rc_s i.2 ⟨e.1, e.2.1, k, nv⟩
        · obtain ⟨w, hw, b1, b2⟩ := gp_dg_w e.1 e.2.1 k
          have nw : cl_root b w ≠ cl_root b z := fun q => by
            by_cases c : b u = b w
            · exact i.1 ((cl_bs_rt e.1 hw b1 c).trans q)
            · have h1 : b u = 1 := (ok.1 u).resolve_left bu
              have h2 : b w = 1 := (ok.1 w).resolve_left (cz w q)
              exact c (h1.trans h2.symm)
          exact cl_rc_s (cl_rc_s i.2 ⟨e.1, hw, b1, nw⟩) ⟨hw, e.2.1, b2, nv⟩
    · exact ⟨n2, cl_rc_s i.2 ⟨hu, hv, e, n2⟩⟩)
  exact k.2
/-- another component of the depth of that around doesn't cut it off -/
theorem cl_free {b : Nat → Int32} (ok : cl_ok b) {x c r r' a z : Nat} (hc : c < 196) (hr : r < 196) (hr' : r' < 196) (ha : a < 196) (rx : cl_root b x = cl_root b c) (bc : gp_bs c r) (dc : cl_dep b r + 1 = cl_dep b c) (rr : cl_root b r = cl_root b r') (ba : gp_bs r' a) (da : cl_dep b a + 1 = cl_dep b r) (bz : b z ≠ 0) (dz : cl_dep b z + 2 = cl_dep b c) (nz : cl_root b z ≠ cl_root b a) : cl_rc (cl_av b (cl_root b z)) 0 x := by
  have n1 : cl_root b r ≠ cl_root b z := fun z => by
    have := cl_dep_rt ok z
    omega
  have n2 : cl_root b c ≠ cl_root b z := fun z => by
    have := cl_dep_rt ok z
    omega
  refine cl_mv_av ok bz ?_
  have s1 := cl_way ok ha nz (by omega)
  have s2 := cl_rc_s s1 (v := r') (Or.inr ⟨ha, hr', gp_bs_y ba, fun q => nz q.symm, rr ▸ n1⟩)
  have s3 : cl_rc (cl_mv b (cl_root b z)) 0 r := cl_rc_t s2 (cl_rc_m (fun _ _ e => Or.inl e) (cl_root_pt rr.symm))
  have s4 := cl_rc_s s3 (v := c) (Or.inr ⟨hr, hc, gp_bs_y bc, n1, n2⟩)
  exact cl_rc_t s4 (cl_rc_m (fun _ _ e => Or.inl e) (cl_root_pt rx.symm))
end
section
/-! a place's neighbours as both sides reckon them; the flood of a part -/
theorem cl_ptw {post : Int32 → Prop} {p d : Nat} (hp : p < 196) (hd : d < 9) (hy : ∀ q, cl_to p d q → post (nI q)) (hn : (∀ q, ¬ cl_to p d q) → post (-1)) : wpX_placeToward post (nI p) (nI d) := by
  have e14 : (14 : Int32) ≠ 0 := by decide
  have e3 : (3 : Int32) ≠ 0 := by decide
  have r1 : nI p - nI p / 14 * 14 = nI (p % 14) := pk_rem (d := 14) (by omega) (by decide) (by decide)
  have r2 : nI d - nI d / 3 * 3 = nI (d % 3) := pk_rem (d := 3) (by omega) (by decide) (by decide)
  have r3 : nI p / 14 = nI (p / 14) := pk_div (d := 14) (by omega) (by decide) (by decide)
  have r4 : nI d / 3 = nI (d / 3) := pk_div (d := 3) (by omega) (by decide) (by decide)
  unfold wpX_placeToward
  refine ⟨e14, e3, ?_⟩
  rw [r1, r2, r3, r4, nI_add, nI_add]
  intro x ex
  refine ⟨e14, e3, ?_⟩
  intro y ey
  have m1 : (0 : Int32) - 1 < 0 := by decide
  by_cases hx : p % 14 + d % 3 = 0
  · rw [hx, nI_0] at ex
    rw [ex]
    exact br_t m1 (hn fun q h => by unfold cl_to at h; omega)
  · obtain ⟨c, hc⟩ : ∃ c, p % 14 + d % 3 = c + 1 := ⟨p % 14 + d % 3 - 1, by omega⟩
    rw [hc, nI_pred] at ex
    rw [ex]
    refine br_f (nI_pos (by omega)) (pk_le 14 c (fun h => hn fun q k => by unfold cl_to at k; omega) (fun h => ?_))
    by_cases hy0 : p / 14 + d / 3 = 0
    · rw [hy0, nI_0] at ey
      rw [ey]
      exact br_t m1 (hn fun q h => by unfold cl_to at h; omega)
    · obtain ⟨r, hr⟩ : ∃ r, p / 14 + d / 3 = r + 1 := ⟨p / 14 + d / 3 - 1, by omega⟩
      rw [hr, nI_pred] at ey
      rw [ey]
      refine br_f (nI_pos (by omega)) (pk_lt r 14 (fun h2 => ?_) (fun h2 => hn fun q k => by unfold cl_to at k; omega))
      have e : nI r * 14 + nI c = nI (r * 14 + c) := by
        rw [show nI r * 14 = nI (r * 14) from pk_mul r 14, nI_add]
      rw [e]
      exact hy _ ⟨by omega, by omega, by omega⟩
theorem cl_ner {post : Int32 → Prop} {v : SY} {p d : Nat} (hp : p < 196) (hd : d < 9) (hy : ∀ q, cl_to p d q → post (nI q)) (hn : (∀ q, ¬ cl_to p d q) → post (-1)) : wpY_near post v (nI p) (nI d) := by
  have e14 : (14 : Int32) ≠ 0 := by decide
  have e3 : (3 : Int32) ≠ 0 := by decide
  have r1 : nI p - nI p / 14 * 14 = nI (p % 14) := pk_rem (d := 14) (by omega) (by decide) (by decide)
  have r2 : nI d - nI d / 3 * 3 = nI (d % 3) := pk_rem (d := 3) (by omega) (by decide) (by decide)
  have r3 : nI p / 14 = nI (p / 14) := pk_div (d := 14) (by omega) (by decide) (by decide)
  have r4 : nI d / 3 = nI (d / 3) := pk_div (d := 3) (by omega) (by decide) (by decide)
  unfold wpY_near
  refine ⟨e14, e3, ?_⟩
  rw [r1, r2, r3, r4, nI_add, nI_add]
  intro x ex
  refine ⟨e14, e3, ?_⟩
  intro y ey
  have m1 : (0 : Int32) - 1 < 0 := by decide
  by_cases hx : p % 14 + d % 3 = 0
  · rw [hx, nI_0] at ex
    rw [ex]
    exact br_t m1 (hn fun q h => by unfold cl_to at h; omega)
  · obtain ⟨c, hc⟩ : ∃ c, p % 14 + d % 3 = c + 1 := ⟨p % 14 + d % 3 - 1, by omega⟩
    rw [hc, nI_pred] at ex
    rw [ex]
    refine br_f (nI_pos (by omega)) (pk_lt 13 c (fun h => hn fun q k => by unfold cl_to at k; omega) (fun h => ?_))
    by_cases hy0 : p / 14 + d / 3 = 0
    · rw [hy0, nI_0] at ey
      rw [ey]
      exact br_t m1 (hn fun q h => by unfold cl_to at h; omega)
    · obtain ⟨r, hr⟩ : ∃ r, p / 14 + d / 3 = r + 1 := ⟨p / 14 + d / 3 - 1, by omega⟩
      rw [hr, nI_pred] at ey
      rw [ey]
      refine br_f (nI_pos (by omega)) (pk_le r 13 (fun h2 => ?_) (fun h2 => hn fun q k => by unfold cl_to at k; omega))
      have e : 14 * nI r + nI c = nI (14 * r + c) := by
        rw [show 14 * nI r = nI (14 * r) from pk_mul 14 r, nI_add]
      rw [e]
      exact hy _ ⟨by omega, by omega, by omega⟩
theorem cl_nm1 {n : Nat} (h : n < 2 ^ 31) : ¬ nI n = -1 := fun e => by
  have a := nI_toInt h
  rw [e, show (-1 : Int32).toInt = -1 from by decide] at a
  omega
/-! the flood -/
def cl_B (b m0 : Nat → Int32) (s : Nat) (k : Int32) (Q t : Nat) (m q : Nat → Int32) : Prop :=
  ∃ V : Nat → Prop, V s ∧ (∀ p, V p → cl_rc (cl_st b) s p) ∧ cl_cnt V 196 = Q ∧ (∀ i, i < Q → ∃ p, V p ∧ q i = nI p) ∧ (∀ p, V p → m p = k) ∧ (∀ p, ¬ V p → m p = m0 p) ∧ (∀ p, V p → (∃ i, t ≤ i ∧ i < Q ∧ q i = nI p) ∨ (∀ v, cl_st b p v → V v))
def cl_Bi (b m0 : Nat → Int32) (s : Nat) (k : Int32) (Q t : Nat) (m q : Nat → Int32) (p w : Nat) : Prop :=
  ∃ V : Nat → Prop, V s ∧ (∀ p, V p → cl_rc (cl_st b) s p) ∧ cl_cnt V 196 = Q ∧ (∀ i, i < Q → ∃ p, V p ∧ q i = nI p) ∧ (∀ p, V p → m p = k) ∧ (∀ p, ¬ V p → m p = m0 p) ∧ V p ∧ t < Q ∧
    (∀ p', V p' → (∃ i, t + 1 ≤ i ∧ i < Q ∧ q i = nI p') ∨ (∀ v, cl_st b p' v → V v) ∨ (p' = p ∧ ∀ d, d < w → (b p ≠ 0 ∨ d % 2 = 1) → ∀ v, cl_to p d v → b p = b v → V v))
theorem cl_B_Q {b m0 : Nat → Int32} {s : Nat} {k : Int32} {Q t : Nat} {m q : Nat → Int32} (h : cl_B b m0 s k Q t m q) : Q ≤ 196 := by
  obtain ⟨V, _, _, e, _⟩ := h
  rw [← e]; exact cl_cnt_le V 196
theorem cl_Bi_Q {b m0 : Nat → Int32} {s : Nat} {k : Int32} {Q t : Nat} {m q : Nat → Int32} {p w : Nat} (h : cl_Bi b m0 s k Q t m q p w) : Q ≤ 196 := by
  obtain ⟨V, _, _, e, _⟩ := h
  rw [← e]; exact cl_cnt_le V 196
theorem cl_B_0 {b m0 q0 : Nat → Int32} {s : Nat} {k : Int32} (hs : s < 196) : cl_B b m0 s k 1 0 (upd m0 s k) (upd q0 0 (nI s)) := by
  refine ⟨fun j => False ∨ j = s, Or.inr rfl, ?_, ?_, ?_, ?_, ?_, ?_⟩
  · intro p hp
    rcases hp with hp | rfl
    · exact hp.elim
    · exact cl_rc_r _ _
  · rw [cl_cnt_un (P := fun _ => False) hs id, cl_cnt_z (fun _ _ => id)]
  · intro i hi
    have : i = 0 := by omega
    subst this
    exact ⟨s, Or.inr rfl, pk_us⟩
  · intro p hp
    rcases hp with hp | rfl
    · exact hp.elim
    · exact pk_us
  · intro p hp
    exact pk_un (fun z => hp (Or.inr z))
  · intro p hp
    rcases hp with hp | rfl
    · exact hp.elim
    · exact Or.inl ⟨0, by omega, by omega, pk_us⟩
theorem cl_B_x {b m0 : Nat → Int32} {s : Nat} {k : Int32} {Q t : Nat} {m q : Nat → Int32} (h : cl_B b m0 s k Q t m q) (ht : Q ≤ t) : (∀ p, cl_rc (cl_st b) s p → m p = k) ∧ (∀ p, ¬ cl_rc (cl_st b) s p → m p = m0 p) := by
  obtain ⟨V, v0, vr, vc, vq, vm, vn, vt⟩ := h
  have cl : ∀ u v, V u → cl_st b u v → V v := fun u v hu e => by
    rcases vt u hu with ⟨i, a, c, _⟩ | z
    · omega
    · exact z v e
  exact ⟨fun p hp => vm p (hp V v0 cl), fun p hp => vn p (fun z => hp (vr p z))⟩
theorem cl_B_e {b m0 : Nat → Int32} {s : Nat} {k : Int32} {Q t : Nat} {m q : Nat → Int32} (hs : s < 196) (h : cl_B b m0 s k Q t m q) (ht : t < Q) : ∃ p, p < 196 ∧ q t = nI p ∧ (b p ≠ 0 → cl_Bi b m0 s k Q t m q p 0) ∧ (b p = 0 → cl_Bi b m0 s k Q t m q p 1) := by
  obtain ⟨V, v0, vr, vc, vq, vm, vn, vt⟩ := h
  obtain ⟨p, vp, hq⟩ := vq t ht
  have hp : p < 196 := cl_pt_lt hs (vr p vp)
  have main : ∀ w, (∀ d, d < w → (b p ≠ 0 ∨ d % 2 = 1) → ∀ v, cl_to p d v → b p = b v → V v) → cl_Bi b m0 s k Q t m q p w := fun w hw => by
    refine ⟨V, v0, vr, vc, vq, vm, vn, vp, ht, fun p' vp' => ?_⟩
    rcases vt p' vp' with ⟨i, a, c, e⟩ | z
    · by_cases hi : i = t
      · subst hi
        have : p' = p := (nI_eq (Nat.lt_trans (cl_pt_lt hs (vr p' vp')) (by decide)) (Nat.lt_trans hp (by decide))).mp (e.symm.trans hq)
        exact Or.inr (Or.inr ⟨this, hw⟩)
      · exact Or.inl ⟨i, by omega, c, e⟩
    · exact Or.inr (Or.inl z)
  refine ⟨p, hp, hq, fun _ => main 0 (fun d hd => absurd hd (Nat.not_lt_zero d)), fun hb => main 1 (fun d hd k => ?_)⟩
  rcases k with k | k
  · exact absurd hb k
  · omega
theorem cl_B_sk {b m0 : Nat → Int32} {s : Nat} {k : Int32} {Q t : Nat} {m q : Nat → Int32} {p w w' : Nat} (hs : s < 196) (hw : w < 9) (hm : ∀ p, cl_rc (cl_st b) s p → m0 p = -1) (h : cl_Bi b m0 s k Q t m q p w) (hw' : ∀ d, d < w' → (b p ≠ 0 ∨ d % 2 = 1) → d < w ∨ d = w) (hn : ∀ v, cl_to p w v → m v = -1 → b v = b p → False) : cl_Bi b m0 s k Q t m q p w' := by
  obtain ⟨V, v0, vr, vc, vq, vm, vn, vp, ht, vt⟩ := h
  have hp : p < 196 := cl_pt_lt hs (vr p vp)
  refine ⟨V, v0, vr, vc, vq, vm, vn, vp, ht, fun p' vp' => ?_⟩
  rcases vt p' vp' with z | z | ⟨z, y⟩
  · exact Or.inl z
  · exact Or.inr (Or.inl z)
  · refine Or.inr (Or.inr ⟨z, fun d hd o v tv e => ?_⟩)
    rcases hw' d hd o with g | rfl
    · exact y d g o v tv e
    · refine Classical.byContradiction fun nv => hn v tv ?_ e.symm
      rw [vn v nv]
      exact hm v (cl_rc_s (vr p vp) (cl_to_st hp hw o tv e))
theorem cl_B_ad {b m0 : Nat → Int32} {s : Nat} {k : Int32} {Q t : Nat} {m q : Nat → Int32} {p w w' v : Nat} (hs : s < 196) (hw : w < 9) (hk : k ≠ -1) (h : cl_Bi b m0 s k Q t m q p w) (hw' : ∀ d, d < w' → (b p ≠ 0 ∨ d % 2 = 1) → d < w ∨ d = w) (ow : b p ≠ 0 ∨ w % 2 = 1) (tv : cl_to p w v) (mv : m v = -1) (bv : b v = b p) : Q < 196 ∧ cl_Bi b m0 s k (Q + 1) t (upd m v k) (upd q Q (nI v)) p w' := by
  obtain ⟨V, v0, vr, vc, vq, vm, vn, vp, ht, vt⟩ := h
  have hp : p < 196 := cl_pt_lt hs (vr p vp)
  have nv : ¬ V v := fun z => hk ((vm v z).symm.trans mv)
  have hQ : Q < 196 := by rw [← vc]; exact cl_cnt_nf tv.1 nv
  refine ⟨hQ, fun j => V j ∨ j = v, Or.inl v0, ?_, ?_, ?_, ?_, ?_, Or.inl vp, by omega, ?_⟩
  · intro p' hp'
    rcases hp' with z | rfl
    · exact vr p' z
    · exact cl_rc_s (vr p vp) (cl_to_st hp hw ow tv bv.symm)
  · rw [cl_cnt_un tv.1 nv, vc]
  · intro i hi
    by_cases e : i = Q
    · subst e
      exact ⟨v, Or.inr rfl, pk_us⟩
    · obtain ⟨p', a, c⟩ := vq i (by omega)
      exact ⟨p', Or.inl a, (pk_un e).trans c⟩
  · intro p' hp'
    by_cases e : p' = v
    · subst e; exact pk_us
    · rw [pk_un e]
      exact vm p' (hp'.resolve_right e)
  · intro p' hp'
    rw [pk_un (fun z => hp' (Or.inr z))]
    exact vn p' (fun z => hp' (Or.inl z))
  · intro p' hp'
    rcases hp' with hp' | rfl
    · rcases vt p' hp' with ⟨i, a, c, e⟩ | z | ⟨z, y⟩
      · exact Or.inl ⟨i, a, by omega, (pk_un (by omega)).trans e⟩
      · exact Or.inr (Or.inl fun v' e => Or.inl (z v' e))
      · refine Or.inr (Or.inr ⟨z, fun d hd o v' tv' e => ?_⟩)
        rcases hw' d hd o with g | rfl
        · exact Or.inl (y d g o v' tv' e)
        · exact Or.inr (cl_to_un tv' tv)
    · exact Or.inl ⟨Q, by omega, by omega, pk_us⟩
theorem cl_B_lv {b m0 : Nat → Int32} {s : Nat} {k : Int32} {Q t : Nat} {m q : Nat → Int32} {p : Nat} (h : cl_Bi b m0 s k Q t m q p 9) : cl_B b m0 s k Q (t + 1) m q := by
  obtain ⟨V, v0, vr, vc, vq, vm, vn, vp, ht, vt⟩ := h
  refine ⟨V, v0, vr, vc, vq, vm, vn, fun p' vp' => ?_⟩
  rcases vt p' vp' with z | z | ⟨rfl, y⟩
  · exact Or.inl z
  · exact Or.inr z
  · refine Or.inr fun v e => ?_
    obtain ⟨d, hd, o, tv⟩ := cl_st_to e
    exact y d hd o v tv e.2.2.1
end
section
/-! walks of unmarkAll and markPart (written by wip/whole/gen_mark.py) -/
theorem xu_partNumber {post : SX → Prop} {f_width f_height f_componentCount f_regionCount : Int32} {a_blackAt a_componentStart a_regionStart a_partNumber a_depthAt a_outerNeighbour a_queue a_alone a_reached : Nat → Int32} (H : ∀ m : Nat → Int32, (∀ p, p < 196 → m p = -1) → post (f_width, f_height, f_componentCount, f_regionCount, a_blackAt, a_componentStart, a_regionStart, m, a_depthAt, a_outerNeighbour, a_queue, a_alone, a_reached)) : wpX_unmarkAll__partNumber post (f_width, f_height, f_componentCount, f_regionCount, a_blackAt, a_componentStart, a_regionStart, a_partNumber, a_depthAt, a_outerNeighbour, a_queue, a_alone, a_reached) :=
  loop_0 (fun n i (s : Nat → Int32) => wX_unmarkAll__partNumber_2 post f_width f_height f_componentCount f_regionCount n (nI i) a_blackAt a_componentStart a_regionStart s a_depthAt a_outerNeighbour a_queue a_alone a_reached) (fun i s => ∀ p, p < i → s p = -1) 196 a_partNumber (fun p hp => absurd hp (Nat.not_lt_zero p))
    (fun n s h => br_t (nI_le (a := 196) (b := 196) (by decide) (by decide)) (H s h))
    (fun n i s hi h k => br_f (nI_ge (b := 196) hi (by decide)) ⟨vp_in_nI hi (by decide), nm_r (congrArg (fun z => upd s z (-1)) (nI_clamp (Nat.lt_trans hi (by decide)))) (nm_r (nI_1 i) (k _ (fun p hp => by
      by_cases e : p = i
      · rw [e]; exact pk_us
      · rw [pk_un e]; exact h p (by omega))))⟩)
theorem xu_depthAt {post : SX → Prop} {f_width f_height f_componentCount f_regionCount : Int32} {a_blackAt a_componentStart a_regionStart a_partNumber a_depthAt a_outerNeighbour a_queue a_alone a_reached : Nat → Int32} (H : ∀ m : Nat → Int32, (∀ p, p < 196 → m p = -1) → post (f_width, f_height, f_componentCount, f_regionCount, a_blackAt, a_componentStart, a_regionStart, a_partNumber, m, a_outerNeighbour, a_queue, a_alone, a_reached)) : wpX_unmarkAll__depthAt post (f_width, f_height, f_componentCount, f_regionCount, a_blackAt, a_componentStart, a_regionStart, a_partNumber, a_depthAt, a_outerNeighbour, a_queue, a_alone, a_reached) :=
  loop_0 (fun n i (s : Nat → Int32) => wX_unmarkAll__depthAt_2 post f_width f_height f_componentCount f_regionCount n (nI i) a_blackAt a_componentStart a_regionStart a_partNumber s a_outerNeighbour a_queue a_alone a_reached) (fun i s => ∀ p, p < i → s p = -1) 196 a_depthAt (fun p hp => absurd hp (Nat.not_lt_zero p))
    (fun n s h => br_t (nI_le (a := 196) (b := 196) (by decide) (by decide)) (H s h))
    (fun n i s hi h k => br_f (nI_ge (b := 196) hi (by decide)) ⟨vp_in_nI hi (by decide), nm_r (congrArg (fun z => upd s z (-1)) (nI_clamp (Nat.lt_trans hi (by decide)))) (nm_r (nI_1 i) (k _ (fun p hp => by
      by_cases e : p = i
      · rw [e]; exact pk_us
      · rw [pk_un e]; exact h p (by omega))))⟩)
theorem xu_outerNeighbour {post : SX → Prop} {f_width f_height f_componentCount f_regionCount : Int32} {a_blackAt a_componentStart a_regionStart a_partNumber a_depthAt a_outerNeighbour a_queue a_alone a_reached : Nat → Int32} (H : ∀ m : Nat → Int32, (∀ p, p < 196 → m p = -1) → post (f_width, f_height, f_componentCount, f_regionCount, a_blackAt, a_componentStart, a_regionStart, a_partNumber, a_depthAt, m, a_queue, a_alone, a_reached)) : wpX_unmarkAll__outerNeighbour post (f_width, f_height, f_componentCount, f_regionCount, a_blackAt, a_componentStart, a_regionStart, a_partNumber, a_depthAt, a_outerNeighbour, a_queue, a_alone, a_reached) :=
  loop_0 (fun n i (s : Nat → Int32) => wX_unmarkAll__outerNeighbour_2 post f_width f_height f_componentCount f_regionCount n (nI i) a_blackAt a_componentStart a_regionStart a_partNumber a_depthAt s a_queue a_alone a_reached) (fun i s => ∀ p, p < i → s p = -1) 196 a_outerNeighbour (fun p hp => absurd hp (Nat.not_lt_zero p))
    (fun n s h => br_t (nI_le (a := 196) (b := 196) (by decide) (by decide)) (H s h))
    (fun n i s hi h k => br_f (nI_ge (b := 196) hi (by decide)) ⟨vp_in_nI hi (by decide), nm_r (congrArg (fun z => upd s z (-1)) (nI_clamp (Nat.lt_trans hi (by decide)))) (nm_r (nI_1 i) (k _ (fun p hp => by
      by_cases e : p = i
      · rw [e]; exact pk_us
      · rw [pk_un e]; exact h p (by omega))))⟩)
theorem xu_reached {post : SX → Prop} {f_width f_height f_componentCount f_regionCount : Int32} {a_blackAt a_componentStart a_regionStart a_partNumber a_depthAt a_outerNeighbour a_queue a_alone a_reached : Nat → Int32} (H : ∀ m : Nat → Int32, (∀ p, p < 196 → m p = -1) → post (f_width, f_height, f_componentCount, f_regionCount, a_blackAt, a_componentStart, a_regionStart, a_partNumber, a_depthAt, a_outerNeighbour, a_queue, a_alone, m)) : wpX_unmarkAll__reached post (f_width, f_height, f_componentCount, f_regionCount, a_blackAt, a_componentStart, a_regionStart, a_partNumber, a_depthAt, a_outerNeighbour, a_queue, a_alone, a_reached) :=
  loop_0 (fun n i (s : Nat → Int32) => wX_unmarkAll__reached_2 post f_width f_height f_componentCount f_regionCount n (nI i) a_blackAt a_componentStart a_regionStart a_partNumber a_depthAt a_outerNeighbour a_queue a_alone s) (fun i s => ∀ p, p < i → s p = -1) 196 a_reached (fun p hp => absurd hp (Nat.not_lt_zero p))
    (fun n s h => br_t (nI_le (a := 196) (b := 196) (by decide) (by decide)) (H s h))
    (fun n i s hi h k => br_f (nI_ge (b := 196) hi (by decide)) ⟨vp_in_nI hi (by decide), nm_r (congrArg (fun z => upd s z (-1)) (nI_clamp (Nat.lt_trans hi (by decide)))) (nm_r (nI_1 i) (k _ (fun p hp => by
      by_cases e : p = i
      · rw [e]; exact pk_us
      · rw [pk_un e]; exact h p (by omega))))⟩)
theorem xi_blackAt_partNumber {post : SX → Prop} {J18 : Int32 → Int32 → (Nat → Int32) → (Nat → Int32) → (Nat → Int32) → (Nat → Int32) → (Nat → Int32) → (Nat → Int32) → (Nat → Int32) → (Nat → Int32) → (Nat → Int32) → Prop} {k : Int32} {s t p sd : Nat} {f_width f_height f_componentCount f_regionCount : Int32} {a_blackAt a_componentStart a_regionStart a_partNumber a_depthAt a_outerNeighbour a_alone a_reached : Nat → Int32} (hs : s < 196) (hp : p < 196) (hk : k ≠ -1) (hm : ∀ p, cl_rc (cl_st a_blackAt) s p → a_partNumber p = -1)
    (J : ∀ Q m q, cl_B a_blackAt a_partNumber s k Q (t + 1) m q → J18 (nI Q) (nI (t + 1)) a_blackAt a_componentStart a_regionStart m a_depthAt a_outerNeighbour q a_alone a_reached) :
    ∀ (n w Q : Nat) (m q : Nat → Int32), w ≤ 9 → 9 < n + w → (sd = 1 ∧ a_blackAt p ≠ 0) ∨ (sd = 2 ∧ a_blackAt p = 0 ∧ w % 2 = 1) → cl_Bi a_blackAt a_partNumber s k Q t m q p w → wX_markPart__blackAt_partNumber_74 post J18 k (nI t) (nI p) (nI sd) f_width f_height f_componentCount f_regionCount n (nI Q) (nI w) a_blackAt a_componentStart a_regionStart m a_depthAt a_outerNeighbour q a_alone a_reached := by
  intro n
  induction n with
  | zero => intro w Q m q h1 h2; omega
  | succ n ih =>
    intro w Q m q h1 h2 hsd hB
    have hQ := cl_Bi_Q hB
    by_cases h9 : w = 9
    · subst h9
      exact br_t (nI_le (a := 9) (b := 9) (by decide) (by decide)) (nm_r (nI_1 t) (J Q m q (cl_B_lv hB)))
    · have hw : w < 9 := by omega
      have cp : (nI p).toNatClampNeg = p := nI_clamp (Nat.lt_trans hp (by decide))
      have hw' : ∀ d, d < w + sd → (a_blackAt p ≠ 0 ∨ d % 2 = 1) → d < w ∨ d = w := fun d hd o => by
        rcases hsd with ⟨e, _⟩ | ⟨e, z, y⟩
        · omega
        · have := o.resolve_left (fun n => n z)
          omega
      have ow : a_blackAt p ≠ 0 ∨ w % 2 = 1 := hsd.elim (fun z => Or.inl z.2) (fun z => Or.inr z.2.2)
      have hsd' : (sd = 1 ∧ a_blackAt p ≠ 0) ∨ (sd = 2 ∧ a_blackAt p = 0 ∧ (w + sd) % 2 = 1) := by
        rcases hsd with z | ⟨e, z, y⟩
        · exact Or.inl z
        · exact Or.inr ⟨e, z, by omega⟩
      have hl : w + sd ≤ 9 := by
        rcases hsd with ⟨e, _⟩ | ⟨e, _, y⟩ <;> omega
      have hf : 9 < n + (w + sd) := by
        rcases hsd with ⟨e, _⟩ | ⟨e, _, y⟩ <;> omega
      have go : (∀ v, cl_to p w v → m v = -1 → a_blackAt v = a_blackAt p → False) → wX_markPart__blackAt_partNumber_74 post J18 k (nI t) (nI p) (nI sd) f_width f_height f_componentCount f_regionCount n (nI Q) (nI (w + sd)) a_blackAt a_componentStart a_regionStart m a_depthAt a_outerNeighbour q a_alone a_reached := fun hn =>
        ih (w + sd) Q m q hl hf hsd' (cl_B_sk hs hw hm hB hw' hn)
      refine br_f (nI_ge (b := 9) hw (by decide)) (cl_ptw hp hw (fun v tv => ?_) (fun hn => ?_))
      · have cv : (nI v).toNatClampNeg = v := nI_clamp (Nat.lt_trans tv.1 (by decide))
        have iv : vp_in (nI v) 196 := vp_in_nI tv.1 (by decide)
        refine br_f (cl_nm1 (Nat.lt_trans tv.1 (by decide))) ⟨iv, ?_⟩
        rw [cv, cp]
        by_cases mv : m v = -1
        · refine br_t mv ⟨iv, vp_in_nI hp (by decide), ?_⟩
          by_cases bv : a_blackAt v = a_blackAt p
          · obtain ⟨hQ2, hB2⟩ := cl_B_ad hs hw hk hB hw' ow tv mv bv
            refine br_t bv (br_f (nI_ge (b := 196) hQ2 (by decide)) ⟨iv, nm_e ⟨vp_in_nI hQ2 (by decide), ?_⟩⟩)
            rw [nI_clamp (Nat.lt_trans hQ2 (by decide))]
            exact nm_e (nm_r (nI_1 Q) (nm_r (nI_add w sd) (ih (w + sd) (Q + 1) (upd m v k) (upd q Q (nI v)) hl hf hsd' hB2)))
          · exact br_f bv (nm_r (nI_add w sd) (go fun v' tv' _ bv' => bv (cl_to_un tv' tv ▸ bv')))
        · exact br_f mv (nm_r (nI_add w sd) (go fun v' tv' mv' _ => mv (cl_to_un tv' tv ▸ mv')))
      · exact br_t rfl (nm_r (nI_add w sd) (go fun v tv _ _ => hn v tv))
theorem xo_blackAt_partNumber {post : SX → Prop} {k : Int32} {s : Nat} {f_width f_height f_componentCount f_regionCount : Int32} {a_blackAt a_componentStart a_regionStart a_partNumber a_depthAt a_outerNeighbour a_alone a_reached : Nat → Int32} (hs : s < 196) (hk : k ≠ -1) (hm : ∀ p, cl_rc (cl_st a_blackAt) s p → a_partNumber p = -1)
    (H : ∀ m q : Nat → Int32, (∀ p, cl_rc (cl_st a_blackAt) s p → m p = k) → (∀ p, ¬ cl_rc (cl_st a_blackAt) s p → m p = a_partNumber p) → post (f_width, f_height, f_componentCount, f_regionCount, a_blackAt, a_componentStart, a_regionStart, m, a_depthAt, a_outerNeighbour, q, a_alone, a_reached)) :
    ∀ (n t Q : Nat) (m q : Nat → Int32), t ≤ 196 → 196 < n + t → cl_B a_blackAt a_partNumber s k Q t m q → wX_markPart__blackAt_partNumber_18 post k f_width f_height f_componentCount f_regionCount n (nI Q) (nI t) a_blackAt a_componentStart a_regionStart m a_depthAt a_outerNeighbour q a_alone a_reached := by
  intro n
  induction n with
  | zero => intro t Q m q h1 h2; omega
  | succ n ih =>
    intro t Q m q h1 h2 hB
    have hQ := cl_B_Q hB
    refine pk_le Q t (fun h => ?_) (fun h => ?_)
    · obtain ⟨a, c⟩ := cl_B_x hB h
      exact H m q a c
    · refine br_f (nI_ge (b := 196) (by omega) (by decide)) ⟨vp_in_nI (by omega) (by decide), ?_⟩
      obtain ⟨p, hp, hq, B1, B0⟩ := cl_B_e hs hB h
      rw [nI_clamp (by omega)]
      refine nm_r hq ⟨vp_in_nI hp (by decide), ?_⟩
      have cp : (nI p).toNatClampNeg = p := nI_clamp (Nat.lt_trans hp (by decide))
      have nx : ∀ Q m q, cl_B a_blackAt a_partNumber s k Q (t + 1) m q → wX_markPart__blackAt_partNumber_18 post k f_width f_height f_componentCount f_regionCount n (nI Q) (nI (t + 1)) a_blackAt a_componentStart a_regionStart m a_depthAt a_outerNeighbour q a_alone a_reached := fun Q m q hB => ih (t + 1) Q m q (by omega) (by omega) hB
      rw [cp]
      by_cases hb : a_blackAt p = 0
      · refine br_t hb ?_
        unfold wX_markPart__blackAt_partNumber_54
        rw [cp]
        exact ⟨vp_in_nI hp (by decide), br_t hb ⟨10, xi_blackAt_partNumber (sd := 2) hs hp hk hm nx 10 1 Q m q (by decide) (by decide) (Or.inr ⟨rfl, hb, rfl⟩) (B0 hb)⟩⟩
      · refine br_f hb ?_
        unfold wX_markPart__blackAt_partNumber_54
        rw [cp]
        exact ⟨vp_in_nI hp (by decide), br_f hb ⟨10, xi_blackAt_partNumber (sd := 1) hs hp hk hm nx 10 0 Q m q (by decide) (by decide) (Or.inl ⟨rfl, hb⟩) (B1 hb)⟩⟩
theorem xm_blackAt_partNumber {post : SX → Prop} {k : Int32} {s : Nat} {f_width f_height f_componentCount f_regionCount : Int32} {a_blackAt a_componentStart a_regionStart a_partNumber a_depthAt a_outerNeighbour a_queue a_alone a_reached : Nat → Int32} (hs : s < 196) (hk : k ≠ -1) (hm : ∀ p, cl_rc (cl_st a_blackAt) s p → a_partNumber p = -1)
    (H : ∀ m q : Nat → Int32, (∀ p, cl_rc (cl_st a_blackAt) s p → m p = k) → (∀ p, ¬ cl_rc (cl_st a_blackAt) s p → m p = a_partNumber p) → post (f_width, f_height, f_componentCount, f_regionCount, a_blackAt, a_componentStart, a_regionStart, m, a_depthAt, a_outerNeighbour, q, a_alone, a_reached)) :
    wpX_markPart__blackAt_partNumber post (f_width, f_height, f_componentCount, f_regionCount, a_blackAt, a_componentStart, a_regionStart, a_partNumber, a_depthAt, a_outerNeighbour, a_queue, a_alone, a_reached) (nI s) k := by
  refine ⟨vp_in_nI hs (by decide), ?_⟩
  rw [nI_clamp (Nat.lt_trans hs (by decide))]
  exact nm_e (nm_e ⟨197, xo_blackAt_partNumber hs hk hm H 197 0 1 _ _ (by decide) (by decide) (cl_B_0 hs)⟩)
theorem xi_blackAt_depthAt {post : SX → Prop} {J18 : Int32 → Int32 → (Nat → Int32) → (Nat → Int32) → (Nat → Int32) → (Nat → Int32) → (Nat → Int32) → (Nat → Int32) → (Nat → Int32) → (Nat → Int32) → (Nat → Int32) → Prop} {k : Int32} {s t p sd : Nat} {f_width f_height f_componentCount f_regionCount : Int32} {a_blackAt a_componentStart a_regionStart a_partNumber a_depthAt a_outerNeighbour a_alone a_reached : Nat → Int32} (hs : s < 196) (hp : p < 196) (hk : k ≠ -1) (hm : ∀ p, cl_rc (cl_st a_blackAt) s p → a_depthAt p = -1)
    (J : ∀ Q m q, cl_B a_blackAt a_depthAt s k Q (t + 1) m q → J18 (nI Q) (nI (t + 1)) a_blackAt a_componentStart a_regionStart a_partNumber m a_outerNeighbour q a_alone a_reached) :
    ∀ (n w Q : Nat) (m q : Nat → Int32), w ≤ 9 → 9 < n + w → (sd = 1 ∧ a_blackAt p ≠ 0) ∨ (sd = 2 ∧ a_blackAt p = 0 ∧ w % 2 = 1) → cl_Bi a_blackAt a_depthAt s k Q t m q p w → wX_markPart__blackAt_depthAt_74 post J18 k (nI t) (nI p) (nI sd) f_width f_height f_componentCount f_regionCount n (nI Q) (nI w) a_blackAt a_componentStart a_regionStart a_partNumber m a_outerNeighbour q a_alone a_reached := by
  intro n
  induction n with
  | zero => intro w Q m q h1 h2; omega
  | succ n ih =>
    intro w Q m q h1 h2 hsd hB
    have hQ := cl_Bi_Q hB
    by_cases h9 : w = 9
    · subst h9
      exact br_t (nI_le (a := 9) (b := 9) (by decide) (by decide)) (nm_r (nI_1 t) (J Q m q (cl_B_lv hB)))
    · have hw : w < 9 := by omega
      have cp : (nI p).toNatClampNeg = p := nI_clamp (Nat.lt_trans hp (by decide))
      have hw' : ∀ d, d < w + sd → (a_blackAt p ≠ 0 ∨ d % 2 = 1) → d < w ∨ d = w := fun d hd o => by
        rcases hsd with ⟨e, _⟩ | ⟨e, z, y⟩
        · omega
        · have := o.resolve_left (fun n => n z)
          omega
      have ow : a_blackAt p ≠ 0 ∨ w % 2 = 1 := hsd.elim (fun z => Or.inl z.2) (fun z => Or.inr z.2.2)
      have hsd' : (sd = 1 ∧ a_blackAt p ≠ 0) ∨ (sd = 2 ∧ a_blackAt p = 0 ∧ (w + sd) % 2 = 1) := by
        rcases hsd with z | ⟨e, z, y⟩
        · exact Or.inl z
        · exact Or.inr ⟨e, z, by omega⟩
      have hl : w + sd ≤ 9 := by
        rcases hsd with ⟨e, _⟩ | ⟨e, _, y⟩ <;> omega
      have hf : 9 < n + (w + sd) := by
        rcases hsd with ⟨e, _⟩ | ⟨e, _, y⟩ <;> omega
      have go : (∀ v, cl_to p w v → m v = -1 → a_blackAt v = a_blackAt p → False) → wX_markPart__blackAt_depthAt_74 post J18 k (nI t) (nI p) (nI sd) f_width f_height f_componentCount f_regionCount n (nI Q) (nI (w + sd)) a_blackAt a_componentStart a_regionStart a_partNumber m a_outerNeighbour q a_alone a_reached := fun hn =>
        ih (w + sd) Q m q hl hf hsd' (cl_B_sk hs hw hm hB hw' hn)
      refine br_f (nI_ge (b := 9) hw (by decide)) (cl_ptw hp hw (fun v tv => ?_) (fun hn => ?_))
      · have cv : (nI v).toNatClampNeg = v := nI_clamp (Nat.lt_trans tv.1 (by decide))
        have iv : vp_in (nI v) 196 := vp_in_nI tv.1 (by decide)
        refine br_f (cl_nm1 (Nat.lt_trans tv.1 (by decide))) ⟨iv, ?_⟩
        rw [cv, cp]
        by_cases mv : m v = -1
        · refine br_t mv ⟨iv, vp_in_nI hp (by decide), ?_⟩
          by_cases bv : a_blackAt v = a_blackAt p
          · obtain ⟨hQ2, hB2⟩ := cl_B_ad hs hw hk hB hw' ow tv mv bv
            refine br_t bv (br_f (nI_ge (b := 196) hQ2 (by decide)) ⟨iv, nm_e ⟨vp_in_nI hQ2 (by decide), ?_⟩⟩)
            rw [nI_clamp (Nat.lt_trans hQ2 (by decide))]
            exact nm_e (nm_r (nI_1 Q) (nm_r (nI_add w sd) (ih (w + sd) (Q + 1) (upd m v k) (upd q Q (nI v)) hl hf hsd' hB2)))
          · exact br_f bv (nm_r (nI_add w sd) (go fun v' tv' _ bv' => bv (cl_to_un tv' tv ▸ bv')))
        · exact br_f mv (nm_r (nI_add w sd) (go fun v' tv' mv' _ => mv (cl_to_un tv' tv ▸ mv')))
      · exact br_t rfl (nm_r (nI_add w sd) (go fun v tv _ _ => hn v tv))
theorem xo_blackAt_depthAt {post : SX → Prop} {k : Int32} {s : Nat} {f_width f_height f_componentCount f_regionCount : Int32} {a_blackAt a_componentStart a_regionStart a_partNumber a_depthAt a_outerNeighbour a_alone a_reached : Nat → Int32} (hs : s < 196) (hk : k ≠ -1) (hm : ∀ p, cl_rc (cl_st a_blackAt) s p → a_depthAt p = -1)
    (H : ∀ m q : Nat → Int32, (∀ p, cl_rc (cl_st a_blackAt) s p → m p = k) → (∀ p, ¬ cl_rc (cl_st a_blackAt) s p → m p = a_depthAt p) → post (f_width, f_height, f_componentCount, f_regionCount, a_blackAt, a_componentStart, a_regionStart, a_partNumber, m, a_outerNeighbour, q, a_alone, a_reached)) :
    ∀ (n t Q : Nat) (m q : Nat → Int32), t ≤ 196 → 196 < n + t → cl_B a_blackAt a_depthAt s k Q t m q → wX_markPart__blackAt_depthAt_18 post k f_width f_height f_componentCount f_regionCount n (nI Q) (nI t) a_blackAt a_componentStart a_regionStart a_partNumber m a_outerNeighbour q a_alone a_reached := by
  intro n
  induction n with
  | zero => intro t Q m q h1 h2; omega
  | succ n ih =>
    intro t Q m q h1 h2 hB
    have hQ := cl_B_Q hB
    refine pk_le Q t (fun h => ?_) (fun h => ?_)
    · obtain ⟨a, c⟩ := cl_B_x hB h
      exact H m q a c
    · refine br_f (nI_ge (b := 196) (by omega) (by decide)) ⟨vp_in_nI (by omega) (by decide), ?_⟩
      obtain ⟨p, hp, hq, B1, B0⟩ := cl_B_e hs hB h
      rw [nI_clamp (by omega)]
      refine nm_r hq ⟨vp_in_nI hp (by decide), ?_⟩
      have cp : (nI p).toNatClampNeg = p := nI_clamp (Nat.lt_trans hp (by decide))
      have nx : ∀ Q m q, cl_B a_blackAt a_depthAt s k Q (t + 1) m q → wX_markPart__blackAt_depthAt_18 post k f_width f_height f_componentCount f_regionCount n (nI Q) (nI (t + 1)) a_blackAt a_componentStart a_regionStart a_partNumber m a_outerNeighbour q a_alone a_reached := fun Q m q hB => ih (t + 1) Q m q (by omega) (by omega) hB
      rw [cp]
      by_cases hb : a_blackAt p = 0
      · refine br_t hb ?_
        unfold wX_markPart__blackAt_depthAt_54
        rw [cp]
        exact ⟨vp_in_nI hp (by decide), br_t hb ⟨10, xi_blackAt_depthAt (sd := 2) hs hp hk hm nx 10 1 Q m q (by decide) (by decide) (Or.inr ⟨rfl, hb, rfl⟩) (B0 hb)⟩⟩
      · refine br_f hb ?_
        unfold wX_markPart__blackAt_depthAt_54
        rw [cp]
        exact ⟨vp_in_nI hp (by decide), br_f hb ⟨10, xi_blackAt_depthAt (sd := 1) hs hp hk hm nx 10 0 Q m q (by decide) (by decide) (Or.inl ⟨rfl, hb⟩) (B1 hb)⟩⟩
theorem xm_blackAt_depthAt {post : SX → Prop} {k : Int32} {s : Nat} {f_width f_height f_componentCount f_regionCount : Int32} {a_blackAt a_componentStart a_regionStart a_partNumber a_depthAt a_outerNeighbour a_queue a_alone a_reached : Nat → Int32} (hs : s < 196) (hk : k ≠ -1) (hm : ∀ p, cl_rc (cl_st a_blackAt) s p → a_depthAt p = -1)
    (H : ∀ m q : Nat → Int32, (∀ p, cl_rc (cl_st a_blackAt) s p → m p = k) → (∀ p, ¬ cl_rc (cl_st a_blackAt) s p → m p = a_depthAt p) → post (f_width, f_height, f_componentCount, f_regionCount, a_blackAt, a_componentStart, a_regionStart, a_partNumber, m, a_outerNeighbour, q, a_alone, a_reached)) :
    wpX_markPart__blackAt_depthAt post (f_width, f_height, f_componentCount, f_regionCount, a_blackAt, a_componentStart, a_regionStart, a_partNumber, a_depthAt, a_outerNeighbour, a_queue, a_alone, a_reached) (nI s) k := by
  refine ⟨vp_in_nI hs (by decide), ?_⟩
  rw [nI_clamp (Nat.lt_trans hs (by decide))]
  exact nm_e (nm_e ⟨197, xo_blackAt_depthAt hs hk hm H 197 0 1 _ _ (by decide) (by decide) (cl_B_0 hs)⟩)
theorem xi_blackAt_outerNeighbour {post : SX → Prop} {J18 : Int32 → Int32 → (Nat → Int32) → (Nat → Int32) → (Nat → Int32) → (Nat → Int32) → (Nat → Int32) → (Nat → Int32) → (Nat → Int32) → (Nat → Int32) → (Nat → Int32) → Prop} {k : Int32} {s t p sd : Nat} {f_width f_height f_componentCount f_regionCount : Int32} {a_blackAt a_componentStart a_regionStart a_partNumber a_depthAt a_outerNeighbour a_alone a_reached : Nat → Int32} (hs : s < 196) (hp : p < 196) (hk : k ≠ -1) (hm : ∀ p, cl_rc (cl_st a_blackAt) s p → a_outerNeighbour p = -1)
    (J : ∀ Q m q, cl_B a_blackAt a_outerNeighbour s k Q (t + 1) m q → J18 (nI Q) (nI (t + 1)) a_blackAt a_componentStart a_regionStart a_partNumber a_depthAt m q a_alone a_reached) :
    ∀ (n w Q : Nat) (m q : Nat → Int32), w ≤ 9 → 9 < n + w → (sd = 1 ∧ a_blackAt p ≠ 0) ∨ (sd = 2 ∧ a_blackAt p = 0 ∧ w % 2 = 1) → cl_Bi a_blackAt a_outerNeighbour s k Q t m q p w → wX_markPart__blackAt_outerNeighbour_74 post J18 k (nI t) (nI p) (nI sd) f_width f_height f_componentCount f_regionCount n (nI Q) (nI w) a_blackAt a_componentStart a_regionStart a_partNumber a_depthAt m q a_alone a_reached := by
  intro n
  induction n with
  | zero => intro w Q m q h1 h2; omega
  | succ n ih =>
    intro w Q m q h1 h2 hsd hB
    have hQ := cl_Bi_Q hB
    by_cases h9 : w = 9
    · subst h9
      exact br_t (nI_le (a := 9) (b := 9) (by decide) (by decide)) (nm_r (nI_1 t) (J Q m q (cl_B_lv hB)))
    · have hw : w < 9 := by omega
      have cp : (nI p).toNatClampNeg = p := nI_clamp (Nat.lt_trans hp (by decide))
      have hw' : ∀ d, d < w + sd → (a_blackAt p ≠ 0 ∨ d % 2 = 1) → d < w ∨ d = w := fun d hd o => by
        rcases hsd with ⟨e, _⟩ | ⟨e, z, y⟩
        · omega
        · have := o.resolve_left (fun n => n z)
          omega
      have ow : a_blackAt p ≠ 0 ∨ w % 2 = 1 := hsd.elim (fun z => Or.inl z.2) (fun z => Or.inr z.2.2)
      have hsd' : (sd = 1 ∧ a_blackAt p ≠ 0) ∨ (sd = 2 ∧ a_blackAt p = 0 ∧ (w + sd) % 2 = 1) := by
        rcases hsd with z | ⟨e, z, y⟩
        · exact Or.inl z
        · exact Or.inr ⟨e, z, by omega⟩
      have hl : w + sd ≤ 9 := by
        rcases hsd with ⟨e, _⟩ | ⟨e, _, y⟩ <;> omega
      have hf : 9 < n + (w + sd) := by
        rcases hsd with ⟨e, _⟩ | ⟨e, _, y⟩ <;> omega
      have go : (∀ v, cl_to p w v → m v = -1 → a_blackAt v = a_blackAt p → False) → wX_markPart__blackAt_outerNeighbour_74 post J18 k (nI t) (nI p) (nI sd) f_width f_height f_componentCount f_regionCount n (nI Q) (nI (w + sd)) a_blackAt a_componentStart a_regionStart a_partNumber a_depthAt m q a_alone a_reached := fun hn =>
        ih (w + sd) Q m q hl hf hsd' (cl_B_sk hs hw hm hB hw' hn)
      refine br_f (nI_ge (b := 9) hw (by decide)) (cl_ptw hp hw (fun v tv => ?_) (fun hn => ?_))
      · have cv : (nI v).toNatClampNeg = v := nI_clamp (Nat.lt_trans tv.1 (by decide))
        have iv : vp_in (nI v) 196 := vp_in_nI tv.1 (by decide)
        refine br_f (cl_nm1 (Nat.lt_trans tv.1 (by decide))) ⟨iv, ?_⟩
        rw [cv, cp]
        by_cases mv : m v = -1
        · refine br_t mv ⟨iv, vp_in_nI hp (by decide), ?_⟩
          by_cases bv : a_blackAt v = a_blackAt p
          · obtain ⟨hQ2, hB2⟩ := cl_B_ad hs hw hk hB hw' ow tv mv bv
            refine br_t bv (br_f (nI_ge (b := 196) hQ2 (by decide)) ⟨iv, nm_e ⟨vp_in_nI hQ2 (by decide), ?_⟩⟩)
            rw [nI_clamp (Nat.lt_trans hQ2 (by decide))]
            exact nm_e (nm_r (nI_1 Q) (nm_r (nI_add w sd) (ih (w + sd) (Q + 1) (upd m v k) (upd q Q (nI v)) hl hf hsd' hB2)))
          · exact br_f bv (nm_r (nI_add w sd) (go fun v' tv' _ bv' => bv (cl_to_un tv' tv ▸ bv')))
        · exact br_f mv (nm_r (nI_add w sd) (go fun v' tv' mv' _ => mv (cl_to_un tv' tv ▸ mv')))
      · exact br_t rfl (nm_r (nI_add w sd) (go fun v tv _ _ => hn v tv))
theorem xo_blackAt_outerNeighbour {post : SX → Prop} {k : Int32} {s : Nat} {f_width f_height f_componentCount f_regionCount : Int32} {a_blackAt a_componentStart a_regionStart a_partNumber a_depthAt a_outerNeighbour a_alone a_reached : Nat → Int32} (hs : s < 196) (hk : k ≠ -1) (hm : ∀ p, cl_rc (cl_st a_blackAt) s p → a_outerNeighbour p = -1)
    (H : ∀ m q : Nat → Int32, (∀ p, cl_rc (cl_st a_blackAt) s p → m p = k) → (∀ p, ¬ cl_rc (cl_st a_blackAt) s p → m p = a_outerNeighbour p) → post (f_width, f_height, f_componentCount, f_regionCount, a_blackAt, a_componentStart, a_regionStart, a_partNumber, a_depthAt, m, q, a_alone, a_reached)) :
    ∀ (n t Q : Nat) (m q : Nat → Int32), t ≤ 196 → 196 < n + t → cl_B a_blackAt a_outerNeighbour s k Q t m q → wX_markPart__blackAt_outerNeighbour_18 post k f_width f_height f_componentCount f_regionCount n (nI Q) (nI t) a_blackAt a_componentStart a_regionStart a_partNumber a_depthAt m q a_alone a_reached := by
  intro n
  induction n with
  | zero => intro t Q m q h1 h2; omega
  | succ n ih =>
    intro t Q m q h1 h2 hB
    have hQ := cl_B_Q hB
    refine pk_le Q t (fun h => ?_) (fun h => ?_)
    · obtain ⟨a, c⟩ := cl_B_x hB h
      exact H m q a c
    · refine br_f (nI_ge (b := 196) (by omega) (by decide)) ⟨vp_in_nI (by omega) (by decide), ?_⟩
      obtain ⟨p, hp, hq, B1, B0⟩ := cl_B_e hs hB h
      rw [nI_clamp (by omega)]
      refine nm_r hq ⟨vp_in_nI hp (by decide), ?_⟩
      have cp : (nI p).toNatClampNeg = p := nI_clamp (Nat.lt_trans hp (by decide))
      have nx : ∀ Q m q, cl_B a_blackAt a_outerNeighbour s k Q (t + 1) m q → wX_markPart__blackAt_outerNeighbour_18 post k f_width f_height f_componentCount f_regionCount n (nI Q) (nI (t + 1)) a_blackAt a_componentStart a_regionStart a_partNumber a_depthAt m q a_alone a_reached := fun Q m q hB => ih (t + 1) Q m q (by omega) (by omega) hB
      rw [cp]
      by_cases hb : a_blackAt p = 0
      · refine br_t hb ?_
        unfold wX_markPart__blackAt_outerNeighbour_54
        rw [cp]
        exact ⟨vp_in_nI hp (by decide), br_t hb ⟨10, xi_blackAt_outerNeighbour (sd := 2) hs hp hk hm nx 10 1 Q m q (by decide) (by decide) (Or.inr ⟨rfl, hb, rfl⟩) (B0 hb)⟩⟩
      · refine br_f hb ?_
        unfold wX_markPart__blackAt_outerNeighbour_54
        rw [cp]
        exact ⟨vp_in_nI hp (by decide), br_f hb ⟨10, xi_blackAt_outerNeighbour (sd := 1) hs hp hk hm nx 10 0 Q m q (by decide) (by decide) (Or.inl ⟨rfl, hb⟩) (B1 hb)⟩⟩
theorem xm_blackAt_outerNeighbour {post : SX → Prop} {k : Int32} {s : Nat} {f_width f_height f_componentCount f_regionCount : Int32} {a_blackAt a_componentStart a_regionStart a_partNumber a_depthAt a_outerNeighbour a_queue a_alone a_reached : Nat → Int32} (hs : s < 196) (hk : k ≠ -1) (hm : ∀ p, cl_rc (cl_st a_blackAt) s p → a_outerNeighbour p = -1)
    (H : ∀ m q : Nat → Int32, (∀ p, cl_rc (cl_st a_blackAt) s p → m p = k) → (∀ p, ¬ cl_rc (cl_st a_blackAt) s p → m p = a_outerNeighbour p) → post (f_width, f_height, f_componentCount, f_regionCount, a_blackAt, a_componentStart, a_regionStart, a_partNumber, a_depthAt, m, q, a_alone, a_reached)) :
    wpX_markPart__blackAt_outerNeighbour post (f_width, f_height, f_componentCount, f_regionCount, a_blackAt, a_componentStart, a_regionStart, a_partNumber, a_depthAt, a_outerNeighbour, a_queue, a_alone, a_reached) (nI s) k := by
  refine ⟨vp_in_nI hs (by decide), ?_⟩
  rw [nI_clamp (Nat.lt_trans hs (by decide))]
  exact nm_e (nm_e ⟨197, xo_blackAt_outerNeighbour hs hk hm H 197 0 1 _ _ (by decide) (by decide) (cl_B_0 hs)⟩)
theorem xi_alone_reached {post : SX → Prop} {J18 : Int32 → Int32 → (Nat → Int32) → (Nat → Int32) → (Nat → Int32) → (Nat → Int32) → (Nat → Int32) → (Nat → Int32) → (Nat → Int32) → (Nat → Int32) → (Nat → Int32) → Prop} {k : Int32} {s t p sd : Nat} {f_width f_height f_componentCount f_regionCount : Int32} {a_blackAt a_componentStart a_regionStart a_partNumber a_depthAt a_outerNeighbour a_alone a_reached : Nat → Int32} (hs : s < 196) (hp : p < 196) (hk : k ≠ -1) (hm : ∀ p, cl_rc (cl_st a_alone) s p → a_reached p = -1)
    (J : ∀ Q m q, cl_B a_alone a_reached s k Q (t + 1) m q → J18 (nI Q) (nI (t + 1)) a_blackAt a_componentStart a_regionStart a_partNumber a_depthAt a_outerNeighbour q a_alone m) :
    ∀ (n w Q : Nat) (m q : Nat → Int32), w ≤ 9 → 9 < n + w → (sd = 1 ∧ a_alone p ≠ 0) ∨ (sd = 2 ∧ a_alone p = 0 ∧ w % 2 = 1) → cl_Bi a_alone a_reached s k Q t m q p w → wX_markPart__alone_reached_74 post J18 k (nI t) (nI p) (nI sd) f_width f_height f_componentCount f_regionCount n (nI Q) (nI w) a_blackAt a_componentStart a_regionStart a_partNumber a_depthAt a_outerNeighbour q a_alone m := by
  intro n
  induction n with
  | zero => intro w Q m q h1 h2; omega
  | succ n ih =>
    intro w Q m q h1 h2 hsd hB
    have hQ := cl_Bi_Q hB
    by_cases h9 : w = 9
    · subst h9
      exact br_t (nI_le (a := 9) (b := 9) (by decide) (by decide)) (nm_r (nI_1 t) (J Q m q (cl_B_lv hB)))
    · have hw : w < 9 := by omega
      have cp : (nI p).toNatClampNeg = p := nI_clamp (Nat.lt_trans hp (by decide))
      have hw' : ∀ d, d < w + sd → (a_alone p ≠ 0 ∨ d % 2 = 1) → d < w ∨ d = w := fun d hd o => by
        rcases hsd with ⟨e, _⟩ | ⟨e, z, y⟩
        · omega
        · have := o.resolve_left (fun n => n z)
          omega
      have ow : a_alone p ≠ 0 ∨ w % 2 = 1 := hsd.elim (fun z => Or.inl z.2) (fun z => Or.inr z.2.2)
      have hsd' : (sd = 1 ∧ a_alone p ≠ 0) ∨ (sd = 2 ∧ a_alone p = 0 ∧ (w + sd) % 2 = 1) := by
        rcases hsd with z | ⟨e, z, y⟩
        · exact Or.inl z
        · exact Or.inr ⟨e, z, by omega⟩
      have hl : w + sd ≤ 9 := by
        rcases hsd with ⟨e, _⟩ | ⟨e, _, y⟩ <;> omega
      have hf : 9 < n + (w + sd) := by
        rcases hsd with ⟨e, _⟩ | ⟨e, _, y⟩ <;> omega
      have go : (∀ v, cl_to p w v → m v = -1 → a_alone v = a_alone p → False) → wX_markPart__alone_reached_74 post J18 k (nI t) (nI p) (nI sd) f_width f_height f_componentCount f_regionCount n (nI Q) (nI (w + sd)) a_blackAt a_componentStart a_regionStart a_partNumber a_depthAt a_outerNeighbour q a_alone m := fun hn =>
        ih (w + sd) Q m q hl hf hsd' (cl_B_sk hs hw hm hB hw' hn)
      refine br_f (nI_ge (b := 9) hw (by decide)) (cl_ptw hp hw (fun v tv => ?_) (fun hn => ?_))
      · have cv : (nI v).toNatClampNeg = v := nI_clamp (Nat.lt_trans tv.1 (by decide))
        have iv : vp_in (nI v) 196 := vp_in_nI tv.1 (by decide)
        refine br_f (cl_nm1 (Nat.lt_trans tv.1 (by decide))) ⟨iv, ?_⟩
        rw [cv, cp]
        by_cases mv : m v = -1
        · refine br_t mv ⟨iv, vp_in_nI hp (by decide), ?_⟩
          by_cases bv : a_alone v = a_alone p
          · obtain ⟨hQ2, hB2⟩ := cl_B_ad hs hw hk hB hw' ow tv mv bv
            refine br_t bv (br_f (nI_ge (b := 196) hQ2 (by decide)) ⟨iv, nm_e ⟨vp_in_nI hQ2 (by decide), ?_⟩⟩)
            rw [nI_clamp (Nat.lt_trans hQ2 (by decide))]
            exact nm_e (nm_r (nI_1 Q) (nm_r (nI_add w sd) (ih (w + sd) (Q + 1) (upd m v k) (upd q Q (nI v)) hl hf hsd' hB2)))
          · exact br_f bv (nm_r (nI_add w sd) (go fun v' tv' _ bv' => bv (cl_to_un tv' tv ▸ bv')))
        · exact br_f mv (nm_r (nI_add w sd) (go fun v' tv' mv' _ => mv (cl_to_un tv' tv ▸ mv')))
      · exact br_t rfl (nm_r (nI_add w sd) (go fun v tv _ _ => hn v tv))
theorem xo_alone_reached {post : SX → Prop} {k : Int32} {s : Nat} {f_width f_height f_componentCount f_regionCount : Int32} {a_blackAt a_componentStart a_regionStart a_partNumber a_depthAt a_outerNeighbour a_alone a_reached : Nat → Int32} (hs : s < 196) (hk : k ≠ -1) (hm : ∀ p, cl_rc (cl_st a_alone) s p → a_reached p = -1)
    (H : ∀ m q : Nat → Int32, (∀ p, cl_rc (cl_st a_alone) s p → m p = k) → (∀ p, ¬ cl_rc (cl_st a_alone) s p → m p = a_reached p) → post (f_width, f_height, f_componentCount, f_regionCount, a_blackAt, a_componentStart, a_regionStart, a_partNumber, a_depthAt, a_outerNeighbour, q, a_alone, m)) :
    ∀ (n t Q : Nat) (m q : Nat → Int32), t ≤ 196 → 196 < n + t → cl_B a_alone a_reached s k Q t m q → wX_markPart__alone_reached_18 post k f_width f_height f_componentCount f_regionCount n (nI Q) (nI t) a_blackAt a_componentStart a_regionStart a_partNumber a_depthAt a_outerNeighbour q a_alone m := by
  intro n
  induction n with
  | zero => intro t Q m q h1 h2; omega
  | succ n ih =>
    intro t Q m q h1 h2 hB
    have hQ := cl_B_Q hB
    refine pk_le Q t (fun h => ?_) (fun h => ?_)
    · obtain ⟨a, c⟩ := cl_B_x hB h
      exact H m q a c
    · refine br_f (nI_ge (b := 196) (by omega) (by decide)) ⟨vp_in_nI (by omega) (by decide), ?_⟩
      obtain ⟨p, hp, hq, B1, B0⟩ := cl_B_e hs hB h
      rw [nI_clamp (by omega)]
      refine nm_r hq ⟨vp_in_nI hp (by decide), ?_⟩
      have cp : (nI p).toNatClampNeg = p := nI_clamp (Nat.lt_trans hp (by decide))
      have nx : ∀ Q m q, cl_B a_alone a_reached s k Q (t + 1) m q → wX_markPart__alone_reached_18 post k f_width f_height f_componentCount f_regionCount n (nI Q) (nI (t + 1)) a_blackAt a_componentStart a_regionStart a_partNumber a_depthAt a_outerNeighbour q a_alone m := fun Q m q hB => ih (t + 1) Q m q (by omega) (by omega) hB
      rw [cp]
      by_cases hb : a_alone p = 0
      · refine br_t hb ?_
        unfold wX_markPart__alone_reached_54
        rw [cp]
        exact ⟨vp_in_nI hp (by decide), br_t hb ⟨10, xi_alone_reached (sd := 2) hs hp hk hm nx 10 1 Q m q (by decide) (by decide) (Or.inr ⟨rfl, hb, rfl⟩) (B0 hb)⟩⟩
      · refine br_f hb ?_
        unfold wX_markPart__alone_reached_54
        rw [cp]
        exact ⟨vp_in_nI hp (by decide), br_f hb ⟨10, xi_alone_reached (sd := 1) hs hp hk hm nx 10 0 Q m q (by decide) (by decide) (Or.inl ⟨rfl, hb⟩) (B1 hb)⟩⟩
theorem xm_alone_reached {post : SX → Prop} {k : Int32} {s : Nat} {f_width f_height f_componentCount f_regionCount : Int32} {a_blackAt a_componentStart a_regionStart a_partNumber a_depthAt a_outerNeighbour a_queue a_alone a_reached : Nat → Int32} (hs : s < 196) (hk : k ≠ -1) (hm : ∀ p, cl_rc (cl_st a_alone) s p → a_reached p = -1)
    (H : ∀ m q : Nat → Int32, (∀ p, cl_rc (cl_st a_alone) s p → m p = k) → (∀ p, ¬ cl_rc (cl_st a_alone) s p → m p = a_reached p) → post (f_width, f_height, f_componentCount, f_regionCount, a_blackAt, a_componentStart, a_regionStart, a_partNumber, a_depthAt, a_outerNeighbour, q, a_alone, m)) :
    wpX_markPart__alone_reached post (f_width, f_height, f_componentCount, f_regionCount, a_blackAt, a_componentStart, a_regionStart, a_partNumber, a_depthAt, a_outerNeighbour, a_queue, a_alone, a_reached) (nI s) k := by
  refine ⟨vp_in_nI hs (by decide), ?_⟩
  rw [nI_clamp (Nat.lt_trans hs (by decide))]
  exact nm_e (nm_e ⟨197, xo_alone_reached hs hk hm H 197 0 1 _ _ (by decide) (by decide) (cl_B_0 hs)⟩)
end
section
/-! the survey: parts numbered, depths measured -/
def cl_fs (b : Nat → Int32) (c : Int32) (p : Nat) : Prop := b p = c ∧ cl_root b p = p
def cl_N (b : Nat → Int32) (i : Nat) (cc rn : Int32) (cs rs pn : Nat → Int32) : Prop :=
  cc = nI (cl_cnt (cl_fs b 1) i) ∧ rn = nI (cl_cnt (cl_fs b 0) i) ∧ (∀ r, r < i → cl_fs b 1 r → cs (cl_cnt (cl_fs b 1) r) = nI r) ∧ (∀ r, r < i → cl_fs b 0 r → rs (cl_cnt (cl_fs b 0) r) = nI r) ∧
  (∀ p, p < 196 → cl_root b p < i → pn p = nI (cl_cnt (cl_fs b (b p)) (cl_root b p))) ∧ (∀ p, p < 196 → i ≤ cl_root b p → pn p = -1)
theorem cl_c196 (P : Nat → Prop) {i : Nat} (h : i ≤ 196) : cl_cnt P i < 2 ^ 31 := Nat.lt_of_le_of_lt (Nat.le_trans (cl_cnt_le P i) h) (by decide)
theorem cl_01 : (0 : Int32) ≠ 1 := by decide
theorem cl_10 : (1 : Int32) ≠ 0 := by decide
theorem cl_N_sk {b : Nat → Int32} {i : Nat} {cc rn : Int32} {cs rs pn : Nat → Int32} (hi : i < 196) (h : cl_N b i cc rn cs rs pn) (hp : ¬ pn i = -1) : cl_N b (i + 1) cc rn cs rs pn := by
  obtain ⟨h1, h2, h3, h4, h5, h6⟩ := h
  have nr : ¬ i ≤ cl_root b i := fun z => hp (h6 i hi z)
  have nf : ∀ c, ¬ cl_fs b c i := fun c z => nr (by rw [z.2]; exact Nat.le_refl i)
  have ni : ∀ p, cl_root b p ≠ i := fun p z => nr (by
    have := cl_root_i b p
    rw [z] at this
    omega)
  refine ⟨by rw [cl_cnt_f (nf 1)]; exact h1, by rw [cl_cnt_f (nf 0)]; exact h2, fun r hr f => ?_, fun r hr f => ?_, fun p hp' hr => ?_, fun p hp' hr => h6 p hp' (by omega)⟩
  · by_cases e : r = i
    · subst e; exact absurd f (nf 1)
    · exact h3 r (by omega) f
  · by_cases e : r = i
    · subst e; exact absurd f (nf 0)
    · exact h4 r (by omega) f
  · have := ni p
    exact h5 p hp' (by omega)
theorem cl_N_rt {b : Nat → Int32} {i : Nat} {cc rn : Int32} {cs rs pn : Nat → Int32} (hi : i < 196) (h : cl_N b i cc rn cs rs pn) (hp : pn i = -1) : cl_root b i = i ∧ ∀ p, cl_rc (cl_st b) i p → pn p = -1 := by
  obtain ⟨h1, h2, h3, h4, h5, h6⟩ := h
  have a : cl_root b i = i := by
    have := cl_root_self b i
    by_cases z : cl_root b i < i
    · have e := h5 i hi z
      rw [hp] at e
      exact absurd e.symm (cl_nm1 (cl_c196 _ (Nat.le_of_lt (cl_root_lt hi))))
    · omega
  exact ⟨a, fun p r => h6 p (cl_pt_lt hi r) (by rw [← cl_root_eq r, a]; exact Nat.le_refl i)⟩
theorem cl_N_pn {b : Nat → Int32} {i : Nat} {cc rn : Int32} {cs rs pn m : Nat → Int32} {k : Int32} (hi : i < 196) (h : cl_N b i cc rn cs rs pn) (a : cl_root b i = i) (hk : k = nI (cl_cnt (cl_fs b (b i)) i)) (m1 : ∀ p, cl_rc (cl_st b) i p → m p = k) (m2 : ∀ p, ¬ cl_rc (cl_st b) i p → m p = pn p) :
    (∀ p, p < 196 → cl_root b p < i + 1 → m p = nI (cl_cnt (cl_fs b (b p)) (cl_root b p))) ∧ (∀ p, p < 196 → i + 1 ≤ cl_root b p → m p = -1) := by
  obtain ⟨h1, h2, h3, h4, h5, h6⟩ := h
  constructor
  · intro p hp hr
    by_cases e : cl_root b p = i
    · have r := cl_root_pt (a.trans e.symm)
      rw [m1 p r, hk, ← cl_pt_c r, e]
    · rw [m2 p (fun z => e ((cl_root_eq z).symm.trans a))]
      exact h5 p hp (by omega)
  · intro p hp hr
    rw [m2 p (fun z => by
      have := (cl_root_eq z).symm.trans a
      omega)]
    exact h6 p hp (by omega)
theorem cl_N_b {b : Nat → Int32} {i : Nat} {cc rn : Int32} {cs rs pn m : Nat → Int32} (hi : i < 196) (h : cl_N b i cc rn cs rs pn) (a : cl_root b i = i) (hb : b i = 1) (m1 : ∀ p, cl_rc (cl_st b) i p → m p = nI (cl_cnt (cl_fs b 1) i)) (m2 : ∀ p, ¬ cl_rc (cl_st b) i p → m p = pn p) : cl_N b (i + 1) (nI (cl_cnt (cl_fs b 1) i + 1)) rn (upd cs (cl_cnt (cl_fs b 1) i) (nI i)) rs m := by
  have k := cl_N_pn hi h a (by rw [hb]) m1 m2
  obtain ⟨h1, h2, h3, h4, h5, h6⟩ := h
  have f1 : cl_fs b 1 i := ⟨hb, a⟩
  have f0 : ¬ cl_fs b 0 i := fun z => cl_01 (z.1.symm.trans hb)
  refine ⟨by rw [cl_cnt_t f1], by rw [cl_cnt_f f0]; exact h2, fun r hr f => ?_, fun r hr f => ?_, k.1, k.2⟩
  · by_cases e : r = i
    · subst e; exact pk_us
    · have := cl_cnt_lt (m := r) (n := i) (by omega) f
      rw [pk_un (by omega)]
      exact h3 r (by omega) f
  · by_cases e : r = i
    · subst e; exact absurd f f0
    · exact h4 r (by omega) f
theorem cl_N_w {b : Nat → Int32} {i : Nat} {cc rn : Int32} {cs rs pn m : Nat → Int32} (hi : i < 196) (h : cl_N b i cc rn cs rs pn) (a : cl_root b i = i) (hb : b i = 0) (m1 : ∀ p, cl_rc (cl_st b) i p → m p = nI (cl_cnt (cl_fs b 0) i)) (m2 : ∀ p, ¬ cl_rc (cl_st b) i p → m p = pn p) : cl_N b (i + 1) cc (nI (cl_cnt (cl_fs b 0) i + 1)) cs (upd rs (cl_cnt (cl_fs b 0) i) (nI i)) m := by
  have k := cl_N_pn hi h a (by rw [hb]) m1 m2
  obtain ⟨h1, h2, h3, h4, h5, h6⟩ := h
  have f0 : cl_fs b 0 i := ⟨hb, a⟩
  have f1 : ¬ cl_fs b 1 i := fun z => cl_10 (z.1.symm.trans hb)
  refine ⟨by rw [cl_cnt_f f1]; exact h1, by rw [cl_cnt_t f0], fun r hr f => ?_, fun r hr f => ?_, k.1, k.2⟩
  · by_cases e : r = i
    · subst e; exact absurd f f1
    · exact h3 r (by omega) f
  · by_cases e : r = i
    · subst e; exact pk_us
    · have := cl_cnt_lt (m := r) (n := i) (by omega) f
      rw [pk_un (by omega)]
      exact h4 r (by omega) f
theorem xn_loop {post : SX → Prop} {f_width f_height : Int32} {b da on al re : Nat → Int32} (ok : cl_ok b)
    (H : ∀ (cc rn : Int32) (cs rs pn q : Nat → Int32), cl_N b 196 cc rn cs rs pn → post (f_width, f_height, cc, rn, b, cs, rs, pn, da, on, q, al, re)) :
    ∀ (n i : Nat) (cc rn : Int32) (cs rs pn q : Nat → Int32), i ≤ 196 → 196 < n + i → cl_N b i cc rn cs rs pn → wX_numberParts_19 post n (nI i) f_width f_height cc rn b cs rs pn da on q al re := by
  intro n
  induction n with
  | zero => intro i cc rn cs rs pn q h1 h2; omega
  | succ n ih =>
    intro i cc rn cs rs pn q h1 h2 hN
    by_cases h9 : i = 196
    · subst h9
      exact br_t (nI_le (a := 196) (b := 196) (by decide) (by decide)) (H cc rn cs rs pn q hN)
    · have hi : i < 196 := by omega
      have ci : (nI i).toNatClampNeg = i := nI_clamp (by omega)
      have vi : vp_in (nI i) 196 := vp_in_nI hi (by decide)
      refine br_f (nI_ge (b := 196) hi (by decide)) ⟨vi, ?_⟩
      rw [ci]
      by_cases hp : pn i = -1
      · obtain ⟨a, hm⟩ := cl_N_rt hi hN hp
        refine br_t hp ⟨vi, ?_⟩
        have e1 := hN.1
        have e2 := hN.2.1
        have l1 : cl_cnt (cl_fs b 1) i < 196 := Nat.lt_of_le_of_lt (cl_cnt_le _ i) hi
        have l0 : cl_cnt (cl_fs b 0) i < 196 := Nat.lt_of_le_of_lt (cl_cnt_le _ i) hi
        by_cases hb : b i = 0
        · refine br_t hb ⟨by rw [e2]; exact vp_in_nI l0 (by decide), ?_⟩
          rw [e2, nI_clamp (Nat.lt_trans l0 (by decide))]
          exact nm_e (xm_blackAt_partNumber hi (cl_nm1 (Nat.lt_trans l0 (by decide))) hm (fun m q' m1 m2 => nm_r (nI_1 _) (nm_r (nI_1 i) (ih (i + 1) _ _ _ _ _ _ (by omega) (by omega) (cl_N_w hi hN a hb m1 m2)))))
        · refine br_f hb ⟨by rw [e1]; exact vp_in_nI l1 (by decide), ?_⟩
          rw [e1, nI_clamp (Nat.lt_trans l1 (by decide))]
          exact nm_e (xm_blackAt_partNumber hi (cl_nm1 (Nat.lt_trans l1 (by decide))) hm (fun m q' m1 m2 => nm_r (nI_1 _) (nm_r (nI_1 i) (ih (i + 1) _ _ _ _ _ _ (by omega) (by omega) (cl_N_b hi hN a ((ok.1 i).resolve_left hb) m1 m2)))))
      · exact br_f hp (nm_r (nI_1 i) (ih (i + 1) cc rn cs rs pn q (by omega) (by omega) (cl_N_sk hi hN hp)))
theorem xn_parts {post : SX → Prop} {f_width f_height cc0 rn0 : Int32} {b cs0 rs0 pn0 da on q0 al re : Nat → Int32} (ok : cl_ok b)
    (H : ∀ (cc rn : Int32) (cs rs pn q : Nat → Int32), cl_N b 196 cc rn cs rs pn → post (f_width, f_height, cc, rn, b, cs, rs, pn, da, on, q, al, re)) :
    wpX_numberParts post (f_width, f_height, cc0, rn0, b, cs0, rs0, pn0, da, on, q0, al, re) := by
  unfold wpX_numberParts
  refine xu_partNumber (fun m hm => ⟨197, ?_⟩)
  exact xn_loop ok H 197 0 0 0 cs0 rs0 m q0 (by decide) (by decide) ⟨rfl, rfl, fun r hr => absurd hr (Nat.not_lt_zero r), fun r hr => absurd hr (Nat.not_lt_zero r), fun p _ hr => absurd hr (Nat.not_lt_zero _), fun p hp _ => hm p hp⟩
/-! depths -/
theorem xb_loop {post : Int32 → Prop} {p : Nat} {w : Int32} {f_width f_height cc rn : Int32} {b cs rs pn da on q al re : Nat → Int32} (hp : p < 196) (hy : ∀ v, v < 196 → gp_bs p v → da v = w → post (nI v)) (hn : (∀ v, v < 196 → gp_bs p v → da v ≠ w) → post (-1)) :
    ∀ (n d : Nat), d ≤ 9 → d % 2 = 1 → 9 < n + d → (∀ e, e < d → e % 2 = 1 → ∀ v, cl_to p e v → da v ≠ w) → wX_besideOfDepth_2 post (nI p) w f_width f_height cc rn b cs rs pn da on q al re n (nI d) := by
  intro n
  induction n with
  | zero => intro d h1 _ h2; omega
  | succ n ih =>
    intro d h1 ho h2 hI
    by_cases h9 : d = 9
    · subst h9
      exact br_t (nI_le (a := 9) (b := 9) (by decide) (by decide)) (hn fun v hv bv => by
        obtain ⟨e, he, oe, te⟩ := cl_bs_to hp hv bv
        exact hI e he oe v te)
    · have hd : d < 9 := by omega
      have go : (∀ v, cl_to p d v → da v ≠ w) → wX_besideOfDepth_2 post (nI p) w f_width f_height cc rn b cs rs pn da on q al re n (nI (d + 2)) := fun h => ih (d + 2) (by omega) (by omega) (by omega) (fun e he oe v te => by
        by_cases ed : e = d
        · subst ed; exact h v te
        · exact hI e (by omega) oe v te)
      refine br_f (nI_ge (b := 9) hd (by decide)) (cl_ptw hp hd (fun v tv => ?_) (fun hn' => ?_))
      · refine br_f (cl_nm1 (Nat.lt_trans tv.1 (by decide))) ⟨vp_in_nI tv.1 (by decide), ?_⟩
        rw [nI_clamp (Nat.lt_trans tv.1 (by decide))]
        by_cases e : da v = w
        · exact br_t e (hy v tv.1 (cl_to_bs hp hd ho tv) e)
        · exact br_f e (nm_r (nI_add d 2) (go fun v' tv' => cl_to_un tv' tv ▸ e))
      · exact br_t rfl (nm_r (nI_add d 2) (go fun v tv => absurd tv (hn' v)))
theorem xb_beside {post : Int32 → Prop} {p : Nat} {w : Int32} {f_width f_height cc rn : Int32} {b cs rs pn da on q al re : Nat → Int32} (hp : p < 196) (hy : ∀ v, v < 196 → gp_bs p v → da v = w → post (nI v)) (hn : (∀ v, v < 196 → gp_bs p v → da v ≠ w) → post (-1)) : wpX_besideOfDepth post (f_width, f_height, cc, rn, b, cs, rs, pn, da, on, q, al, re) (nI p) w :=
  ⟨10, xb_loop hp hy hn 10 1 (by decide) (by decide) (by decide) (fun e he oe => by omega)⟩
def cl_o (b : Nat → Int32) (on : Nat → Int32) (p : Nat) : Prop := ∃ o, o < 196 ∧ on p = nI o ∧ (cl_dep b p ≠ 0 → cl_dep b o + 1 = cl_dep b p ∧ ∃ p', p' < 196 ∧ cl_root b p = cl_root b p' ∧ gp_bs p' o)
def cl_D (b : Nat → Int32) (L i : Nat) (da on : Nat → Int32) : Prop :=
  (∀ p, p < 196 → cl_dep b p < L → da p = nI (cl_dep b p)) ∧ (∀ p, p < 196 → L < cl_dep b p → da p = -1) ∧ (∀ p, p < 196 → cl_dep b p = L → da p = nI L ∨ da p = -1) ∧
  (∀ p q, p < 196 → q < 196 → cl_root b p = cl_root b q → da p = -1 → da q = -1) ∧ (∀ p, p < i → cl_dep b p = L → (∃ q, q < 196 ∧ gp_bs p q ∧ cl_dep b q + 1 = L) → da p = nI L) ∧
  (∀ p, p < 196 → da p = -1 → on p = -1) ∧ (∀ p, p < 196 → da p ≠ -1 → cl_o b on p)
theorem cl_D_up {b : Nat → Int32} {L : Nat} {da on : Nat → Int32} (ok : cl_ok b) (hL : 1 ≤ L) (hL2 : L ≤ 14) (h : cl_D b L 196 da on) : cl_D b (L + 1) 0 da on := by
  obtain ⟨d1, d2, d3, d4, d5, o1, o2⟩ := h
  refine ⟨fun p hp hd => ?_, fun p hp hd => d2 p hp (by omega), fun p hp hd => Or.inr (d2 p hp (by omega)), d4, fun p hp => absurd hp (Nat.not_lt_zero p), o1, o2⟩
  by_cases e : cl_dep b p = L
  · rcases cl_dep_d ok hp with ⟨z, _⟩ | ⟨p', q, hp', hq, r, bq, dq⟩
    · omega
    · have dp := cl_dep_rt ok r
      have k := d5 p' hp' (by omega) ⟨q, hq, bq, by omega⟩
      rw [e]
      refine (d3 p hp e).resolve_right fun z => ?_
      have := d4 p p' hp hp' r z
      rw [k] at this
      exact cl_nm1 (by omega) this
  · exact d1 p hp (by omega)
theorem cl_D_sk {b : Nat → Int32} {L i : Nat} {da on : Nat → Int32} (hi : i < 196) (h : cl_D b L i da on) (k : cl_dep b i = L → (∃ q, q < 196 ∧ gp_bs i q ∧ cl_dep b q + 1 = L) → da i = nI L) : cl_D b L (i + 1) da on := by
  obtain ⟨d1, d2, d3, d4, d5, o1, o2⟩ := h
  refine ⟨d1, d2, d3, d4, fun p hp hd hq => ?_, o1, o2⟩
  by_cases e : p = i
  · subst e; exact k hd hq
  · exact d5 p (by omega) hd hq
theorem cl_D_ad {b : Nat → Int32} {L i v : Nat} {da on da' on' : Nat → Int32} (ok : cl_ok b) (hL : L ≤ 14) (hi : i < 196) (hv : v < 196) (h : cl_D b L i da on) (di : cl_dep b i = L) (bv : gp_bs i v) (dv : cl_dep b v + 1 = L)
    (m1 : ∀ p, cl_rc (cl_st b) i p → da' p = nI L) (m2 : ∀ p, ¬ cl_rc (cl_st b) i p → da' p = da p) (n1 : ∀ p, cl_rc (cl_st b) i p → on' p = nI v) (n2 : ∀ p, ¬ cl_rc (cl_st b) i p → on' p = on p) : cl_D b L (i + 1) da' on' := by
  obtain ⟨d1, d2, d3, d4, d5, o1, o2⟩ := h
  have nL : ¬ nI L = -1 := cl_nm1 (by omega)
  have dr : ∀ p, cl_rc (cl_st b) i p → cl_dep b p = L := fun p r => (cl_dep_p ok r).symm.trans di
  have un : ∀ p, da' p = -1 → ¬ cl_rc (cl_st b) i p := fun p e r => nL ((m1 p r).symm.trans e)
  refine ⟨fun p hp hd => ?_, fun p hp hd => ?_, fun p hp hd => ?_, fun p q hp hq r e => ?_, fun p hp hd hq => ?_, fun p hp e => ?_, fun p hp e => ?_⟩
  · rw [m2 p (fun r => by have := dr p r; omega)]
    exact d1 p hp hd
  · rw [m2 p (fun r => by have := dr p r; omega)]
    exact d2 p hp hd
  · by_cases r : cl_rc (cl_st b) i p
    · exact Or.inl (m1 p r)
    · rw [m2 p r]; exact d3 p hp hd
  · have np := un p e
    have nq : ¬ cl_rc (cl_st b) i q := fun z => np (cl_rc_t z (cl_root_pt r.symm))
    rw [m2 p np] at e
    rw [m2 q nq]
    exact d4 p q hp hq r e
  · by_cases r : cl_rc (cl_st b) i p
    · exact m1 p r
    · rw [m2 p r]
      refine d5 p ?_ hd hq
      by_cases e : p = i
      · subst e; exact absurd (cl_rc_r _ p) r
      · omega
  · have np := un p e
    rw [m2 p np] at e
    rw [n2 p np]
    exact o1 p hp e
  · by_cases r : cl_rc (cl_st b) i p
    · exact ⟨v, hv, n1 p r, fun _ => ⟨by rw [dr p r]; exact dv, i, hi, (cl_root_eq r).symm, bv⟩⟩
    · rw [m2 p r] at e
      obtain ⟨o, ho, eo, k⟩ := o2 p hp e
      exact ⟨o, ho, (n2 p r).trans eo, k⟩
theorem xd_in {post : SX → Prop} {J44 : Int32 → Int32 → Int32 → Int32 → Int32 → (Nat → Int32) → (Nat → Int32) → (Nat → Int32) → (Nat → Int32) → (Nat → Int32) → (Nat → Int32) → (Nat → Int32) → (Nat → Int32) → (Nat → Int32) → Prop} {L : Nat} {f_width f_height cc rn : Int32} {b cs rs pn al re : Nat → Int32} (ok : cl_ok b) (hL : 1 ≤ L) (hL2 : L < 14)
    (J : ∀ da on q, cl_D b (L + 1) 0 da on → J44 (nI (L + 1)) f_width f_height cc rn b cs rs pn da on q al re) :
    ∀ (n i : Nat) (da on q : Nat → Int32), i ≤ 196 → 196 < n + i → cl_D b L i da on → wX_measureDepths_52 post J44 (nI L) n (nI i) f_width f_height cc rn b cs rs pn da on q al re := by
  intro n
  induction n with
  | zero => intro i da on q h1 h2; omega
  | succ n ih =>
    intro i da on q h1 h2 hD
    by_cases h9 : i = 196
    · subst h9
      exact br_t (nI_le (a := 196) (b := 196) (by decide) (by decide)) (nm_r (nI_1 L) (J da on q (cl_D_up ok hL (by omega) hD)))
    · have hi : i < 196 := by omega
      have nL : ¬ nI L = -1 := cl_nm1 (by omega)
      refine br_f (nI_ge (b := 196) hi (by decide)) ⟨vp_in_nI hi (by decide), ?_⟩
      rw [nI_clamp (by omega)]
      by_cases hp : da i = -1
      · have eL : nI L - 1 = nI (L - 1) := by
          obtain ⟨l, rfl⟩ : ∃ l, L = l + 1 := ⟨L - 1, by omega⟩
          exact nI_pred l
        have hge : L ≤ cl_dep b i := Nat.not_lt.mp fun z => by
          have := hD.1 i hi z
          rw [hp] at this
          exact cl_nm1 (by omega) this.symm
        refine br_t hp ?_
        rw [eL]
        refine xb_beside hi (fun v hv bv ev => ?_) (fun hn => ?_)
        · have dv : cl_dep b v + 1 = L := by
            rcases Nat.lt_trichotomy (cl_dep b v) L with z | z | z
            · have := hD.1 v hv z
              rw [ev] at this
              have := (nI_eq (by omega) (by omega)).mp this
              omega
            · rcases hD.2.2.1 v hv z with k | k
              · rw [ev] at k
                have := (nI_eq (by omega) (by omega)).mp k
                omega
              · rw [ev] at k
                exact absurd k (cl_nm1 (by omega))
            · have := hD.2.1 v hv z
              rw [ev] at this
              exact absurd this (cl_nm1 (by omega))
          have di : cl_dep b i = L := by
            have := cl_dep_b ok hv hi (gp_bs_y bv)
            omega
          have hm : ∀ p, cl_rc (cl_st b) i p → da p = -1 := fun p r => hD.2.2.2.1 i p hi (cl_pt_lt hi r) (cl_root_eq r) hp
          refine br_f (cl_nm1 (Nat.lt_trans hv (by decide))) (xm_blackAt_depthAt hi nL hm (fun da' q' m1 m2 => ?_))
          refine xm_blackAt_outerNeighbour hi (cl_nm1 (Nat.lt_trans hv (by decide))) (fun p r => hD.2.2.2.2.2.1 p (cl_pt_lt hi r) (hm p r)) (fun on' q'' n1 n2 => ?_)
          exact nm_r (nI_1 i) (ih (i + 1) da' on' q'' (by omega) (by omega) (cl_D_ad ok (by omega) hi hv hD di bv dv m1 m2 n1 n2))
        · refine br_t rfl (nm_r (nI_1 i) (ih (i + 1) da on q (by omega) (by omega) (cl_D_sk hi hD (fun _ hq => ?_))))
          obtain ⟨v, hv, bv, dv⟩ := hq
          have := hD.1 v hv (by omega)
          exact absurd (this.trans (congrArg nI (by omega))) (hn v hv bv)
      · exact br_f hp (nm_r (nI_1 i) (ih (i + 1) da on q (by omega) (by omega) (cl_D_sk hi hD (fun e _ => (hD.2.2.1 i hi e).resolve_right hp))))
theorem xd_out {post : SX → Prop} {f_width f_height cc rn : Int32} {b cs rs pn al re : Nat → Int32} (ok : cl_ok b)
    (H : ∀ da on q : Nat → Int32, (∀ p, p < 196 → da p = nI (cl_dep b p)) → (∀ p, p < 196 → cl_o b on p) → post (f_width, f_height, cc, rn, b, cs, rs, pn, da, on, q, al, re)) :
    ∀ (n L : Nat) (da on q : Nat → Int32), 1 ≤ L → L ≤ 14 → 14 < n + L → cl_D b L 0 da on → wX_measureDepths_44 post n (nI L) f_width f_height cc rn b cs rs pn da on q al re := by
  intro n
  induction n with
  | zero => intro L da on q _ h1 h2; omega
  | succ n ih =>
    intro L da on q h0 h1 h2 hD
    by_cases h9 : L = 14
    · subst h9
      have ha : ∀ p, p < 196 → da p = nI (cl_dep b p) := fun p hp => hD.1 p hp (by have := cl_dep_13 ok hp; omega)
      exact br_t (nI_le (a := 14) (b := 14) (by decide) (by decide)) (H da on q ha (fun p hp => hD.2.2.2.2.2.2 p hp (by
        rw [ha p hp]
        exact cl_nm1 (by have := cl_dep_13 ok hp; omega))))
    · refine br_f (nI_ge (b := 14) (by omega) (by decide)) ⟨197, xd_in ok h0 (by omega) (fun da on q hD' => ih (L + 1) da on q (by omega) (by omega) (by omega) hD') 197 0 da on q (by decide) (by decide) hD⟩
theorem xd_meas {post : SX → Prop} {f_width f_height cc rn : Int32} {b cs rs pn da0 on0 q0 al re : Nat → Int32} (ok : cl_ok b)
    (H : ∀ da on q : Nat → Int32, (∀ p, p < 196 → da p = nI (cl_dep b p)) → (∀ p, p < 196 → cl_o b on p) → post (f_width, f_height, cc, rn, b, cs, rs, pn, da, on, q, al, re)) :
    wpX_measureDepths post (f_width, f_height, cc, rn, b, cs, rs, pn, da0, on0, q0, al, re) := by
  unfold wpX_measureDepths
  refine xu_depthAt (fun da1 e1 => ?_)
  refine xu_outerNeighbour (fun on1 e2 => ?_)
  refine xm_blackAt_depthAt (s := 0) (k := nI 0) (by decide) (cl_nm1 (by decide)) (fun p r => e1 p (cl_pt_lt (by decide) r)) (fun da2 q2 m1 m2 => ?_)
  refine xm_blackAt_outerNeighbour (s := 0) (k := nI 0) (by decide) (cl_nm1 (by decide)) (fun p r => e2 p (cl_pt_lt (by decide) r)) (fun on2 q3 n1 n2 => ?_)
  have dr : ∀ p, cl_rc (cl_st b) 0 p → cl_dep b p = 0 := fun p r => (cl_dep_p ok r).symm.trans (cl_dep_0 b)
  have un : ∀ p, p < 196 → cl_dep b p ≠ 0 → da2 p = -1 := fun p hp z => (m2 p (fun r => z (dr p r))).trans (e1 p hp)
  have rd : ∀ p, p < 196 → cl_dep b p = 0 → cl_rc (cl_st b) 0 p := fun p hp z => by
    rcases cl_dep_d ok hp with ⟨_, r⟩ | ⟨_, _, _, _, _, _, d⟩
    · exact cl_root_pt r
    · omega
  have n0 : ¬ nI 0 = -1 := cl_nm1 (by decide)
  refine ⟨14, xd_out ok H 14 1 da2 on2 q3 (by decide) (by decide) (by decide) ⟨fun p hp hd => ?_, fun p hp hd => un p hp (by omega), fun p hp hd => Or.inr (un p hp (by omega)), fun p q hp hq r e => ?_, fun p hp => absurd hp (Nat.not_lt_zero p), fun p hp e => ?_, fun p hp e => ?_⟩⟩
  · have z : cl_dep b p = 0 := by omega
    rw [m1 p (rd p hp z), z]
  · refine un q hq fun z => ?_
    have z' : cl_dep b p = 0 := (cl_dep_rt ok r).trans z
    exact n0 ((m1 p (rd p hp z')).symm.trans e)
  · refine (n2 p (fun r => n0 ((m1 p r).symm.trans e))).trans (e2 p hp)
  · have z : cl_dep b p = 0 := Classical.byContradiction fun z => e (un p hp z)
    exact ⟨0, by decide, n1 p (rd p hp z), fun y => absurd z y⟩
def cl_X (b : Nat → Int32) (cc rn : Int32) (cs rs pn da on : Nat → Int32) : Prop := cl_N b 196 cc rn cs rs pn ∧ (∀ p, p < 196 → da p = nI (cl_dep b p)) ∧ (∀ p, p < 196 → cl_o b on p)
theorem xs_survey {post : SX → Prop} {f_width f_height cc0 rn0 : Int32} {b cs0 rs0 pn0 da0 on0 q0 al re : Nat → Int32} (ok : cl_ok b)
    (H : ∀ (cc rn : Int32) (cs rs pn da on q : Nat → Int32), cl_X b cc rn cs rs pn da on → post (f_width, f_height, cc, rn, b, cs, rs, pn, da, on, q, al, re)) :
    wpX_survey post (f_width, f_height, cc0, rn0, b, cs0, rs0, pn0, da0, on0, q0, al, re) := by
  unfold wpX_survey
  refine xn_parts ok (fun cc rn cs rs pn q hN => ?_)
  exact xd_meas ok (fun da on q' h1 h2 => H cc rn cs rs pn da on q' ⟨hN, h1, h2⟩)
end
section
/-! sweeps that lower values along edges, until nothing changes -/
def cl_S (K : Nat → Nat → Nat → Nat → Prop) (R : Nat → Nat → Prop) (g0 : Nat → Nat) (i d : Nat) (rt : Nat → Int32) (ch : Int32) : Prop :=
  ∃ g : Nat → Nat, (∀ p, p < 196 → rt p = nI (g p)) ∧ (∀ p, p < 196 → R p (g p)) ∧ (∀ p, p < 196 → g p ≤ g0 p) ∧ (∀ p, p < i → ∀ e, e < 9 → ∀ q c, K p e q c → g p ≤ g0 q + c) ∧ (∀ e, e < d → ∀ q c, K i e q c → g i ≤ g0 q + c) ∧ (ch = 0 → ∀ p, p < 196 → g p = g0 p) ∧ (ch = 0 ∨ ch = 1)
/-- what an edge rule and a value rule must keep -/
def cl_KR (K : Nat → Nat → Nat → Nat → Prop) (R : Nat → Nat → Prop) : Prop :=
  (∀ p n, R p n → n ≤ 500) ∧ (∀ i e q c, K i e q c → q < 196 ∧ c ≤ 1) ∧ (∀ i e q c q' c', K i e q c → K i e q' c' → q = q' ∧ c = c') ∧ (∀ i e q c n m, i < 196 → e < 9 → K i e q c → R q n → R i m → n + c < m → R i (n + c))
theorem cl_S_0 {K : Nat → Nat → Nat → Nat → Prop} {R : Nat → Nat → Prop} {g0 : Nat → Nat} {rt : Nat → Int32} (h : ∀ p, p < 196 → rt p = nI (g0 p)) (hr : ∀ p, p < 196 → R p (g0 p)) : cl_S K R g0 0 0 rt 0 :=
  ⟨g0, h, hr, fun _ _ => Nat.le_refl _, fun p hp => absurd hp (Nat.not_lt_zero p), fun e he => absurd he (Nat.not_lt_zero e), fun _ _ _ => rfl, Or.inl rfl⟩
theorem cl_S_nx {K : Nat → Nat → Nat → Nat → Prop} {R : Nat → Nat → Prop} {g0 : Nat → Nat} {i : Nat} {rt : Nat → Int32} {ch : Int32} (h : cl_S K R g0 i 9 rt ch) : cl_S K R g0 (i + 1) 0 rt ch := by
  obtain ⟨g, a1, a2, a3, a4, a5, a6, a7⟩ := h
  refine ⟨g, a1, a2, a3, fun p hp e he q c k => ?_, fun e he => absurd he (Nat.not_lt_zero e), a6, a7⟩
  by_cases z : p = i
  · subst z; exact a5 e he q c k
  · exact a4 p (by omega) e he q c k
theorem cl_S_s0 {K : Nat → Nat → Nat → Nat → Prop} {R : Nat → Nat → Prop} {g0 : Nat → Nat} {i d : Nat} {rt : Nat → Int32} {ch : Int32} (h : cl_S K R g0 i d rt ch) (n : ∀ q c, ¬ K i d q c) : cl_S K R g0 i (d + 1) rt ch := by
  obtain ⟨g, a1, a2, a3, a4, a5, a6, a7⟩ := h
  refine ⟨g, a1, a2, a3, a4, fun e he q c k => ?_, a6, a7⟩
  by_cases z : e = d
  · subst z; exact absurd k (n q c)
  · exact a5 e (by omega) q c k
theorem cl_S_s1 {K : Nat → Nat → Nat → Nat → Prop} {R : Nat → Nat → Prop} {g0 : Nat → Nat} {i d q c : Nat} {rt : Nat → Int32} {ch : Int32} (kr : cl_KR K R) (hi : i < 196) (h : cl_S K R g0 i d rt ch) (k : K i d q c) (le : rt i ≤ rt q + nI c) : cl_S K R g0 i (d + 1) rt ch := by
  obtain ⟨g, a1, a2, a3, a4, a5, a6, a7⟩ := h
  obtain ⟨hq, hc⟩ := kr.2.1 i d q c k
  have b1 := kr.1 _ _ (a2 i hi)
  have b2 := kr.1 _ _ (a2 q hq)
  rw [a1 i hi, a1 q hq, nI_add, nI_leI (by omega) (by omega)] at le
  refine ⟨g, a1, a2, a3, a4, fun e he q' c' k' => ?_, a6, a7⟩
  by_cases z : e = d
  · subst z
    obtain ⟨rfl, rfl⟩ := kr.2.2.1 _ _ _ _ _ _ k k'
    have := a3 q hq
    omega
  · exact a5 e (by omega) q' c' k'
theorem cl_S_up {K : Nat → Nat → Nat → Nat → Prop} {R : Nat → Nat → Prop} {g0 : Nat → Nat} {i d q c : Nat} {rt : Nat → Int32} {ch : Int32} (kr : cl_KR K R) (hi : i < 196) (hd : d < 9) (h : cl_S K R g0 i d rt ch) (k : K i d q c) (le : ¬ rt i ≤ rt q + nI c) : cl_S K R g0 i (d + 1) (upd rt i (rt q + nI c)) 1 := by
  obtain ⟨g, a1, a2, a3, a4, a5, a6, a7⟩ := h
  obtain ⟨hq, hc⟩ := kr.2.1 i d q c k
  have b1 := kr.1 _ _ (a2 i hi)
  have b2 := kr.1 _ _ (a2 q hq)
  rw [a1 i hi, a1 q hq, nI_add, nI_leI (by omega) (by omega)] at le
  have lt : g q + c < g i := by omega
  have us : (fun p => if p = i then g q + c else g p) i = g q + c := if_pos rfl
  have un : ∀ p, p ≠ i → (fun p => if p = i then g q + c else g p) p = g p := fun p h => if_neg h
  refine ⟨fun p => if p = i then g q + c else g p, fun p hp => ?_, fun p hp => ?_, fun p hp => ?_, fun p hp e he q' c' k' => ?_, fun e he q' c' k' => ?_, fun z => absurd z (by decide), Or.inr rfl⟩
  · by_cases z : p = i
    · subst z
      rw [pk_us, us, a1 q hq, nI_add]
    · rw [pk_un z, un p z]; exact a1 p hp
  · by_cases z : p = i
    · subst z
      rw [us]
      exact kr.2.2.2 p d q c _ _ hp hd k (a2 q hq) (a2 p hp) lt
    · rw [un p z]; exact a2 p hp
  · by_cases z : p = i
    · subst z
      rw [us]
      have := a3 p hp
      omega
    · rw [un p z]; exact a3 p hp
  · rw [un p (by omega)]
    exact a4 p hp e he q' c' k'
  · rw [us]
    by_cases z : e = d
    · subst z
      obtain ⟨rfl, rfl⟩ := kr.2.2.1 _ _ _ _ _ _ k k'
      have := a3 q hq
      omega
    · have := a5 e (by omega) q' c' k'
      omega
/-- the rounds: all settled, or changed and enough settled -/
def cl_G (R : Nat → Nat → Prop) (T : Nat → Nat) (r : Nat) (x : Int32) (rt : Nat → Int32) : Prop :=
  ∃ g : Nat → Nat, (∀ p, p < 196 → rt p = nI (g p)) ∧ (∀ p, p < 196 → R p (g p)) ∧ ((∀ p, p < 196 → g p = T p) ∨ (x ≠ 0 ∧ r < cl_cnt (fun p => p < 196 ∧ g p = T p) 196))
theorem cl_G_x {R : Nat → Nat → Prop} {T : Nat → Nat} {r : Nat} {x : Int32} {rt : Nat → Int32} (h : cl_G R T r x rt) (e : 197 ≤ r ∨ x = 0) : ∀ p, p < 196 → rt p = nI (T p) := by
  obtain ⟨g, a1, a2, a3⟩ := h
  intro p hp
  rcases a3 with z | ⟨z, y⟩
  · rw [a1 p hp, z p hp]
  · rcases e with e | e
    · have := cl_cnt_le (fun p => p < 196 ∧ g p = T p) 196
      omega
    · exact absurd e z
theorem cl_G_s {K : Nat → Nat → Nat → Nat → Prop} {R : Nat → Nat → Prop} {T : Nat → Nat} {r : Nat} {ch : Int32} {rt' : Nat → Int32} {g : Nat → Nat} (lo : ∀ p n, p < 196 → R p n → T p ≤ n) (kt : ∀ i e q c, K i e q c → q < 196)
    (gen : ∀ g : Nat → Nat, (∀ p, p < 196 → R p (g p)) → (∀ p e q c, p < 196 → e < 9 → K p e q c → g q = T q → T p = T q + c → g p = T p) → ∀ p, p < 196 → g p = T p)
    (a2 : ∀ p, p < 196 → R p (g p)) (a3 : (∀ p, p < 196 → g p = T p) ∨ r < cl_cnt (fun p => p < 196 ∧ g p = T p) 196) (h : cl_S K R g 196 0 rt' ch) : cl_G R T (r + 1) ch rt' := by
  obtain ⟨g', b1, b2, b3, b4, b5, b6, b7⟩ := h
  refine ⟨g', b1, b2, ?_⟩
  by_cases all : ∀ p, p < 196 → g p = T p
  · refine Or.inl fun p hp => ?_
    have := lo p _ hp (b2 p hp)
    have := b3 p hp
    have := all p hp
    omega
  · have y := a3.resolve_left all
    have gr := cl_grow (A := fun p => p < 196 ∧ g p = T p) (A' := fun p => p < 196 ∧ g' p = T p) (T := fun p q => ∃ e c, e < 9 ∧ K p e q c ∧ T p = T q + c)
      (fun p hp => ⟨hp.1, by
        have := lo p _ hp.1 (b2 p hp.1)
        have := b3 p hp.1
        have := hp.2
        omega⟩)
      (fun p q hp hq t => ⟨hp, by
        obtain ⟨e, c, he, k, tt⟩ := t
        have := lo p _ hp (b2 p hp)
        have := b4 p hp e he q c k
        have := hq.2
        omega⟩)
      (fun cl p hp => ⟨hp, gen g a2 (fun p e q c hp he k gq tt => (cl p q hp ⟨kt p e q c k, gq⟩ ⟨e, c, he, k, tt⟩).2) p hp⟩)
      (fun z => all fun p hp => (z p hp).2)
    refine Or.inr ⟨fun z => ?_, by omega⟩
    have e := cl_cnt_c (P := fun p => p < 196 ∧ g p = T p) (Q := fun p => p < 196 ∧ g' p = T p) (n := 196) (fun p hp => by
      have := b6 z p hp
      rw [this])
    omega
/-! roots -/
def cl_K1 (b : Nat → Int32) (i e q c : Nat) : Prop := cl_to i e q ∧ b i = b q ∧ (b i ≠ 0 ∨ e % 2 = 1) ∧ c = 0
def cl_R1 (b : Nat → Int32) (p n : Nat) : Prop := p < 196 ∧ n ≤ p ∧ cl_rc (cl_st b) p n
theorem cl_KR1 (b : Nat → Int32) : cl_KR (cl_K1 b) (cl_R1 b) := by
  refine ⟨fun p n h => ?_, fun i e q c h => ⟨h.1.1, by have := h.2.2.2; omega⟩, fun i e q c q' c' h k => ⟨cl_to_un h.1 k.1, h.2.2.2.trans k.2.2.2.symm⟩, fun i e q c n m hi he k r rm hn => ?_⟩
  · have := h.1
    have := h.2.1
    omega
  · have s := cl_to_st hi he k.2.2.1 k.1 k.2.1
    have c0 := k.2.2.2
    subst c0
    have := rm.2.1
    exact ⟨hi, by omega, cl_rc_t (cl_rc_1 s) r.2.2⟩
theorem cl_gen1 (b : Nat → Int32) (g : Nat → Nat) (hr : ∀ p, p < 196 → cl_R1 b p (g p)) (cl : ∀ p e q c, p < 196 → e < 9 → cl_K1 b p e q c → g q = cl_root b q → cl_root b p = cl_root b q + c → g p = cl_root b p) : ∀ p, p < 196 → g p = cl_root b p := by
  intro p hp
  have base : g (cl_root b p) = cl_root b (cl_root b p) := by
    have h := hr (cl_root b p) (cl_root_lt hp)
    have := cl_root_le h.2.2
    have := h.2.1
    have := cl_root_i b p
    omega
  refine cl_pt_y (cl_root_rc b p) (fun x => g x = cl_root b x) base (fun u v a e => ?_)
  obtain ⟨d, hd, o, t⟩ := cl_st_to (cl_st_y u v e)
  exact cl v d u 0 e.2.1 hd ⟨t, e.2.2.1.symm, o, rfl⟩ a (cl_root_s e).symm
/-! depths -/
def cl_K2 (b : Nat → Int32) (i e q c : Nat) : Prop := cl_to i e q ∧ ((b i = b q ∧ (b i ≠ 0 ∨ e % 2 = 1) ∧ c = 0) ∨ (b i ≠ b q ∧ e % 2 = 1 ∧ c = 1))
def cl_R2 (b : Nat → Int32) (p n : Nat) : Prop := n ≤ 500 ∧ (n = 500 ∨ cl_W b p n) ∧ (p = 0 → n = 0)
theorem cl_KR2 (b : Nat → Int32) : cl_KR (cl_K2 b) (cl_R2 b) := by
  refine ⟨fun p n h => h.1, fun i e q c h => ⟨h.1.1, ?_⟩, fun i e q c q' c' h k => ?_, fun i e q c n m hi he k r rm hn => ?_⟩
  · rcases h.2 with z | z
    · have := z.2.2; omega
    · have := z.2.2; omega
  · have eq := cl_to_un h.1 k.1
    subst eq
    refine ⟨rfl, ?_⟩
    rcases h.2 with z | z <;> rcases k.2 with y | y
    · exact z.2.2.trans y.2.2.symm
    · exact absurd z.1 y.1
    · exact absurd y.1 z.1
    · exact z.2.2.trans y.2.2.symm
  · have hm := rm.1
    refine ⟨by omega, Or.inr ?_, fun z => ?_⟩
    · have w : cl_W b q n := r.2.1.resolve_left (by omega)
      rcases k.2 with z | z
      · have c0 := z.2.2
        subst c0
        exact cl_W_s w (cl_st_y _ _ (cl_to_st hi he z.2.1 k.1 z.1))
      · have c1 := z.2.2
        subst c1
        exact cl_W_b w k.1.1 hi (gp_bs_y (cl_to_bs hi he z.2.1 k.1)) (fun y => z.1 y.symm)
    · have := rm.2.2 z
      omega
theorem cl_lo2 {b : Nat → Int32} (ok : cl_ok b) (p n : Nat) (hp : p < 196) (h : cl_R2 b p n) : cl_dep b p ≤ n := by
  rcases h.2.1 with z | z
  · have := cl_dep_13 ok hp
    omega
  · exact cl_dep_le z
theorem cl_gen2 {b : Nat → Int32} (ok : cl_ok b) (g : Nat → Nat) (hr : ∀ p, p < 196 → cl_R2 b p (g p)) (cl : ∀ p e q c, p < 196 → e < 9 → cl_K2 b p e q c → g q = cl_dep b q → cl_dep b p = cl_dep b q + c → g p = cl_dep b p) : ∀ p, p < 196 → g p = cl_dep b p := by
  intro p hp
  have k := cl_dep_W ok hp (fun p n => cl_W b p n ∧ (n = cl_dep b p → g p = cl_dep b p)) ⟨cl_W_0 b, fun _ => by
    rw [cl_dep_0]; exact (hr 0 (by decide)).2.2 rfl⟩
    (fun u v n i e => ⟨cl_W_s i.1 e, fun z => by
      have dd := cl_dep_s ok e
      obtain ⟨d, hd, o, t⟩ := cl_st_to (cl_st_y u v e)
      exact cl v d u 0 e.2.1 hd ⟨t, Or.inl ⟨e.2.2.1.symm, o, rfl⟩⟩ (i.2 (z.trans dd.symm)) dd.symm⟩)
    (fun u v n i hu hv e c => ⟨cl_W_b i.1 hu hv e c, fun z => by
      have d1 := cl_dep_le i.1
      have d2 := cl_dep_b ok hu hv e
      obtain ⟨d, hd, o, t⟩ := cl_bs_to hv hu (gp_bs_y e)
      exact cl v d u 1 hv hd ⟨t, Or.inr ⟨fun y => c y.symm, o, rfl⟩⟩ (i.2 (by omega)) (by omega)⟩)
  exact k.2 rfl
/-! reached: sweeps that push -/
def cl_P (b : Nat → Int32) (Z : Nat) (r0 : Nat → Int32) (i d : Nat) (re : Nat → Int32) (ch : Int32) : Prop :=
  (∀ p, p < 196 → re p ≠ 0 → cl_rc (cl_av b Z) 0 p) ∧ (∀ p, p < 196 → r0 p ≠ 0 → re p ≠ 0) ∧ (∀ p, p < i → ∀ e, e < 9 → e % 2 = 1 → ∀ q, cl_to p e q → cl_root b q ≠ Z → r0 p ≠ 0 → re q ≠ 0) ∧ (∀ e, e < d → e % 2 = 1 → ∀ q, cl_to i e q → cl_root b q ≠ Z → r0 i ≠ 0 → re q ≠ 0) ∧ (ch = 0 → ∀ p, p < 196 → re p ≠ 0 → r0 p ≠ 0) ∧ (ch = 0 ∨ ch = 1)
theorem cl_P_0 {b : Nat → Int32} {Z : Nat} {r0 : Nat → Int32} (h : ∀ p, p < 196 → r0 p ≠ 0 → cl_rc (cl_av b Z) 0 p) : cl_P b Z r0 0 1 r0 0 :=
  ⟨h, fun _ _ z => z, fun p hp => absurd hp (Nat.not_lt_zero p), fun e he o => by omega, fun _ _ _ z => z, Or.inl rfl⟩
theorem cl_P_nx {b : Nat → Int32} {Z : Nat} {r0 : Nat → Int32} {i : Nat} {re : Nat → Int32} {ch : Int32} (h : cl_P b Z r0 i 9 re ch) : cl_P b Z r0 (i + 1) 1 re ch := by
  obtain ⟨a1, a2, a3, a4, a5, a6⟩ := h
  refine ⟨a1, a2, fun p hp e he o q t n k => ?_, fun e he o => by omega, a5, a6⟩
  by_cases z : p = i
  · subst z; exact a4 e he o q t n k
  · exact a3 p (by omega) e he o q t n k
theorem cl_P_sk {b : Nat → Int32} {Z : Nat} {r0 : Nat → Int32} {i d : Nat} {re : Nat → Int32} {ch : Int32} (hd : d % 2 = 1) (h : cl_P b Z r0 i d re ch) (n : ∀ q, cl_to i d q → cl_root b q ≠ Z → r0 i ≠ 0 → re q ≠ 0) : cl_P b Z r0 i (d + 2) re ch := by
  obtain ⟨a1, a2, a3, a4, a5, a6⟩ := h
  refine ⟨a1, a2, a3, fun e he o q t k y => ?_, a5, a6⟩
  by_cases z : e = d
  · subst z; exact n q t k y
  · exact a4 e (by omega) o q t k y
theorem cl_P_up {b : Nat → Int32} {Z : Nat} {r0 : Nat → Int32} {i d q : Nat} {re : Nat → Int32} {ch : Int32} (hi : i < 196) (hd9 : d < 9) (hd : d % 2 = 1) (h : cl_P b Z r0 i d re ch) (t : cl_to i d q) (n : cl_root b q ≠ Z) (k : re i ≠ 0) : cl_P b Z r0 i (d + 2) (upd re q 1) 1 := by
  obtain ⟨a1, a2, a3, a4, a5, a6⟩ := h
  have us : upd re q 1 q ≠ 0 := by rw [pk_us]; decide
  have mo : ∀ p, re p ≠ 0 → upd re q 1 p ≠ 0 := fun p h => by
    by_cases z : p = q
    · subst z; exact us
    · rw [pk_un z]; exact h
  refine ⟨fun p hp z => ?_, fun p hp z => mo p (a2 p hp z), fun p hp e he o q' t' n' k' => mo _ (a3 p hp e he o q' t' n' k'), fun e he o q' t' n' k' => ?_, fun z => absurd z (by decide), Or.inr rfl⟩
  · by_cases y : p = q
    · subst y
      exact cl_rc_s (a1 i hi k) ⟨hi, hp, cl_to_bs hi hd9 hd t, n⟩
    · rw [pk_un y] at z
      exact a1 p hp z
  · by_cases z : e = d
    · subst z
      rw [cl_to_un t' t]; exact us
    · exact mo _ (a4 e (by omega) o q' t' n' k')
def cl_Q (b : Nat → Int32) (Z : Nat) (r : Nat) (x : Int32) (re : Nat → Int32) : Prop :=
  (∀ p, p < 196 → re p ≠ 0 → cl_rc (cl_av b Z) 0 p) ∧ re 0 ≠ 0 ∧ ((∀ p, p < 196 → cl_rc (cl_av b Z) 0 p → re p ≠ 0) ∨ (x ≠ 0 ∧ r < cl_cnt (fun p => cl_rc (cl_av b Z) 0 p → re p ≠ 0) 196))
theorem cl_Q_x {b : Nat → Int32} {Z r : Nat} {x : Int32} {re : Nat → Int32} (h : cl_Q b Z r x re) (e : 197 ≤ r ∨ x = 0) : ∀ p, p < 196 → (re p ≠ 0 ↔ cl_rc (cl_av b Z) 0 p) := by
  obtain ⟨a1, a2, a3⟩ := h
  intro p hp
  refine ⟨a1 p hp, ?_⟩
  rcases a3 with z | ⟨z, y⟩
  · exact z p hp
  · rcases e with e | e
    · have := cl_cnt_le (fun p => cl_rc (cl_av b Z) 0 p → re p ≠ 0) 196
      omega
    · exact absurd e z
theorem cl_Q_s {b : Nat → Int32} {Z r : Nat} {x ch : Int32} {re re' : Nat → Int32} (h : cl_Q b Z r x re) (h' : cl_P b Z re 196 1 re' ch) : cl_Q b Z (r + 1) ch re' := by
  obtain ⟨a1, a2, a3⟩ := h
  obtain ⟨b1, b2, b3, b4, b5, b6⟩ := h'
  refine ⟨b1, b2 0 (by decide) a2, ?_⟩
  by_cases all : ∀ p, p < 196 → cl_rc (cl_av b Z) 0 p → re p ≠ 0
  · exact Or.inl fun p hp k => b2 p hp (all p hp k)
  · have y := a3.resolve_left all
    have gr := cl_grow (A := fun p => cl_rc (cl_av b Z) 0 p → p < 196 ∧ re p ≠ 0) (A' := fun p => cl_rc (cl_av b Z) 0 p → p < 196 ∧ re' p ≠ 0) (T := fun p q => cl_av b Z q p ∧ cl_rc (cl_av b Z) 0 q)
      (fun p h k => ⟨(h k).1, b2 p (h k).1 (h k).2⟩)
      (fun p q hp hq t _ => by
        obtain ⟨e, he, o, to⟩ := cl_bs_to t.1.1 t.1.2.1 t.1.2.2.1
        exact ⟨hp, b3 q t.1.1 e he o p to t.1.2.2.2 (hq t.2).2⟩)
      (fun cl p hp k => by
        have := k (fun x => cl_rc (cl_av b Z) 0 x ∧ x < 196 ∧ re x ≠ 0) ⟨cl_rc_r _ 0, by decide, a2⟩ (fun u v i e => by
          have rv := cl_rc_s i.1 e
          exact ⟨rv, cl v u e.2.1 (fun _ => i.2) ⟨e, i.1⟩ rv⟩)
        exact this.2)
      (fun z => all fun p hp k => (z p hp k).2)
    have e1 := cl_cnt_c (P := fun p => cl_rc (cl_av b Z) 0 p → p < 196 ∧ re p ≠ 0) (Q := fun p => cl_rc (cl_av b Z) 0 p → re p ≠ 0) (n := 196) (fun p hp => ⟨fun z k => (z k).2, fun z k => ⟨hp, z k⟩⟩)
    have e2 := cl_cnt_c (P := fun p => cl_rc (cl_av b Z) 0 p → p < 196 ∧ re' p ≠ 0) (Q := fun p => cl_rc (cl_av b Z) 0 p → re' p ≠ 0) (n := 196) (fun p hp => ⟨fun z k => (z k).2, fun z k => ⟨hp, z k⟩⟩)
    refine Or.inr ⟨fun z => ?_, by omega⟩
    have e := cl_cnt_sub (P := fun p => cl_rc (cl_av b Z) 0 p → re' p ≠ 0) (Q := fun p => cl_rc (cl_av b Z) 0 p → re p ≠ 0) (n := 196) (fun p hp f k => b5 z p hp (f k))
    omega
end
section
/-! walks of the reference: steps, roots, changes, reached -/
theorem cl_nb {x : Int32} (h : x = 0 ∨ x = 1) : narrow .boolean (.int x) = .int x := by
  rcases h with h | h <;> rw [h] <;> rfl
theorem cl_v1 : vp_nar .boolean 1 = 1 := rfl
theorem cl_v0 : vp_nar .boolean 0 = 0 := rfl
theorem cl_vz (v : Int32) : vp_nar .boolean (lw_bz v) = lw_bz v := by
  rcases lw_bz_01 v with h | h <;> rw [h] <;> rfl
theorem cl_m1lt : (-1 : Int32) < 0 := by decide
theorem cl_nm1ge : ¬ (0 : Int32) ≤ -1 := by decide
theorem cl_add0 (x : Int32) : x + nI 0 = x := by rw [nI_0, Int32.add_zero]
theorem yb_way {post : Int32 → Prop} {v : SY} {d : Nat} (hd : d < 9) (h1 : d % 2 = 1 → post 1) (h0 : ¬ d % 2 = 1 → post 0) : wpY_besideWay post v (nI d) := by
  unfold wpY_besideWay
  refine ⟨by decide, ?_⟩
  rw [show nI d - nI d / 2 * 2 = nI (d % 2) from pk_rem (d := 2) (by omega) (by decide) (by decide)]
  exact pk_eq (d % 2) 1 h1 h0
theorem ys_step {post : Int32 → Prop} {w h : Int32} {b rt ch re : Nat → Int32} {p q d : Nat} (hp : p < 196) (hq : q < 196) (hd : d < 9) (h1 : b p = b q → (b p ≠ 0 ∨ d % 2 = 1) → post 1) (h0 : ¬ (b p = b q ∧ (b p ≠ 0 ∨ d % 2 = 1)) → post 0) : wpY_step post (w, h, b, rt, ch, re) (nI p) (nI q) (nI d) := by
  have ip : vp_in (nI p) 196 := vp_in_nI hp (by decide)
  refine ⟨ip, vp_in_nI hq (by decide), ?_⟩
  rw [nI_clamp (Nat.lt_trans hp (by decide)), nI_clamp (Nat.lt_trans hq (by decide))]
  by_cases e : b p = b q
  · refine br_t e ⟨ip, ?_⟩
    by_cases z : b p = 0
    · exact br_t z (yb_way hd (fun o => br_f cl_10 (h1 e (Or.inr o))) (fun o => br_t rfl (h0 fun k => k.2.elim (fun y => y z) o)))
    · exact br_f z (h1 e (Or.inl z))
  · exact br_f e (h0 fun k => e k.1)
/-! roots -/
theorem yr_in {post : Int32 → SY → Prop} {J4 : Int32 → Int32 → (Nat → Int32) → (Nat → Int32) → (Nat → Int32) → (Nat → Int32) → Prop} {i : Nat} {w h : Int32} {b ch re : Nat → Int32} {g0 : Nat → Nat} (hi : i < 196)
    (J : ∀ rt x, cl_S (cl_K1 b) (cl_R1 b) g0 (i + 1) 0 rt x → J4 x (nI (i + 1)) b rt ch re) :
    ∀ (n d : Nat) (rt : Nat → Int32) (x : Int32), d ≤ 9 → 9 < n + d → cl_S (cl_K1 b) (cl_R1 b) g0 i d rt x → wY_spreadRoots_13 post J4 (nI i) w h n x (nI d) b rt ch re := by
  intro n
  induction n with
  | zero => intro d rt x h1 h2; omega
  | succ n ih =>
    intro d rt x h1 h2 hS
    by_cases h9 : d = 9
    · subst h9
      exact br_t (nI_le (a := 9) (b := 9) (by decide) (by decide)) (nm_r (nI_1 i) (J rt x (cl_S_nx hS)))
    · have hd : d < 9 := by omega
      refine br_f (nI_ge (b := 9) hd (by decide)) (cl_ner hi hd (fun q tq => ?_) (fun hn => ?_))
      · refine br_f (nI_pos (Nat.lt_trans tq.1 (by decide))) (ys_step hi tq.1 hd (fun e o => ?_) (fun no => ?_))
        · have iq : vp_in (nI q) 196 := vp_in_nI tq.1 (by decide)
          have ii : vp_in (nI i) 196 := vp_in_nI hi (by decide)
          refine br_f cl_10 ⟨iq, ii, ?_⟩
          rw [nI_clamp (Nat.lt_trans tq.1 (by decide)), nI_clamp (Nat.lt_trans hi (by decide))]
          have k : cl_K1 b i d q 0 := ⟨tq, e, o, rfl⟩
          by_cases le : rt i ≤ rt q
          · exact br_t le (nm_r (nI_1 d) (ih (d + 1) rt x (by omega) (by omega) (cl_S_s1 (cl_KR1 b) hi hS k (by rw [cl_add0]; exact le))))
          · refine br_f le ⟨iq, ii, nm_e (nm_r (nI_1 d) (ih (d + 1) _ 1 (by omega) (by omega) ?_))⟩
            have := cl_S_up (cl_KR1 b) hi hd hS k (by rw [cl_add0]; exact le)
            rw [cl_add0] at this
            exact this
        · exact br_t rfl (nm_r (nI_1 d) (ih (d + 1) rt x (by omega) (by omega) (cl_S_s0 hS (fun q' c k => no (cl_to_un k.1 tq ▸ ⟨k.2.1, k.2.2.1⟩)))))
      · exact br_t cl_m1lt (nm_r (nI_1 d) (ih (d + 1) rt x (by omega) (by omega) (cl_S_s0 hS (fun q' c k => hn q' k.1))))
theorem yr_out {post : Int32 → SY → Prop} {w h : Int32} {b ch re : Nat → Int32} {g0 : Nat → Nat} (H : ∀ rt x, cl_S (cl_K1 b) (cl_R1 b) g0 196 0 rt x → post x (w, h, b, rt, ch, re)) :
    ∀ (n i : Nat) (rt : Nat → Int32) (x : Int32), i ≤ 196 → 196 < n + i → cl_S (cl_K1 b) (cl_R1 b) g0 i 0 rt x → wY_spreadRoots_4 post w h n x (nI i) b rt ch re := by
  intro n
  induction n with
  | zero => intro d rt x h1 h2; omega
  | succ n ih =>
    intro i rt x h1 h2 hS
    by_cases h9 : i = 196
    · subst h9
      refine br_t (nI_le (a := 196) (b := 196) (by decide) (by decide)) ⟨?_, H rt x hS⟩
      obtain ⟨g, a1, a2, a3, a4, a5, a6, a7⟩ := hS
      exact cl_nb a7
    · exact br_f (nI_ge (b := 196) (by omega) (by decide)) ⟨10, yr_in (by omega) (fun rt x hS => ih (i + 1) rt x (by omega) (by omega) hS) 10 0 rt x (by decide) (by decide) hS⟩
theorem yr_rounds {post : SY → Prop} {w h : Int32} {b ch re : Nat → Int32} (H : ∀ rt, (∀ p, p < 196 → rt p = nI (cl_root b p)) → post (w, h, b, rt, ch, re)) :
    ∀ (n r : Nat) (rt : Nat → Int32) (x : Int32), r ≤ 197 → 197 < n + r → cl_G (cl_R1 b) (cl_root b) r x rt → wY_findRoots_26 post n x (nI r) w h b rt ch re := by
  intro n
  induction n with
  | zero => intro d rt x h1 h2; omega
  | succ n ih =>
    intro r rt x h1 h2 hG
    by_cases h9 : r = 197
    · subst h9
      exact br_t (nI_le (a := 197) (b := 197) (by decide) (by decide)) (H rt (cl_G_x hG (Or.inl (Nat.le_refl _))))
    · refine br_f (nI_ge (b := 197) (by omega) (by decide)) ?_
      by_cases hx : x = 0
      · exact br_t hx (H rt (cl_G_x hG (Or.inr hx)))
      · obtain ⟨g, a1, a2, a3⟩ := hG
        refine br_f hx ⟨197, yr_out (g0 := g) (fun rt' x' hS => ?_) 197 0 rt 0 (by decide) (by decide) (cl_S_0 a1 a2)⟩
        exact nm_r (nI_1 r) (ih (r + 1) rt' x' (by omega) (by omega) (cl_G_s (fun p n hp k => cl_root_le k.2.2) (fun i e q c k => k.1.1) (cl_gen1 b) a2 (a3.elim Or.inl (fun z => Or.inr z.2)) hS))
theorem yr_find {post : SY → Prop} {w h : Int32} {b rt0 ch re : Nat → Int32} (H : ∀ rt, (∀ p, p < 196 → rt p = nI (cl_root b p)) → post (w, h, b, rt, ch, re)) : wpY_findRoots post (w, h, b, rt0, ch, re) := by
  refine loop_0 (fun n i (s : Nat → Int32) => wY_findRoots_2 post w h n (nI i) b s ch re) (fun i s => ∀ p, p < i → s p = nI p) 196 rt0 (fun p hp => absurd hp (Nat.not_lt_zero p)) (fun n s hs => ?_) (fun n i s hi hs k => ?_)
  · refine br_t (nI_le (a := 196) (b := 196) (by decide) (by decide)) ⟨198, yr_rounds H 198 0 s 1 (by decide) (by decide) ⟨fun p => p, hs, fun p hp => ⟨hp, Nat.le_refl p, cl_rc_r _ p⟩, Or.inr ⟨by decide, ?_⟩⟩⟩
    exact cl_cnt_lt (P := fun p => p < 196 ∧ p = cl_root b p) (m := 0) (n := 196) (by decide) ⟨by decide, (Nat.le_zero.mp (cl_root_self b 0)).symm⟩
  · refine br_f (nI_ge (b := 196) hi (by decide)) ⟨vp_in_nI hi (by decide), nm_r (congrArg (fun z => upd s z (nI i)) (nI_clamp (Nat.lt_trans hi (by decide)))) (nm_r (nI_1 i) (k _ (fun p hp => ?_)))⟩
    by_cases e : p = i
    · rw [e]; exact pk_us
    · rw [pk_un e]; exact hs p (by omega)
/-! changes -/
theorem yc_84k {post : Int32 → SY → Prop} {J4 J13 : Int32 → Int32 → (Nat → Int32) → (Nat → Int32) → (Nat → Int32) → (Nat → Int32) → Prop} {i d q c : Nat} {w h x : Int32} {b rt ch re : Nat → Int32} {g0 : Nat → Nat} (hi : i < 196) (hd : d < 9) (hq : q < 196)
    (J : ∀ ch x, cl_S (cl_K2 b) (cl_R2 b) g0 i (d + 1) ch x → J13 x (nI (d + 1)) b rt ch re) (hS : cl_S (cl_K2 b) (cl_R2 b) g0 i d ch x) (k : cl_K2 b i d q c) : wY_spreadChanges_84 post J4 J13 x (nI i) (nI d) (nI q) (nI c) w h b rt ch re := by
  have iq : vp_in (nI q) 196 := vp_in_nI hq (by decide)
  have ii : vp_in (nI i) 196 := vp_in_nI hi (by decide)
  refine br_f (nI_pos (Nat.lt_trans hq (by decide))) ⟨iq, ii, ?_⟩
  rw [nI_clamp (Nat.lt_trans hq (by decide)), nI_clamp (Nat.lt_trans hi (by decide))]
  by_cases le : ch i ≤ ch q + nI c
  · exact br_t le (nm_r (nI_1 d) (J ch x (cl_S_s1 (cl_KR2 b) hi hS k le)))
  · exact br_f le ⟨iq, ii, nm_e (nm_r (nI_1 d) (J _ 1 (cl_S_up (cl_KR2 b) hi hd hS k le)))⟩
theorem yc_84n {post : Int32 → SY → Prop} {J4 J13 : Int32 → Int32 → (Nat → Int32) → (Nat → Int32) → (Nat → Int32) → (Nat → Int32) → Prop} {i d q : Nat} {w h x : Int32} {b rt ch re : Nat → Int32} {g0 : Nat → Nat} (hi : i < 196) (hq : q < 196)
    (J : ∀ ch x, cl_S (cl_K2 b) (cl_R2 b) g0 i (d + 1) ch x → J13 x (nI (d + 1)) b rt ch re) (hS : cl_S (cl_K2 b) (cl_R2 b) g0 i d ch x) (n : ∀ q c, ¬ cl_K2 b i d q c) : wY_spreadChanges_84 post J4 J13 x (nI i) (nI d) (nI q) 1000 w h b rt ch re := by
  have iq : vp_in (nI q) 196 := vp_in_nI hq (by decide)
  have ii : vp_in (nI i) 196 := vp_in_nI hi (by decide)
  refine br_f (nI_pos (Nat.lt_trans hq (by decide))) ⟨iq, ii, ?_⟩
  rw [nI_clamp (Nat.lt_trans hq (by decide)), nI_clamp (Nat.lt_trans hi (by decide))]
  have le : ch i ≤ ch q + 1000 := by
    obtain ⟨g, a1, a2, _⟩ := hS
    have b1 := (a2 i hi).1
    have b2 := (a2 q hq).1
    rw [a1 i hi, a1 q hq, show nI (g q) + 1000 = nI (g q + 1000) from nI_add (g q) 1000]
    exact nI_le (by omega) (by omega)
  exact br_t le (nm_r (nI_1 d) (J ch x (cl_S_s0 hS n)))
theorem yc_in {post : Int32 → SY → Prop} {J4 : Int32 → Int32 → (Nat → Int32) → (Nat → Int32) → (Nat → Int32) → (Nat → Int32) → Prop} {i : Nat} {w h : Int32} {b rt re : Nat → Int32} {g0 : Nat → Nat} (hi : i < 196)
    (J : ∀ ch x, cl_S (cl_K2 b) (cl_R2 b) g0 (i + 1) 0 ch x → J4 x (nI (i + 1)) b rt ch re) :
    ∀ (n d : Nat) (ch : Nat → Int32) (x : Int32), d ≤ 9 → 9 < n + d → cl_S (cl_K2 b) (cl_R2 b) g0 i d ch x → wY_spreadChanges_13 post J4 (nI i) w h n x (nI d) b rt ch re := by
  intro n
  induction n with
  | zero => intro d ch x h1 h2; omega
  | succ n ih =>
    intro d ch x h1 h2 hS
    by_cases h9 : d = 9
    · subst h9
      exact br_t (nI_le (a := 9) (b := 9) (by decide) (by decide)) (nm_r (nI_1 i) (J ch x (cl_S_nx hS)))
    · have hd : d < 9 := by omega
      have J13 : ∀ ch x, cl_S (cl_K2 b) (cl_R2 b) g0 i (d + 1) ch x → wY_spreadChanges_13 post J4 (nI i) w h n x (nI (d + 1)) b rt ch re := fun ch x hS => ih (d + 1) ch x (by omega) (by omega) hS
      refine br_f (nI_ge (b := 9) hd (by decide)) (cl_ner hi hd (fun q tq => ?_) (fun hn => ?_))
      · have iq : vp_in (nI q) 196 := vp_in_nI tq.1 (by decide)
        have ii : vp_in (nI i) 196 := vp_in_nI hi (by decide)
        refine br_t (nI_pos' (Nat.lt_trans tq.1 (by decide))) (ys_step hi tq.1 hd (fun e o => ?_) (fun no => ?_))
        · exact br_f cl_10 (yc_84k (c := 0) hi hd tq.1 J13 hS ⟨tq, Or.inl ⟨e, o, rfl⟩⟩)
        · refine br_t rfl ⟨ii, iq, ?_⟩
          rw [nI_clamp (Nat.lt_trans tq.1 (by decide)), nI_clamp (Nat.lt_trans hi (by decide))]
          by_cases e : b i = b q
          · refine br_t e ?_
            unfold wY_spreadChanges_81
            refine yc_84n hi tq.1 J13 hS (fun q' c k => ?_)
            have eq := cl_to_un k.1 tq
            subst eq
            rcases k.2 with z | z
            · exact no ⟨z.1, z.2.1⟩
            · exact z.1 e
          · refine br_f e (yb_way hd (fun o => ?_) (fun o => ?_))
            · exact br_f cl_10 (yc_84k (c := 1) hi hd tq.1 J13 hS ⟨tq, Or.inr ⟨e, o, rfl⟩⟩)
            · refine br_t rfl ?_
              unfold wY_spreadChanges_81
              refine yc_84n hi tq.1 J13 hS (fun q' c k => ?_)
              have eq := cl_to_un k.1 tq
              subst eq
              rcases k.2 with z | z
              · exact e z.1
              · exact o z.2.1
      · refine br_f cl_nm1ge ?_
        exact br_t cl_m1lt (nm_r (nI_1 d) (J13 ch x (cl_S_s0 hS (fun q' c k => hn q' k.1))))
theorem yc_out {post : Int32 → SY → Prop} {w h : Int32} {b rt re : Nat → Int32} {g0 : Nat → Nat} (H : ∀ ch x, cl_S (cl_K2 b) (cl_R2 b) g0 196 0 ch x → post x (w, h, b, rt, ch, re)) :
    ∀ (n i : Nat) (ch : Nat → Int32) (x : Int32), i ≤ 196 → 196 < n + i → cl_S (cl_K2 b) (cl_R2 b) g0 i 0 ch x → wY_spreadChanges_4 post w h n x (nI i) b rt ch re := by
  intro n
  induction n with
  | zero => intro d ch x h1 h2; omega
  | succ n ih =>
    intro i ch x h1 h2 hS
    by_cases h9 : i = 196
    · subst h9
      refine br_t (nI_le (a := 196) (b := 196) (by decide) (by decide)) ⟨?_, H ch x hS⟩
      obtain ⟨g, a1, a2, a3, a4, a5, a6, a7⟩ := hS
      exact cl_nb a7
    · exact br_f (nI_ge (b := 196) (by omega) (by decide)) ⟨10, yc_in (by omega) (fun ch x hS => ih (i + 1) ch x (by omega) (by omega) hS) 10 0 ch x (by decide) (by decide) hS⟩
theorem yc_rounds {post : SY → Prop} {w h : Int32} {b rt re : Nat → Int32} (ok : cl_ok b) (H : ∀ ch, (∀ p, p < 196 → ch p = nI (cl_dep b p)) → post (w, h, b, rt, ch, re)) :
    ∀ (n r : Nat) (ch : Nat → Int32) (x : Int32), r ≤ 197 → 197 < n + r → cl_G (cl_R2 b) (cl_dep b) r x ch → wY_findChanges_36 post n x (nI r) w h b rt ch re := by
  intro n
  induction n with
  | zero => intro d ch x h1 h2; omega
  | succ n ih =>
    intro r ch x h1 h2 hG
    by_cases h9 : r = 197
    · subst h9
      exact br_t (nI_le (a := 197) (b := 197) (by decide) (by decide)) (H ch (cl_G_x hG (Or.inl (Nat.le_refl _))))
    · refine br_f (nI_ge (b := 197) (by omega) (by decide)) ?_
      by_cases hx : x = 0
      · exact br_t hx (H ch (cl_G_x hG (Or.inr hx)))
      · obtain ⟨g, a1, a2, a3⟩ := hG
        refine br_f hx ⟨197, yc_out (g0 := g) (fun ch' x' hS => ?_) 197 0 ch 0 (by decide) (by decide) (cl_S_0 a1 a2)⟩
        exact nm_r (nI_1 r) (ih (r + 1) ch' x' (by omega) (by omega) (cl_G_s (cl_lo2 ok) (fun i e q c k => k.1.1) (cl_gen2 ok) a2 (a3.elim Or.inl (fun z => Or.inr z.2)) hS))
theorem yc_find {post : SY → Prop} {w h : Int32} {b rt ch0 re : Nat → Int32} (ok : cl_ok b) (H : ∀ ch, (∀ p, p < 196 → ch p = nI (cl_dep b p)) → post (w, h, b, rt, ch, re)) : wpY_findChanges post (w, h, b, rt, ch0, re) := by
  refine loop_0 (fun n i (s : Nat → Int32) => wY_findChanges_2 post w h n (nI i) b rt s re) (fun i s => ∀ p, p < i → s p = nI (if p = 0 then 0 else 500)) 196 ch0 (fun p hp => absurd hp (Nat.not_lt_zero p)) (fun n s hs => ?_) (fun n i s hi hs k => ?_)
  · refine br_t (nI_le (a := 196) (b := 196) (by decide) (by decide)) ⟨198, yc_rounds ok H 198 0 s 1 (by decide) (by decide) ⟨fun p => if p = 0 then 0 else 500, hs, fun p hp => ?_, Or.inr ⟨by decide, ?_⟩⟩⟩
    · by_cases z : p = 0
      · subst z
        exact ⟨by decide, Or.inr (cl_W_0 b), fun _ => rfl⟩
      · show cl_R2 b p (if p = 0 then 0 else 500)
        rw [if_neg z]
        exact ⟨by decide, Or.inl rfl, fun y => absurd y z⟩
    · exact cl_cnt_lt (P := fun p => p < 196 ∧ (if p = 0 then 0 else 500) = cl_dep b p) (m := 0) (n := 196) (by decide) ⟨by decide, (cl_dep_0 b).symm⟩
  · have ci : (nI i).toNatClampNeg = i := nI_clamp (Nat.lt_trans hi (by decide))
    refine br_f (nI_ge (b := 196) hi (by decide)) (pk_eq i 0 (fun z => ⟨vp_in_nI hi (by decide), nm_r (congrArg (fun z => upd s z 0) ci) (nm_r (nI_1 i) (k _ (fun p hp => ?_)))⟩) (fun z => ⟨vp_in_nI hi (by decide), nm_r (congrArg (fun z => upd s z 500) ci) (nm_r (nI_1 i) (k _ (fun p hp => ?_)))⟩))
    · by_cases e : p = i
      · rw [e, pk_us, if_pos z]; rfl
      · rw [pk_un e]; exact hs p (by omega)
    · by_cases e : p = i
      · rw [e, pk_us, if_neg z]; rfl
      · rw [pk_un e]; exact hs p (by omega)
/-! reached -/
theorem ye_in {post : Int32 → SY → Prop} {J4 : Int32 → Int32 → (Nat → Int32) → (Nat → Int32) → (Nat → Int32) → (Nat → Int32) → Prop} {i Z : Nat} {w h : Int32} {b rt ch r0 : Nat → Int32} (hi : i < 196) (hZ : Z < 196) (hrt : ∀ p, p < 196 → rt p = nI (cl_root b p))
    (J : ∀ re x, cl_P b Z r0 (i + 1) 1 re x → J4 x (nI (i + 1)) b rt ch re) :
    ∀ (n d : Nat) (re : Nat → Int32) (x : Int32), d ≤ 9 → d % 2 = 1 → 9 < n + d → cl_P b Z r0 i d re x → wY_spreadReached_14 post J4 (nI Z) (nI i) w h n x (nI d) b rt ch re := by
  intro n
  induction n with
  | zero => intro d re x h1 ho h2; omega
  | succ n ih =>
    intro d re x h1 ho h2 hP
    by_cases h9 : d = 9
    · subst h9
      exact br_t (nI_le (a := 9) (b := 9) (by decide) (by decide)) (nm_r (nI_1 i) (J re x (cl_P_nx hP)))
    · have hd : d < 9 := by omega
      have go : (∀ q, cl_to i d q → cl_root b q ≠ Z → r0 i ≠ 0 → re q ≠ 0) → wY_spreadReached_14 post J4 (nI Z) (nI i) w h n x (nI (d + 2)) b rt ch re := fun hn => ih (d + 2) re x (by omega) (by omega) (by omega) (cl_P_sk ho hP hn)
      refine br_f (nI_ge (b := 9) hd (by decide)) (cl_ner hi hd (fun q tq => ?_) (fun hn => ?_))
      · have iq : vp_in (nI q) 196 := vp_in_nI tq.1 (by decide)
        refine br_f (nI_pos (Nat.lt_trans tq.1 (by decide))) ⟨vp_in_nI hi (by decide), ?_⟩
        rw [nI_clamp (Nat.lt_trans tq.1 (by decide)), nI_clamp (Nat.lt_trans hi (by decide))]
        by_cases e : re i = 0
        · exact br_t e (nm_r (nI_add d 2) (go fun q' _ _ z => absurd e (hP.2.1 i hi z)))
        · refine br_f e ⟨iq, ?_⟩
          by_cases e2 : re q = 0
          · refine br_t e2 ⟨iq, ?_⟩
            rw [hrt q tq.1]
            have := cl_root_lt (b := b) tq.1
            refine pk_eq (cl_root b q) Z (fun z => ?_) (fun z => ?_)
            · exact nm_r (nI_add d 2) (go fun q' t' n' _ => absurd (cl_to_un t' tq ▸ z) n')
            · exact ⟨iq, nm_e (nm_r (nI_add d 2) (ih (d + 2) _ 1 (by omega) (by omega) (by omega) (cl_P_up hi hd ho hP tq z e)))⟩
          · exact br_f e2 (nm_r (nI_add d 2) (go fun q' t' _ _ => cl_to_un t' tq ▸ e2))
      · exact br_t cl_m1lt (nm_r (nI_add d 2) (go fun q t _ _ => absurd t (hn q)))
theorem ye_out {post : Int32 → SY → Prop} {Z : Nat} {w h : Int32} {b rt ch r0 : Nat → Int32} (hZ : Z < 196) (hrt : ∀ p, p < 196 → rt p = nI (cl_root b p)) (H : ∀ re x, cl_P b Z r0 196 1 re x → post x (w, h, b, rt, ch, re)) :
    ∀ (n i : Nat) (re : Nat → Int32) (x : Int32), i ≤ 196 → 196 < n + i → cl_P b Z r0 i 1 re x → wY_spreadReached_4 post (nI Z) w h n x (nI i) b rt ch re := by
  intro n
  induction n with
  | zero => intro d re x h1 h2; omega
  | succ n ih =>
    intro i re x h1 h2 hP
    by_cases h9 : i = 196
    · subst h9
      exact br_t (nI_le (a := 196) (b := 196) (by decide) (by decide)) ⟨cl_nb hP.2.2.2.2.2, H re x hP⟩
    · exact br_f (nI_ge (b := 196) (by omega) (by decide)) ⟨10, ye_in (by omega) hZ hrt (fun re x hP => ih (i + 1) re x (by omega) (by omega) hP) 10 1 re x (by decide) (by decide) (by decide) hP⟩
theorem ye_rounds {post : SY → Prop} {Z : Nat} {w h : Int32} {b rt ch : Nat → Int32} (hZ : Z < 196) (hrt : ∀ p, p < 196 → rt p = nI (cl_root b p)) (H : ∀ re, (∀ p, p < 196 → (re p ≠ 0 ↔ cl_rc (cl_av b Z) 0 p)) → post (w, h, b, rt, ch, re)) :
    ∀ (n r : Nat) (re : Nat → Int32) (x : Int32), r ≤ 197 → 197 < n + r → cl_Q b Z r x re → wY_findReached_34 post (nI Z) n x (nI r) w h b rt ch re := by
  intro n
  induction n with
  | zero => intro d re x h1 h2; omega
  | succ n ih =>
    intro r re x h1 h2 hQ
    by_cases h9 : r = 197
    · subst h9
      exact br_t (nI_le (a := 197) (b := 197) (by decide) (by decide)) (H re (cl_Q_x hQ (Or.inl (Nat.le_refl _))))
    · refine br_f (nI_ge (b := 197) (by omega) (by decide)) ?_
      by_cases hx : x = 0
      · exact br_t hx (H re (cl_Q_x hQ (Or.inr hx)))
      · refine br_f hx ⟨197, ye_out (r0 := re) hZ hrt (fun re' x' hP => ?_) 197 0 re 0 (by decide) (by decide) (cl_P_0 hQ.1)⟩
        exact nm_r (nI_1 r) (ih (r + 1) re' x' (by omega) (by omega) (cl_Q_s hQ hP))
theorem ye_find {post : SY → Prop} {Z : Nat} {w h : Int32} {b rt ch re0 : Nat → Int32} (hZ : Z < 196) (hrt : ∀ p, p < 196 → rt p = nI (cl_root b p)) (H : ∀ re, (∀ p, p < 196 → (re p ≠ 0 ↔ cl_rc (cl_av b Z) 0 p)) → post (w, h, b, rt, ch, re)) : wpY_findReached post (w, h, b, rt, ch, re0) (nI Z) := by
  refine loop_0 (fun n i (s : Nat → Int32) => wY_findReached_2 post (nI Z) w h n (nI i) b rt ch s) (fun i s => ∀ p, p < i → (s p ≠ 0 ↔ p = 0)) 196 re0 (fun p hp => absurd hp (Nat.not_lt_zero p)) (fun n s hs => ?_) (fun n i s hi hs k => ?_)
  · refine br_t (nI_le (a := 196) (b := 196) (by decide) (by decide)) ⟨198, ye_rounds hZ hrt H 198 0 s 1 (by decide) (by decide) ⟨fun p hp z => ?_, (hs 0 (by decide)).mpr rfl, Or.inr ⟨by decide, ?_⟩⟩⟩
    · rw [(hs p hp).mp z]; exact cl_rc_r _ 0
    · exact cl_cnt_lt (P := fun p => cl_rc (cl_av b Z) 0 p → s p ≠ 0) (m := 0) (n := 196) (by decide) (fun _ => (hs 0 (by decide)).mpr rfl)
  · have ci : (nI i).toNatClampNeg = i := nI_clamp (Nat.lt_trans hi (by decide))
    refine br_f (nI_ge (b := 196) hi (by decide)) (pk_eq i 0 (fun z => ⟨vp_in_nI hi (by decide), nm_r (congrArg (fun z => upd s z 1) ci) (nm_r (nI_1 i) (k _ (fun p hp => ?_)))⟩) (fun z => ⟨vp_in_nI hi (by decide), nm_r (congrArg (fun z => upd s z 0) ci) (nm_r (nI_1 i) (k _ (fun p hp => ?_)))⟩))
    · by_cases e : p = i
      · rw [e, pk_us]; exact ⟨fun _ => z, fun _ => cl_10⟩
      · rw [pk_un e]; exact hs p (by omega)
    · by_cases e : p = i
      · rw [e, pk_us]; exact ⟨fun y => absurd rfl y, fun y => absurd y z⟩
      · rw [pk_un e]; exact hs p (by omega)
end
section
/-! walks of the reference: first places, counts, holes -/
theorem yf_first {post : Int32 → Prop} {c w h : Int32} {b rt ch re : Nat → Int32} {p : Nat} (hp : p < 196) (hrt : ∀ p, p < 196 → rt p = nI (cl_root b p)) (h1 : cl_fs b c p → post 1) (h0 : ¬ cl_fs b c p → post 0) : wpY_isFirst post (w, h, b, rt, ch, re) (nI p) c := by
  have ip : vp_in (nI p) 196 := vp_in_nI hp (by decide)
  refine ⟨ip, ?_⟩
  rw [nI_clamp (Nat.lt_trans hp (by decide)), hrt p hp]
  have := cl_root_lt (b := b) hp
  by_cases e : b p = c
  · exact br_t e ⟨ip, pk_eq (cl_root b p) p (fun z => h1 ⟨e, z⟩) (fun z => h0 fun k => z k.2)⟩
  · exact br_f e (h0 fun k => e k.1)
theorem yf_cl {post : Int32 → Prop} {c w h : Int32} {b rt ch re : Nat → Int32} {N : Nat} (hN : N ≤ 196) (hrt : ∀ p, p < 196 → rt p = nI (cl_root b p)) (H : post (nI (cl_cnt (cl_fs b c) N))) : ∀ n i : Nat, i ≤ N → N < n + i → wY_count_5 post c (nI N) w h b rt ch re n (nI (cl_cnt (cl_fs b c) i)) (nI i) := by
  intro n
  induction n with
  | zero => intro i h1 h2; omega
  | succ n ih =>
    intro i h1 h2
    by_cases h9 : i = N
    · subst h9
      exact br_t (nI_le (Nat.le_refl i) (by omega)) H
    · refine br_f (nI_ge (by omega) (by omega)) (yf_first (by omega) hrt (fun f => ?_) (fun f => ?_))
      · refine br_f cl_10 (nm_r (nI_1 _) (nm_r (nI_1 i) ?_))
        rw [← cl_cnt_t f]
        exact ih (i + 1) (by omega) (by omega)
      · refine br_t rfl (nm_r (nI_1 i) ?_)
        rw [← cl_cnt_f f]
        exact ih (i + 1) (by omega) (by omega)
theorem yf_count {post : Int32 → Prop} {c w h : Int32} {b rt ch re : Nat → Int32} {N : Nat} (hN : N ≤ 196) (hrt : ∀ p, p < 196 → rt p = nI (cl_root b p)) (H : post (nI (cl_cnt (cl_fs b c) N))) : wpY_count post (w, h, b, rt, ch, re) c (nI N) :=
  ⟨N + 1, yf_cl hN hrt H (N + 1) 0 (Nat.zero_le N) (by omega)⟩
theorem yo_loop {post : Int32 → SY → Prop} {k w h : Int32} {b rt ch re : Nat → Int32} (hrt : ∀ p, p < 196 → rt p = nI (cl_root b p)) (hy : ∀ r, r < 196 → cl_fs b 1 r → k = nI (cl_cnt (cl_fs b 1) r) → post (nI r) (w, h, b, rt, ch, re)) (hn : (∀ r, r < 196 → cl_fs b 1 r → k ≠ nI (cl_cnt (cl_fs b 1) r)) → post (-1) (w, h, b, rt, ch, re)) :
    ∀ n i : Nat, i ≤ 196 → 196 < n + i → (∀ r, r < i → cl_fs b 1 r → k ≠ nI (cl_cnt (cl_fs b 1) r)) → wY_firstOf_8 post k w h b rt ch re n (nI (cl_cnt (cl_fs b 1) i)) (nI i) := by
  intro n
  induction n with
  | zero => intro i h1 h2; omega
  | succ n ih =>
    intro i h1 h2 hI
    by_cases h9 : i = 196
    · subst h9
      exact br_t (nI_le (a := 196) (b := 196) (by decide) (by decide)) (hn hI)
    · have hi : i < 196 := by omega
      refine br_f (nI_ge (b := 196) hi (by decide)) (yf_first hi hrt (fun f => ?_) (fun f => ?_))
      · refine br_f cl_10 ?_
        by_cases e : nI (cl_cnt (cl_fs b 1) i) = k
        · exact br_t e (hy i hi f e.symm)
        · refine br_f e (nm_r (nI_1 _) (nm_r (nI_1 i) ?_))
          rw [← cl_cnt_t f]
          refine ih (i + 1) (by omega) (by omega) (fun r hr fr => ?_)
          by_cases z : r = i
          · subst z; exact fun y => e y.symm
          · exact hI r (by omega) fr
      · refine br_t rfl (nm_r (nI_1 i) ?_)
        rw [← cl_cnt_f f]
        refine ih (i + 1) (by omega) (by omega) (fun r hr fr => ?_)
        by_cases z : r = i
        · subst z; exact absurd fr f
        · exact hI r (by omega) fr
theorem yo_first {post : Int32 → SY → Prop} {k w h : Int32} {b rt0 ch re : Nat → Int32} (hy : ∀ rt, (∀ p, p < 196 → rt p = nI (cl_root b p)) → ∀ r, r < 196 → cl_fs b 1 r → k = nI (cl_cnt (cl_fs b 1) r) → post (nI r) (w, h, b, rt, ch, re)) (hn : ∀ rt, (∀ p, p < 196 → rt p = nI (cl_root b p)) → (∀ r, r < 196 → cl_fs b 1 r → k ≠ nI (cl_cnt (cl_fs b 1) r)) → post (-1) (w, h, b, rt, ch, re)) : wpY_firstOf post (w, h, b, rt0, ch, re) k := by
  unfold wpY_firstOf
  exact yr_find (fun rt hrt => ⟨197, yo_loop hrt (hy rt hrt) (hn rt hrt) 197 0 (by decide) (by decide) (fun r hr => absurd hr (Nat.not_lt_zero r))⟩)
/-! holes -/
def cl_hole (b : Nat → Int32) (R C : Nat) : Prop := ∃ p q, p < 196 ∧ q < 196 ∧ gp_bs p q ∧ cl_root b p = R ∧ cl_root b q = C ∧ cl_dep b q + 1 = cl_dep b p
theorem cl_dm1 {a c : Nat} (ha : a < 2 ^ 30) (hc : c < 2 ^ 30) : nI a = nI c - 1 ↔ a + 1 = c := by
  have e1 : nI c - 1 = nI c - nI 1 := rfl
  rw [e1, ← Int32.toInt_inj, pk_sub_toInt hc (by decide), nI_toInt (by omega)]
  omega
theorem cl_dm2 {a c : Nat} (ha : a < 2 ^ 30) (hc : c < 2 ^ 30) : nI a = nI c - 2 ↔ a + 2 = c := by
  have e1 : nI c - 2 = nI c - nI 2 := rfl
  rw [e1, ← Int32.toInt_inj, pk_sub_toInt hc (by decide), nI_toInt (by omega)]
  omega
theorem yh_in {post : Int32 → Prop} {J2 : Int32 → Prop} {i R C : Nat} {w h : Int32} {b rt ch re : Nat → Int32} (ok : cl_ok b) (hi : i < 196) (hR : R < 196) (hC : C < 196) (hrt : ∀ p, p < 196 → rt p = nI (cl_root b p)) (hch : ∀ p, p < 196 → ch p = nI (cl_dep b p))
    (hy : cl_hole b R C → post 1) (J : (∀ q, q < 196 → gp_bs i q → cl_root b i = R → cl_root b q = C → cl_dep b q + 1 = cl_dep b i → False) → J2 (nI (i + 1))) :
    ∀ n d : Nat, d ≤ 9 → d % 2 = 1 → 9 < n + d → (∀ e, e < d → e % 2 = 1 → ∀ q, cl_to i e q → cl_root b i = R → cl_root b q = C → cl_dep b q + 1 = cl_dep b i → False) → wY_isHole_12 post J2 (nI R) (nI C) (nI i) w h b rt ch re n (nI d) := by
  intro n
  induction n with
  | zero => intro d h1 ho h2; omega
  | succ n ih =>
    intro d h1 ho h2 hI
    by_cases h9 : d = 9
    · subst h9
      refine br_t (nI_le (a := 9) (b := 9) (by decide) (by decide)) (nm_r (nI_1 i) (J fun q hq bq => ?_))
      obtain ⟨e, he, oe, te⟩ := cl_bs_to hi hq bq
      exact hI e he oe q te
    · have hd : d < 9 := by omega
      have go : (∀ q, cl_to i d q → cl_root b i = R → cl_root b q = C → cl_dep b q + 1 = cl_dep b i → False) → wY_isHole_12 post J2 (nI R) (nI C) (nI i) w h b rt ch re n (nI (d + 2)) := fun hn => ih (d + 2) (by omega) (by omega) (by omega) (fun e he oe q te => by
        by_cases z : e = d
        · subst z; exact hn q te
        · exact hI e (by omega) oe q te)
      refine br_f (nI_ge (b := 9) hd (by decide)) (cl_ner hi hd (fun q tq => ?_) (fun hn => ?_))
      · have iq : vp_in (nI q) 196 := vp_in_nI tq.1 (by decide)
        have ii : vp_in (nI i) 196 := vp_in_nI hi (by decide)
        refine br_f (nI_pos (Nat.lt_trans tq.1 (by decide))) ⟨ii, ?_⟩
        rw [nI_clamp (Nat.lt_trans tq.1 (by decide)), nI_clamp (Nat.lt_trans hi (by decide)), hrt i hi, hrt q tq.1, hch i hi, hch q tq.1]
        have l1 := cl_root_lt (b := b) hi
        have l2 := cl_root_lt (b := b) tq.1
        have l3 := cl_dep_13 ok hi
        have l4 := cl_dep_13 ok tq.1
        refine pk_eq (cl_root b i) R (fun e1 => ⟨iq, pk_eq (cl_root b q) C (fun e2 => ⟨iq, ii, ?_⟩) (fun e2 => ?_)⟩) (fun e1 => ?_)
        · by_cases e3 : cl_dep b q + 1 = cl_dep b i
          · exact br_t ((cl_dm1 (by omega) (by omega)).mpr e3) (hy ⟨i, q, hi, tq.1, cl_to_bs hi hd ho tq, e1, e2, e3⟩)
          · exact br_f (fun z => e3 ((cl_dm1 (by omega) (by omega)).mp z)) (nm_r (nI_add d 2) (go fun q' t' _ _ z => e3 (cl_to_un t' tq ▸ z)))
        · exact nm_r (nI_add d 2) (go fun q' t' _ z _ => e2 (cl_to_un t' tq ▸ z))
        · exact nm_r (nI_add d 2) (go fun q' t' z _ _ => e1 z)
      · exact br_t cl_m1lt (nm_r (nI_add d 2) (go fun q t _ _ _ => hn q t))
theorem yh_out {post : Int32 → Prop} {R C : Nat} {w h : Int32} {b rt ch re : Nat → Int32} (ok : cl_ok b) (hR : R < 196) (hC : C < 196) (hrt : ∀ p, p < 196 → rt p = nI (cl_root b p)) (hch : ∀ p, p < 196 → ch p = nI (cl_dep b p))
    (hy : cl_hole b R C → post 1) (hn : ¬ cl_hole b R C → post 0) :
    ∀ n i : Nat, i ≤ 196 → 196 < n + i → (∀ p q, p < i → q < 196 → gp_bs p q → cl_root b p = R → cl_root b q = C → cl_dep b q + 1 = cl_dep b p → False) → wY_isHole_2 post (nI R) (nI C) w h b rt ch re n (nI i) := by
  intro n
  induction n with
  | zero => intro d h1 h2; omega
  | succ n ih =>
    intro i h1 h2 hI
    by_cases h9 : i = 196
    · subst h9
      refine br_t (nI_le (a := 196) (b := 196) (by decide) (by decide)) (hn fun z => ?_)
      obtain ⟨p, q, hp, hq, k1, k2, k3, k4⟩ := z
      exact hI p q hp hq k1 k2 k3 k4
    · refine br_f (nI_ge (b := 196) (by omega) (by decide)) ⟨10, yh_in ok (by omega) hR hC hrt hch hy (fun hi' => ih (i + 1) (by omega) (by omega) (fun p q hp hq => ?_)) 10 1 (by decide) (by decide) (by decide) (fun e he oe => by omega)⟩
      by_cases z : p = i
      · subst z; exact hi' q hq
      · exact hI p q (by omega) hq
theorem yh_hole {post : Int32 → Prop} {R C : Nat} {w h : Int32} {b rt ch re : Nat → Int32} (ok : cl_ok b) (hR : R < 196) (hC : C < 196) (hrt : ∀ p, p < 196 → rt p = nI (cl_root b p)) (hch : ∀ p, p < 196 → ch p = nI (cl_dep b p))
    (hy : cl_hole b R C → post 1) (hn : ¬ cl_hole b R C → post 0) : wpY_isHole post (w, h, b, rt, ch, re) (nI R) (nI C) :=
  ⟨197, yh_out ok hR hC hrt hch hy hn 197 0 (by decide) (by decide) (fun p q hp => absurd hp (Nat.not_lt_zero p))⟩
/-! what the two count -/
theorem yv_area {post : Int32 → SY → Prop} {C : Nat} {w h : Int32} {b rt ch re : Nat → Int32} (hC : C < 196) (hrt : ∀ p, p < 196 → rt p = nI (cl_root b p)) (H : post (nI (cl_cnt (fun p => cl_root b p = C) 196)) (w, h, b, rt, ch, re)) :
    ∀ n i : Nat, i ≤ 196 → 196 < n + i → wY_area_17 post (nI C) w h b rt ch re n (nI (cl_cnt (fun p => cl_root b p = C) i)) (nI i) := by
  intro n
  induction n with
  | zero => intro i h1 h2; omega
  | succ n ih =>
    intro i h1 h2
    by_cases h9 : i = 196
    · subst h9
      exact br_t (nI_le (a := 196) (b := 196) (by decide) (by decide)) H
    · have hi : i < 196 := by omega
      refine br_f (nI_ge (b := 196) hi (by decide)) ⟨vp_in_nI hi (by decide), ?_⟩
      rw [nI_clamp (Nat.lt_trans hi (by decide)), hrt i hi]
      have := cl_root_lt (b := b) hi
      refine pk_eq (cl_root b i) C (fun e => nm_r (nI_1 _) (nm_r (nI_1 i) ?_)) (fun e => nm_r (nI_1 i) ?_)
      · rw [← cl_cnt_t (P := fun p => cl_root b p = C) e]
        exact ih (i + 1) (by omega) (by omega)
      · rw [← cl_cnt_f (P := fun p => cl_root b p = C) e]
        exact ih (i + 1) (by omega) (by omega)
theorem yv_holes {post : Int32 → SY → Prop} {C : Nat} {w h : Int32} {b rt ch re : Nat → Int32} (ok : cl_ok b) (hC : C < 196) (hrt : ∀ p, p < 196 → rt p = nI (cl_root b p)) (hch : ∀ p, p < 196 → ch p = nI (cl_dep b p)) (H : post (nI (cl_cnt (fun p => cl_fs b 0 p ∧ 1 ≤ p ∧ cl_hole b p C) 196)) (w, h, b, rt, ch, re)) :
    ∀ n i : Nat, 1 ≤ i → i ≤ 196 → 196 < n + i → wY_holes_21 post (nI C) w h b rt ch re n (nI (cl_cnt (fun p => cl_fs b 0 p ∧ 1 ≤ p ∧ cl_hole b p C) i)) (nI i) := by
  intro n
  induction n with
  | zero => intro i _ h1 h2; omega
  | succ n ih =>
    intro i h0 h1 h2
    by_cases h9 : i = 196
    · subst h9
      exact br_t (nI_le (a := 196) (b := 196) (by decide) (by decide)) H
    · have hi : i < 196 := by omega
      have no : ¬ (cl_fs b 0 i ∧ 1 ≤ i ∧ cl_hole b i C) → wY_holes_21 post (nI C) w h b rt ch re n (nI (cl_cnt (fun p => cl_fs b 0 p ∧ 1 ≤ p ∧ cl_hole b p C) i)) (nI (i + 1)) := fun z => by
        rw [← cl_cnt_f (P := fun p => cl_fs b 0 p ∧ 1 ≤ p ∧ cl_hole b p C) z]
        exact ih (i + 1) (by omega) (by omega) (by omega)
      refine br_f (nI_ge (b := 196) hi (by decide)) (yf_first hi hrt (fun f => ?_) (fun f => ?_))
      · refine br_f cl_10 (yh_hole ok hi hC hrt hch (fun k => ?_) (fun k => ?_))
        · refine br_f cl_10 (nm_r (nI_1 _) (nm_r (nI_1 i) ?_))
          rw [← cl_cnt_t (P := fun p => cl_fs b 0 p ∧ 1 ≤ p ∧ cl_hole b p C) ⟨f, h0, k⟩]
          exact ih (i + 1) (by omega) (by omega) (by omega)
        · exact br_t rfl (nm_r (nI_1 i) (no fun z => k z.2.2))
      · exact br_t rfl (nm_r (nI_1 i) (no fun z => f z.1))
theorem yv_encl {post : Int32 → SY → Prop} {C : Nat} {w h : Int32} {b rt ch re : Nat → Int32} {P : Nat → Prop} (hC : C < 196) (hrt : ∀ p, p < 196 → rt p = nI (cl_root b p)) (hP : ∀ p, p < 196 → (P p ↔ re p = 0 ∧ cl_root b p ≠ C)) (H : post (nI (cl_cnt P 196)) (w, h, b, rt, ch, re)) :
    ∀ n i : Nat, i ≤ 196 → 196 < n + i → wY_enclosed_22 post (nI C) w h b rt ch re n (nI (cl_cnt P i)) (nI i) := by
  intro n
  induction n with
  | zero => intro i h1 h2; omega
  | succ n ih =>
    intro i h1 h2
    by_cases h9 : i = 196
    · subst h9
      exact br_t (nI_le (a := 196) (b := 196) (by decide) (by decide)) H
    · have hi : i < 196 := by omega
      have ii : vp_in (nI i) 196 := vp_in_nI hi (by decide)
      have no : ¬ P i → wY_enclosed_22 post (nI C) w h b rt ch re n (nI (cl_cnt P i)) (nI (i + 1)) := fun z => by
        rw [← cl_cnt_f z]
        exact ih (i + 1) (by omega) (by omega)
      refine br_f (nI_ge (b := 196) hi (by decide)) ⟨ii, ?_⟩
      rw [nI_clamp (Nat.lt_trans hi (by decide)), hrt i hi]
      have := cl_root_lt (b := b) hi
      by_cases e : re i = 0
      · refine br_t e ⟨ii, pk_eq (cl_root b i) C (fun e2 => nm_r (nI_1 i) (no fun z => ((hP i hi).mp z).2 e2)) (fun e2 => nm_r (nI_1 _) (nm_r (nI_1 i) ?_))⟩
        rw [← cl_cnt_t ((hP i hi).mpr ⟨e, e2⟩)]
        exact ih (i + 1) (by omega) (by omega)
      · exact br_f e (nm_r (nI_1 i) (no fun z => e ((hP i hi).mp z).1))
theorem yv_around {post : Int32 → SY → Prop} {F A : Nat} {w h : Int32} {b rt ch : Nat → Int32} (ok : cl_ok b) (hF : F < 196) (hA : A < 196) (hrt : ∀ p, p < 196 → rt p = nI (cl_root b p)) (hch : ∀ p, p < 196 → ch p = nI (cl_dep b p))
    (fA : cl_fs b 1 A) (dA : cl_dep b A + 2 = cl_dep b F) (cut : ¬ cl_rc (cl_av b A) 0 F) (free : ∀ z, z < 196 → cl_fs b 1 z → cl_dep b z + 2 = cl_dep b F → z ≠ A → cl_rc (cl_av b z) 0 F)
    (H : ∀ re, post (nI (cl_cnt (cl_fs b 1) A)) (w, h, b, rt, ch, re)) :
    ∀ (n i : Nat) (re : Nat → Int32), i ≤ A → A < n + i → wY_around_18 post (nI F) n (nI i) w h b rt ch re := by
  intro n
  induction n with
  | zero => intro i re h1 h2; omega
  | succ n ih =>
    intro i re h1 h2
    have hi : i < 196 := by omega
    have go : ∀ re, i ≠ A → wY_around_18 post (nI F) n (nI (i + 1)) w h b rt ch re := fun re z => ih (i + 1) re (by omega) (by omega)
    refine br_f (nI_ge (b := 196) hi (by decide)) (yf_first hi hrt (fun f => ?_) (fun f => ?_))
    · have iF : vp_in (nI F) 196 := vp_in_nI hF (by decide)
      refine br_f cl_10 ⟨vp_in_nI hi (by decide), iF, ?_⟩
      rw [nI_clamp (Nat.lt_trans hi (by decide)), nI_clamp (Nat.lt_trans hF (by decide)), hch i hi, hch F hF]
      have l3 := cl_dep_13 ok hi
      have l4 := cl_dep_13 ok hF
      by_cases e : cl_dep b i + 2 = cl_dep b F
      · refine br_t ((cl_dm2 (by omega) (by omega)).mpr e) (ye_find hi hrt (fun re' hre => ⟨iF, ?_⟩))
        by_cases z : i = A
        · subst z
          exact br_t (Classical.byContradiction fun y => cut ((hre F hF).mp y)) (yf_count (by omega) hrt (H re'))
        · exact br_f ((hre F hF).mpr (free i hi f e z)) (nm_r (nI_1 i) (go re' z))
      · exact br_f (fun z => e ((cl_dm2 (by omega) (by omega)).mp z)) (nm_r (nI_1 i) (go re fun z => e (z ▸ dA)))
    · exact br_t rfl (nm_r (nI_1 i) (go re fun z => f (z ▸ fA)))
theorem yv_none {post : Int32 → SY → Prop} {F : Nat} {w h : Int32} {b rt ch re : Nat → Int32} (ok : cl_ok b) (hF : F < 196) (hrt : ∀ p, p < 196 → rt p = nI (cl_root b p)) (hch : ∀ p, p < 196 → ch p = nI (cl_dep b p)) (dF : cl_dep b F = 1)
    (H : post (-2) (w, h, b, rt, ch, re)) :
    ∀ (n i : Nat), i ≤ 196 → 196 < n + i → wY_around_18 post (nI F) n (nI i) w h b rt ch re := by
  intro n
  induction n with
  | zero => intro i h1 h2; omega
  | succ n ih =>
    intro i h1 h2
    by_cases h9 : i = 196
    · subst h9
      exact br_t (nI_le (a := 196) (b := 196) (by decide) (by decide)) H
    · have hi : i < 196 := by omega
      refine br_f (nI_ge (b := 196) hi (by decide)) (yf_first hi hrt (fun f => ?_) (fun f => ?_))
      · refine br_f cl_10 ⟨vp_in_nI hi (by decide), vp_in_nI hF (by decide), ?_⟩
        rw [nI_clamp (Nat.lt_trans hi (by decide)), nI_clamp (Nat.lt_trans hF (by decide)), hch i hi, hch F hF]
        have l3 := cl_dep_13 ok hi
        have l4 := cl_dep_13 ok hF
        refine br_f (fun z => ?_) (nm_r (nI_1 i) (ih (i + 1) (by omega) (by omega)))
        have := (cl_dm2 (by omega) (by omega)).mp z
        omega
      · exact br_t rfl (nm_r (nI_1 i) (ih (i + 1) (by omega) (by omega)))
end
section
/-! the component's questions -/
theorem xc_in {post : Int32 → Prop} {k f_width f_height cc rn : Int32} {b cs rs pn da on q al re : Nat → Int32} {p : Nat} (hp : p < 196) (h1 : b p ≠ 0 ∧ pn p = k → post 1) (h0 : ¬ (b p ≠ 0 ∧ pn p = k) → post 0) : wpX_inComponent post (f_width, f_height, cc, rn, b, cs, rs, pn, da, on, q, al, re) (nI p) k := by
  have ip : vp_in (nI p) 196 := vp_in_nI hp (by decide)
  refine ⟨ip, ?_⟩
  rw [nI_clamp (Nat.lt_trans hp (by decide))]
  by_cases e : b p = 0
  · exact br_t e (h0 fun z => z.1 e)
  · refine br_f e ⟨ip, ?_⟩
    by_cases e2 : pn p = k
    · exact br_t e2 (h1 ⟨e, e2⟩)
    · exact br_f e2 (h0 fun z => e2 z.2)
/-- place p is in component k, whose first place is C -/
theorem cl_inc {b : Nat → Int32} {cc rn : Int32} {cs rs pn : Nat → Int32} (ok : cl_ok b) (hN : cl_N b 196 cc rn cs rs pn) {C p : Nat} (hC : C < 196) (fC : cl_fs b 1 C) (hp : p < 196) : (b p ≠ 0 ∧ pn p = nI (cl_cnt (cl_fs b 1) C)) ↔ cl_root b p = C := by
  have e := hN.2.2.2.2.1 p hp (cl_root_lt hp)
  rw [e]
  constructor
  · intro ⟨z, y⟩
    have b1 : b p = 1 := (ok.1 p).resolve_left z
    rw [b1] at y
    have y2 := (nI_eq (cl_c196 _ (Nat.le_of_lt (cl_root_lt hp))) (cl_c196 _ (Nat.le_of_lt hC))).mp y
    exact cl_cnt_inj ⟨(cl_root_c b p).trans b1, cl_root_i b p⟩ fC y2
  · intro z
    have b1 : b p = 1 := by rw [← cl_root_c b p, z]; exact fC.1
    exact ⟨by rw [b1]; exact cl_10, by rw [b1, z]⟩
theorem xq_area {post : Int32 → Prop} {C : Nat} {f_width f_height cc rn : Int32} {b cs rs pn da on q al re : Nat → Int32} (ok : cl_ok b) (hN : cl_N b 196 cc rn cs rs pn) (hC : C < 196) (fC : cl_fs b 1 C) (H : post (nI (cl_cnt (fun p => cl_root b p = C) 196))) :
    ∀ n i : Nat, i ≤ 196 → 196 < n + i → wX_area_14 post (nI (cl_cnt (cl_fs b 1) C)) f_width f_height cc rn b cs rs pn da on q al re n (nI (cl_cnt (fun p => cl_root b p = C) i)) (nI i) := by
  intro n
  induction n with
  | zero => intro i h1 h2; omega
  | succ n ih =>
    intro i h1 h2
    by_cases h9 : i = 196
    · subst h9
      exact br_t (nI_le (a := 196) (b := 196) (by decide) (by decide)) H
    · have hi : i < 196 := by omega
      refine br_f (nI_ge (b := 196) hi (by decide)) (xc_in hi (fun e => ?_) (fun e => ?_))
      · refine br_f cl_10 (nm_r (nI_1 _) (nm_r (nI_1 i) ?_))
        rw [← cl_cnt_t (P := fun p => cl_root b p = C) ((cl_inc ok hN hC fC hi).mp e)]
        exact ih (i + 1) (by omega) (by omega)
      · refine br_t rfl (nm_r (nI_1 i) ?_)
        rw [← cl_cnt_f (P := fun p => cl_root b p = C) (fun z => e ((cl_inc ok hN hC fC hi).mpr z))]
        exact ih (i + 1) (by omega) (by omega)
/-! holes: by the number of the region, by its first place -/
theorem cl_cnt_ix {P G : Nat → Prop} : ∀ n, cl_cnt (fun j => ∃ r, r < n ∧ P r ∧ cl_cnt P r = j ∧ G r) (cl_cnt P n) = cl_cnt (fun p => P p ∧ G p) n := by
  intro n
  induction n with
  | zero => rfl
  | succ n ih =>
    by_cases h : P n
    · rw [cl_cnt_t h]
      have e : cl_cnt (fun j => ∃ r, r < n + 1 ∧ P r ∧ cl_cnt P r = j ∧ G r) (cl_cnt P n) = cl_cnt (fun j => ∃ r, r < n ∧ P r ∧ cl_cnt P r = j ∧ G r) (cl_cnt P n) :=
        cl_cnt_c fun j hj => ⟨fun ⟨r, a, c, d, g⟩ => ⟨r, by
          by_cases z : r = n
          · subst z; omega
          · omega, c, d, g⟩, fun ⟨r, a, c, d, g⟩ => ⟨r, by omega, c, d, g⟩⟩
      by_cases g : G n
      · rw [cl_cnt_t (P := fun p => P p ∧ G p) ⟨h, g⟩, cl_cnt_t (P := fun j => ∃ r, r < n + 1 ∧ P r ∧ cl_cnt P r = j ∧ G r) ⟨n, by omega, h, rfl, g⟩, e, ih]
      · rw [cl_cnt_f (P := fun p => P p ∧ G p) (fun z => g z.2), cl_cnt_f (P := fun j => ∃ r, r < n + 1 ∧ P r ∧ cl_cnt P r = j ∧ G r) (fun ⟨r, a, c, d, k⟩ => g (cl_cnt_inj c h d ▸ k)), e, ih]
    · rw [cl_cnt_f h, cl_cnt_f (P := fun p => P p ∧ G p) (fun z => h z.1), ← ih]
      exact cl_cnt_c fun j hj => ⟨fun ⟨r, a, c, d, g⟩ => ⟨r, by
          by_cases z : r = n
          · subst z; exact absurd c h
          · omega, c, d, g⟩, fun ⟨r, a, c, d, g⟩ => ⟨r, by omega, c, d, g⟩⟩
theorem cl_f00 {b : Nat → Int32} (ok : cl_ok b) : cl_fs b 0 0 := ⟨ok.2 0 (by decide), Nat.le_zero.mp (cl_root_self b 0)⟩
/-- a region that isn't the outer one is a hole of the component in which its outer neighbour lies -/
theorem cl_hol {b : Nat → Int32} {on : Nat → Int32} (ok : cl_ok b) {r C : Nat} (hr : r < 196) (r1 : 1 ≤ r) (fr : cl_fs b 0 r) {o : Nat} (ho : o < 196) (hd : cl_dep b r ≠ 0 → cl_dep b o + 1 = cl_dep b r ∧ ∃ p', p' < 196 ∧ cl_root b r = cl_root b p' ∧ gp_bs p' o) : cl_root b o = C ↔ cl_hole b r C := by
  have d0 : cl_dep b r ≠ 0 := fun z => by
    rcases cl_dep_d ok hr with ⟨_, k⟩ | ⟨_, _, _, _, _, _, k⟩
    · rw [(cl_f00 ok).2, fr.2] at k
      omega
    · omega
  obtain ⟨d1, p', hp', rp, bo⟩ := hd d0
  have dp := cl_dep_rt ok rp
  constructor
  · intro e
    exact ⟨p', o, hp', ho, bo, by rw [← rp]; exact fr.2, e, by omega⟩
  · intro ⟨p, q, hp, hq, bq, e1, e2, dq⟩
    have rr : cl_root b p = cl_root b p' := by rw [e1, ← rp]; exact fr.2.symm
    have dpp := cl_dep_rt ok rr
    exact (cl_uni ok hp hp' hq ho rr bq bo dq (by omega)).symm.trans e2
theorem xq_holes {post : Int32 → Prop} {C : Nat} {f_width f_height cc rn : Int32} {b cs rs pn da on q al re : Nat → Int32} (ok : cl_ok b) (hN : cl_N b 196 cc rn cs rs pn) (hO : ∀ p, p < 196 → cl_o b on p) (hC : C < 196) (fC : cl_fs b 1 C) (H : post (nI (cl_cnt (fun p => cl_fs b 0 p ∧ 1 ≤ p ∧ cl_hole b p C) 196))) :
    ∀ n j : Nat, 1 ≤ j → j ≤ cl_cnt (cl_fs b 0) 196 → cl_cnt (cl_fs b 0) 196 < n + j → wX_holes_14 post (nI (cl_cnt (cl_fs b 1) C)) f_width f_height cc rn b cs rs pn da on q al re n (nI (cl_cnt (fun j => ∃ r, r < 196 ∧ cl_fs b 0 r ∧ cl_cnt (cl_fs b 0) r = j ∧ 1 ≤ r ∧ cl_hole b r C) j)) (nI j) := by
  intro n
  have e2 := hN.2.1
  have l2 := cl_cnt_le (cl_fs b 0) 196
  induction n with
  | zero => intro j _ h1 h2; omega
  | succ n ih =>
    intro j h0 h1 h2
    by_cases h9 : j = cl_cnt (cl_fs b 0) 196
    · refine br_t (by rw [e2]; exact nI_le (by omega) (by omega)) ?_
      rw [h9, cl_cnt_ix (P := cl_fs b 0) (G := fun r => 1 ≤ r ∧ cl_hole b r C) 196]
      exact H
    · have hj : j < cl_cnt (cl_fs b 0) 196 := by omega
      obtain ⟨r, hr, fr, er⟩ := cl_cnt_ex hj
      have r1 : 1 ≤ r := Nat.one_le_iff_ne_zero.mpr fun z => by
        subst z
        rw [cl_cnt_0] at er
        omega
      have ers := hN.2.2.2.1 r hr fr
      rw [er] at ers
      obtain ⟨o, ho, eo, hd⟩ := hO r hr
      have key := cl_hol (on := on) (C := C) ok hr r1 fr ho hd
      have uq : (∃ r, r < 196 ∧ cl_fs b 0 r ∧ cl_cnt (cl_fs b 0) r = j ∧ 1 ≤ r ∧ cl_hole b r C) ↔ cl_hole b r C := ⟨fun ⟨r', a, c, d, _, k⟩ => cl_cnt_inj c fr (d.trans er.symm) ▸ k, fun k => ⟨r, hr, fr, er, r1, k⟩⟩
      refine br_f (by rw [e2]; exact nI_ge hj (by omega)) ⟨vp_in_nI (by omega) (by decide), ?_⟩
      rw [nI_clamp (by omega), ers]
      refine ⟨vp_in_nI hr (by decide), ?_⟩
      rw [nI_clamp (Nat.lt_trans hr (by decide))]
      refine nm_r eo (xc_in ho (fun e => ?_) (fun e => ?_))
      · refine br_f cl_10 (nm_r (nI_1 _) (nm_r (nI_1 j) ?_))
        rw [← cl_cnt_t (P := fun j => ∃ r, r < 196 ∧ cl_fs b 0 r ∧ cl_cnt (cl_fs b 0) r = j ∧ 1 ≤ r ∧ cl_hole b r C) (uq.mpr (key.mp ((cl_inc ok hN hC fC ho).mp e)))]
        exact ih (j + 1) (by omega) (by omega) (by omega)
      · refine br_t rfl (nm_r (nI_1 j) ?_)
        rw [← cl_cnt_f (P := fun j => ∃ r, r < 196 ∧ cl_fs b 0 r ∧ cl_cnt (cl_fs b 0) r = j ∧ 1 ≤ r ∧ cl_hole b r C) (fun z => e ((cl_inc ok hN hC fC ho).mpr (key.mpr (uq.mp z))))]
        exact ih (j + 1) (by omega) (by omega) (by omega)
/-! enclosed -/
theorem cl_alone {b al : Nat → Int32} {C : Nat} (ok : cl_ok b) (fC : cl_fs b 1 C) (h : ∀ p, p < 196 → (al p = 0 ↔ cl_root b p ≠ C)) {p : Nat} : cl_rc (cl_st al) 0 p ↔ cl_rc (cl_av b C) 0 p := by
  have a0 : al 0 = 0 := (h 0 (by decide)).mpr fun z => by
    have := cl_root_c b 0
    rw [z, fC.1, ok.2 0 (by decide)] at this
    exact cl_10 this
  constructor
  · intro k
    refine (k (fun x => al x = 0 ∧ cl_rc (cl_av b C) 0 x) ⟨a0, cl_rc_r _ 0⟩ (fun u v i e => ?_)).2
    have av : al v = 0 := e.2.2.1.symm.trans i.1
    exact ⟨av, cl_rc_s i.2 ⟨e.1, e.2.1, e.2.2.2.resolve_right (fun z => z.1 i.1), (h v e.2.1).mp av⟩⟩
  · intro k
    refine (k (fun x => al x = 0 ∧ cl_rc (cl_st al) 0 x) ⟨a0, cl_rc_r _ 0⟩ (fun u v i e => ?_)).2
    have av : al v = 0 := (h v e.2.1).mpr e.2.2.2
    exact ⟨av, cl_rc_s i.2 ⟨e.1, e.2.1, i.1.trans av.symm, Or.inl e.2.2.1⟩⟩
theorem xe_cnt {post : Int32 → SX → Prop} {f_width f_height cc rn : Int32} {b cs rs pn da on q al re : Nat → Int32} {P : Nat → Prop} (hP : ∀ p, p < 196 → (P p ↔ al p = 0 ∧ re p = -1)) (H : post (nI (cl_cnt P 196)) (f_width, f_height, cc, rn, b, cs, rs, pn, da, on, q, al, re)) :
    ∀ n i : Nat, i ≤ 196 → 196 < n + i → wX_enclosed_62 post f_width f_height cc rn b cs rs pn da on q al re n (nI (cl_cnt P i)) (nI i) := by
  intro n
  induction n with
  | zero => intro i h1 h2; omega
  | succ n ih =>
    intro i h1 h2
    by_cases h9 : i = 196
    · subst h9
      exact br_t (nI_le (a := 196) (b := 196) (by decide) (by decide)) H
    · have hi : i < 196 := by omega
      have ii : vp_in (nI i) 196 := vp_in_nI hi (by decide)
      have no : ¬ P i → wX_enclosed_62 post f_width f_height cc rn b cs rs pn da on q al re n (nI (cl_cnt P i)) (nI (i + 1)) := fun z => by
        rw [← cl_cnt_f z]
        exact ih (i + 1) (by omega) (by omega)
      refine br_f (nI_ge (b := 196) hi (by decide)) ⟨ii, ?_⟩
      rw [nI_clamp (Nat.lt_trans hi (by decide))]
      by_cases e : al i = 0
      · refine br_t e ⟨ii, ?_⟩
        by_cases e2 : re i = -1
        · refine br_t e2 (nm_r (nI_1 _) (nm_r (nI_1 i) ?_))
          rw [← cl_cnt_t ((hP i hi).mpr ⟨e, e2⟩)]
          exact ih (i + 1) (by omega) (by omega)
        · exact br_f e2 (nm_r (nI_1 i) (no fun z => e2 ((hP i hi).mp z).2))
      · exact br_f e (nm_r (nI_1 i) (no fun z => e ((hP i hi).mp z).1))
theorem xe_loop {post : Int32 → SX → Prop} {C : Nat} {f_width f_height cc rn : Int32} {b cs rs pn da on q re : Nat → Int32} (ok : cl_ok b) (hN : cl_N b 196 cc rn cs rs pn) (hC : C < 196) (fC : cl_fs b 1 C)
    (H : ∀ q al re, post (nI (cl_cnt (fun p => ¬ cl_rc (cl_av b C) 0 p ∧ cl_root b p ≠ C) 196)) (f_width, f_height, cc, rn, b, cs, rs, pn, da, on, q, al, re)) :
    ∀ (n i : Nat) (al : Nat → Int32), i ≤ 196 → 196 < n + i → (∀ p, p < i → (al p = 0 ↔ cl_root b p ≠ C)) → wX_enclosed_12 post (nI (cl_cnt (cl_fs b 1) C)) f_width f_height cc rn n (nI i) b cs rs pn da on q al re := by
  intro n
  induction n with
  | zero => intro i al h1 h2; omega
  | succ n ih =>
    intro i al h1 h2 hI
    by_cases h9 : i = 196
    · subst h9
      refine br_t (nI_le (a := 196) (b := 196) (by decide) (by decide)) (xu_reached (fun re1 e1 => ?_))
      refine xm_alone_reached (s := 0) (k := nI 0) (by decide) (cl_nm1 (by decide)) (fun p r => e1 p (cl_pt_lt (by decide) r)) (fun re2 q2 m1 m2 => ?_)
      refine ⟨197, xe_cnt (P := fun p => ¬ cl_rc (cl_av b C) 0 p ∧ cl_root b p ≠ C) (fun p hp => ?_) (H q2 al re2) 197 0 (by decide) (by decide)⟩
      rw [hI p hp, ← cl_alone ok fC hI]
      refine ⟨fun z => ⟨z.2, (m2 p z.1).trans (e1 p hp)⟩, fun z => ⟨fun y => ?_, z.1⟩⟩
      have := (m1 p y).symm.trans z.2
      exact cl_nm1 (by decide) this
    · have hi : i < 196 := by omega
      have ii : vp_in (nI i) 196 := vp_in_nI hi (by decide)
      have ci : (nI i).toNatClampNeg = i := nI_clamp (Nat.lt_trans hi (by decide))
      refine br_f (nI_ge (b := 196) hi (by decide)) (xc_in hi (fun e => ⟨ii, nm_r (congrArg (fun z => upd al z 1) ci) (nm_r (nI_1 i) (ih (i + 1) _ (by omega) (by omega) (fun p hp => ?_)))⟩) (fun e => ⟨ii, nm_r (congrArg (fun z => upd al z 0) ci) (nm_r (nI_1 i) (ih (i + 1) _ (by omega) (by omega) (fun p hp => ?_)))⟩))
      · by_cases z : p = i
        · subst z
          rw [pk_us]
          exact ⟨fun y => absurd y cl_10, fun y => absurd ((cl_inc ok hN hC fC hi).mp e) y⟩
        · rw [pk_un z]; exact hI p (by omega)
      · by_cases z : p = i
        · subst z
          rw [pk_us]
          exact ⟨fun _ y => e ((cl_inc ok hN hC fC hi).mpr y), fun _ => rfl⟩
        · rw [pk_un z]; exact hI p (by omega)
end
section
/-! the relation and the owed statements -/
theorem xp_in {w h : Int32} {W H : Nat} (hW : W ≤ 12) (hH : H ≤ 12) (ew : w = nI W) (eh : h = nI H) (cc rn : Int32) (b cs rs pn da on q al re rt ch re2 : Nat → Int32) (p0 p1 : Int32) :
    (∃ x y, x < W ∧ y < H ∧ p0 = nI x ∧ p1 = nI y ∧ (∀ post : Int32 → Prop, post 1 → wpX_inPicture post (w, h, cc, rn, b, cs, rs, pn, da, on, q, al, re) p0 p1) ∧ (∀ post : Int32 → Prop, post 1 → wpY_inside post (w, h, b, rt, ch, re2) p0 p1)) ∨
    ((∀ post : Int32 → Prop, post 0 → wpX_inPicture post (w, h, cc, rn, b, cs, rs, pn, da, on, q, al, re) p0 p1) ∧ (∀ post : Int32 → Prop, post 0 → wpY_inside post (w, h, b, rt, ch, re2) p0 p1)) := by
  subst ew eh
  rcases pk_ix p0 (n := W) (by omega) with h0 | h0 | ⟨x, hx, rfl⟩
  · exact Or.inr ⟨fun _ k => br_t h0 k, fun _ k => br_t h0 k⟩
  · have n0 : ¬ p0 < 0 := Int32.not_lt.mpr (Int32.le_trans (nI_pos' (by omega)) h0)
    exact Or.inr ⟨fun _ k => br_f n0 (br_t h0 k), fun _ k => br_f n0 (br_t h0 k)⟩
  · have n0 : ¬ nI x < 0 := nI_pos (by omega)
    have n1 : ¬ nI W ≤ nI x := nI_ge hx (by omega)
    rcases pk_ix p1 (n := H) (by omega) with h1 | h1 | ⟨y, hy, rfl⟩
    · exact Or.inr ⟨fun _ k => br_f n0 (br_f n1 (br_t h1 k)), fun _ k => br_f n0 (br_f n1 (br_t h1 k))⟩
    · have n2 : ¬ p1 < 0 := Int32.not_lt.mpr (Int32.le_trans (nI_pos' (by omega)) h1)
      exact Or.inr ⟨fun _ k => br_f n0 (br_f n1 (br_f n2 (br_t h1 k))), fun _ k => br_f n0 (br_f n1 (br_f n2 (br_t h1 k)))⟩
    · have n2 : ¬ nI y < 0 := nI_pos (by omega)
      have n3 : ¬ nI H ≤ nI y := nI_ge hy (by omega)
      exact Or.inl ⟨x, y, hx, hy, rfl, rfl, fun _ k => br_f n0 (br_f n1 (br_f n2 (br_f n3 k))), fun _ k => br_f n0 (br_f n1 (br_f n2 (br_f n3 k)))⟩
theorem xp_pl (x y : Nat) : (((nI y + 1) * 14) + nI x) + 1 = nI ((y + 1) * 14 + x + 1) := by
  rw [nI_1, show nI (y + 1) * 14 = nI ((y + 1) * 14) from pk_mul (y + 1) 14, nI_add, nI_1]
theorem yp_pl (x y : Nat) : ((14 * (nI y + 1)) + nI x) + 1 = nI ((y + 1) * 14 + x + 1) := by
  rw [nI_1, show 14 * nI (y + 1) = nI (14 * (y + 1)) from pk_mul 14 (y + 1), nI_add, nI_1, Nat.mul_comm 14 (y + 1)]
theorem cl_ok_u {b : Nat → Int32} (ok : cl_ok b) {p : Nat} {z : Int32} (hp : 14 ≤ p) (hz : z = 0 ∨ z = 1) : cl_ok (upd b p z) := by
  refine ⟨fun j => ?_, fun j hj => ?_⟩
  · by_cases e : j = p
    · rw [e, pk_us]; exact hz
    · rw [pk_un e]; exact ok.1 j
  · rw [pk_un (by omega)]; exact ok.2 j hj
/-- the two pictures are one; the component has surveyed it -/
def i_Rel (_ : Nat) (u : SX) (v : SY) : Prop := ∃ (w h cc rn : Int32) (b cs rs pn da on q al re rt ch re2 : Nat → Int32) (W H : Nat), W ≤ 12 ∧ H ≤ 12 ∧ w = nI W ∧ h = nI H ∧ cl_ok b ∧ cl_X b cc rn cs rs pn da on ∧ u = (w, h, cc, rn, b, cs, rs, pn, da, on, q, al, re) ∧ v = (w, h, b, rt, ch, re2)
theorem i_up {k : Nat} {u : SX} {v : SY} (h : i_Rel k u v) : i_Rel (k + 5) u v := h
theorem xk_clamp (k : Int32) : ∃ W, W ≤ 12 ∧ (∀ post : Int32 → Prop, post (nI W) → wpX_clampSide post k) ∧ (∀ (A : Int32 → Prop), A (nI W) → ((2 ≤ k → ((k ≤ 12 → A k) ∧ (¬ k ≤ 12 → A 12))) ∧ (¬ 2 ≤ k → A 2))) := by
  by_cases h2 : 2 ≤ k
  · by_cases h12 : k ≤ 12
    · obtain ⟨j, hj, rfl⟩ := nI_of2 (x := k) (M := 12) (n := 12) (by decide) (Int32.not_lt.mpr (Int32.le_trans (by decide) h2)) h12
      exact ⟨j, hj, fun _ p => br_t h2 (br_t h12 p), fun _ p => br_t h2 (br_t h12 p)⟩
    · exact ⟨12, by decide, fun _ p => br_t h2 (br_f h12 p), fun _ p => br_t h2 (br_f h12 p)⟩
  · exact ⟨2, by decide, fun _ p => br_f h2 p, fun _ p => br_f h2 p⟩
theorem i_vc0 (k0 : Int32) (k1 : Int32) : wpX_init (fun u => wpY_init (fun v => i_Rel 2 u v) k0 k1) k0 k1 := by
  obtain ⟨W, hW, c1, c2⟩ := xk_clamp k0
  obtain ⟨H, hH, d1, d2⟩ := xk_clamp k1
  unfold wpX_init
  refine c1 _ (d1 _ ?_)
  have ok : cl_ok (fun _ => 0) := ⟨fun _ => Or.inl rfl, fun _ _ => rfl⟩
  refine xs_survey ok (fun cc rn cs rs pn da on q hX => ?_)
  refine c2 (fun z => wY_init_62 (fun v => i_Rel 2 (nI W, nI H, cc, rn, fun _ => 0, cs, rs, pn, da, on, q, fun _ => 0, fun _ => 0) v) k1 z 0 0 (fun _ => 0) (fun _ => 0) (fun _ => 0) (fun _ => 0)) ?_
  exact d2 (fun z => i_Rel 2 (nI W, nI H, cc, rn, fun _ => 0, cs, rs, pn, da, on, q, fun _ => 0, fun _ => 0) (nI W, z, fun _ => 0, fun _ => 0, fun _ => 0, fun _ => 0)) ⟨_, _, _, _, _, _, _, _, _, _, _, _, _, _, _, _, W, H, hW, hH, rfl, rfl, ok, hX, rfl, rfl⟩
theorem i_vc_set {k : Nat} {u : SX} {v : SY} (I : i_Rel k u v) (hk : k + 5 ≤ 2562) (v1 : Int32) (v2 : Int32) (v3 : Int32) : wpX_set (fun r u' => wpY_set (fun r' v' => r' = r ∧ i_Rel (k + 5) u' v') v v1 v2 (lw_bz v3)) u v1 v2 (lw_bz v3) := by
  obtain ⟨w, h, cc, rn, b, cs, rs, pn, da, on, q, al, re, rt, ch, re2, W, H, hW, hH, ew, eh, ok, hX, rfl, rfl⟩ := I
  unfold wpX_set
  rcases xp_in hW hH ew eh cc rn b cs rs pn da on q al re rt ch re2 v1 v2 with ⟨x, y, hx, hy, rfl, rfl, PX, PY⟩ | ⟨PX, PY⟩
  · refine PX _ (br_f cl_10 ?_)
    unfold wpX_placeOf
    have hp : (y + 1) * 14 + x + 1 < 196 := by omega
    rw [xp_pl, cl_vz]
    refine ⟨vp_in_nI hp (by decide), ?_⟩
    rw [nI_clamp (Nat.lt_trans hp (by decide))]
    have ok' : cl_ok (upd b ((y + 1) * 14 + x + 1) (lw_bz v3)) := cl_ok_u ok (by omega) (lw_bz_01 v3)
    refine nm_e (xs_survey ok' (fun cc rn cs rs pn da on q hX' => ?_))
    unfold wpY_set
    refine PY _ (br_f cl_10 ?_)
    unfold wpY_place
    rw [yp_pl, cl_vz]
    refine ⟨vp_in_nI hp (by decide), ?_⟩
    rw [nI_clamp (Nat.lt_trans hp (by decide))]
    exact nm_e ⟨rfl, _, _, _, _, _, _, _, _, _, _, _, _, _, _, _, _, W, H, hW, hH, ew, eh, ok', hX', rfl, rfl⟩
  · refine PX _ (br_t rfl ?_)
    unfold wpY_set
    exact PY _ (br_t rfl ⟨rfl, _, _, _, _, _, _, _, _, _, _, _, _, _, _, _, _, W, H, hW, hH, ew, eh, ok, hX, rfl, rfl⟩)
theorem xv_row {w h cc rn : Int32} {cs rs pn da on q al re rt ch re2 : Nat → Int32} {x2 x4 : Int32} {x a j : Nat} (hj : j < 12) (he : x + a ≤ 12) :
    ∀ (d i : Nat) (b : Nat → Int32), i + d = x + a → cl_ok b → ∃ b', cl_ok b' ∧
      (∀ (post : Int32 → SX → Prop) (J : Int32 → (Nat → Int32) → (Nat → Int32) → (Nat → Int32) → (Nat → Int32) → (Nat → Int32) → (Nat → Int32) → (Nat → Int32) → (Nat → Int32) → (Nat → Int32) → Prop), J (nI (j + 1)) b' cs rs pn da on q al re → wX_invert_60 post J (nI x) x2 (nI a) x4 (nI j) w h cc rn (d + 1) (nI i) b cs rs pn da on q al re) ∧
      (∀ (post : Int32 → SY → Prop) (J : Int32 → (Nat → Int32) → (Nat → Int32) → (Nat → Int32) → (Nat → Int32) → Prop), J (nI (j + 1)) b' rt ch re2 → wY_invert_58 post J (nI x) x2 (nI a) x4 (nI j) w h (d + 1) (nI i) b rt ch re2) := by
  intro d
  induction d with
  | zero =>
    intro i b hi ok
    have le : nI x + nI a ≤ nI i := by rw [nI_add]; exact nI_le (by omega) (by omega)
    exact ⟨b, ok, fun post J hJ => br_t le (nm_r (nI_1 j) hJ), fun post J hJ => br_t le (nm_r (nI_1 j) hJ)⟩
  | succ d ih =>
    intro i b hi ok
    have le : ¬ nI x + nI a ≤ nI i := by rw [nI_add]; exact nI_ge (by omega) (by omega)
    have hp : (j + 1) * 14 + i + 1 < 196 := by omega
    have ip : vp_in (nI ((j + 1) * 14 + i + 1)) 196 := vp_in_nI hp (by decide)
    have cp : (nI ((j + 1) * 14 + i + 1)).toNatClampNeg = (j + 1) * 14 + i + 1 := nI_clamp (Nat.lt_trans hp (by decide))
    by_cases z : b ((j + 1) * 14 + i + 1) = 0
    · obtain ⟨b', ok', HX, HY⟩ := ih (i + 1) (upd b ((j + 1) * 14 + i + 1) 1) (by omega) (cl_ok_u ok (by omega) (Or.inr rfl))
      refine ⟨b', ok', fun post J hJ => br_f le ?_, fun post J hJ => br_f le ?_⟩
      · unfold wpX_placeOf
        rw [xp_pl]
        refine ⟨ip, ?_⟩
        rw [cp]
        exact br_t z ⟨ip, nm_e (nm_r (nI_1 i) (HX post J hJ))⟩
      · unfold wpY_place
        rw [yp_pl]
        refine ⟨ip, ?_⟩
        rw [cp]
        exact br_t z ⟨ip, nm_e (nm_r (nI_1 i) (HY post J hJ))⟩
    · obtain ⟨b', ok', HX, HY⟩ := ih (i + 1) (upd b ((j + 1) * 14 + i + 1) 0) (by omega) (cl_ok_u ok (by omega) (Or.inl rfl))
      refine ⟨b', ok', fun post J hJ => br_f le ?_, fun post J hJ => br_f le ?_⟩
      · unfold wpX_placeOf
        rw [xp_pl]
        refine ⟨ip, ?_⟩
        rw [cp]
        exact br_f z ⟨ip, nm_e (nm_r (nI_1 i) (HX post J hJ))⟩
      · unfold wpY_place
        rw [yp_pl]
        refine ⟨ip, ?_⟩
        rw [cp]
        exact br_f z ⟨ip, nm_e (nm_r (nI_1 i) (HY post J hJ))⟩
theorem xv_all {w h cc rn : Int32} {cs rs pn da on q al re rt ch re2 : Nat → Int32} {x a y c : Nat} (he : x + a ≤ 12) (hf : y + c ≤ 12) :
    ∀ (d j : Nat) (b : Nat → Int32), j + d = y + c → cl_ok b → ∃ b', cl_ok b' ∧
      (∀ (post : Int32 → SX → Prop), (∀ (cc rn : Int32) (cs rs pn da on q : Nat → Int32), cl_X b' cc rn cs rs pn da on → post 1 (w, h, cc, rn, b', cs, rs, pn, da, on, q, al, re)) → wX_invert_48 post (nI x) (nI y) (nI a) (nI c) w h cc rn (d + 1) (nI j) b cs rs pn da on q al re) ∧
      (∀ (post : Int32 → SY → Prop), post 1 (w, h, b', rt, ch, re2) → wY_invert_46 post (nI x) (nI y) (nI a) (nI c) w h (d + 1) (nI j) b rt ch re2) := by
  intro d
  induction d with
  | zero =>
    intro j b hj ok
    have le : nI y + nI c ≤ nI j := by rw [nI_add]; exact nI_le (by omega) (by omega)
    exact ⟨b, ok, fun post hJ => br_t le (xs_survey ok hJ), fun post hJ => br_t le hJ⟩
  | succ d ih =>
    intro j b hj ok
    have le : ¬ nI y + nI c ≤ nI j := by rw [nI_add]; exact nI_ge (by omega) (by omega)
    obtain ⟨b1, ok1, RX, RY⟩ := xv_row (w := w) (h := h) (cc := cc) (rn := rn) (cs := cs) (rs := rs) (pn := pn) (da := da) (on := on) (q := q) (al := al) (re := re) (rt := rt) (ch := ch) (re2 := re2) (x2 := nI y) (x4 := nI c) (j := j) (by omega) he a x b rfl ok
    obtain ⟨b', ok', HX, HY⟩ := ih (j + 1) b1 (by omega) ok1
    exact ⟨b', ok', fun post hJ => br_f le ⟨a + 1, RX post _ (HX post hJ)⟩, fun post hJ => br_f le ⟨a + 1, RY post _ (HY post hJ)⟩⟩
theorem i_vc_invert {k : Nat} {u : SX} {v : SY} (I : i_Rel k u v) (hk : k + 5 ≤ 2562) (v1 : Int32) (v2 : Int32) (v3 : Int32) (v4 : Int32) : wpX_invert (fun r u' => wpY_invert (fun r' v' => r' = r ∧ i_Rel (k + 5) u' v') v v1 v2 v3 v4) u v1 v2 v3 v4 := by
  obtain ⟨w, h, cc, rn, b, cs, rs, pn, da, on, q, al, re, rt, ch, re2, W, H, hW, hH, ew, eh, ok, hX, rfl, rfl⟩ := I
  have R : i_Rel (k + 5) (w, h, cc, rn, b, cs, rs, pn, da, on, q, al, re) (w, h, b, rt, ch, re2) := ⟨_, _, _, _, _, _, _, _, _, _, _, _, _, _, _, _, W, H, hW, hH, ew, eh, ok, hX, rfl, rfl⟩
  unfold wpX_invert
  rcases xp_in hW hH ew eh cc rn b cs rs pn da on q al re rt ch re2 v1 v2 with ⟨x, y, hx, hy, rfl, rfl, PX, PY⟩ | ⟨PX, PY⟩
  · refine PX _ (br_f cl_10 ?_)
    have sw : w - nI x = nI (W - x) := by rw [ew]; exact pk_sub (by omega)
    have sh : h - nI y = nI (H - y) := by rw [eh]; exact pk_sub (by omega)
    by_cases a1 : v3 < 1
    · refine br_t a1 ?_
      unfold wpY_invert
      exact PY _ (br_f cl_10 (br_t a1 ⟨rfl, R⟩))
    · refine br_f a1 ?_
      by_cases a2 : w - nI x < v3
      · refine br_t a2 ?_
        unfold wpY_invert
        exact PY _ (br_f cl_10 (br_f a1 (br_t a2 ⟨rfl, R⟩)))
      · refine br_f a2 ?_
        by_cases a3 : v4 < 1
        · refine br_t a3 ?_
          unfold wpY_invert
          exact PY _ (br_f cl_10 (br_f a1 (br_f a2 (br_t a3 ⟨rfl, R⟩))))
        · refine br_f a3 ?_
          by_cases a4 : v4 ≤ h - nI y
          · refine br_t a4 ?_
            obtain ⟨a, ha, rfl⟩ := nI_of (x := v3) (fun z => a1 (Int32.lt_trans z (by decide)))
            obtain ⟨c, hc, rfl⟩ := nI_of (x := v4) (fun z => a3 (Int32.lt_trans z (by decide)))
            have a2' := a2
            have a4' := a4
            rw [sw, nI_ltI (by omega) ha] at a2'
            rw [sh, nI_leI hc (by omega)] at a4'
            obtain ⟨b', ok', HX, HY⟩ := xv_all (w := w) (h := h) (cc := cc) (rn := rn) (cs := cs) (rs := rs) (pn := pn) (da := da) (on := on) (q := q) (al := al) (re := re) (rt := rt) (ch := ch) (re2 := re2) (x := x) (a := a) (y := y) (c := c) (by omega) (by omega) c y b rfl ok
            refine ⟨c + 1, HX _ (fun cc rn cs rs pn da on q hX' => ?_)⟩
            unfold wpY_invert
            exact PY _ (br_f cl_10 (br_f a1 (br_f a2 (br_f a3 (br_t a4 ⟨c + 1, HY _ ⟨rfl, _, _, _, _, _, _, _, _, _, _, _, _, _, _, _, _, W, H, hW, hH, ew, eh, ok', hX', rfl, rfl⟩⟩)))))
          · refine br_f a4 ?_
            unfold wpY_invert
            exact PY _ (br_f cl_10 (br_f a1 (br_f a2 (br_f a3 (br_f a4 ⟨rfl, R⟩)))))
  · refine PX _ (br_t rfl ?_)
    unfold wpY_invert
    exact PY _ (br_t rfl ⟨rfl, R⟩)
theorem i_vc_isBlack {k : Nat} {u : SX} {v : SY} (I : i_Rel k u v) (hk : k + 5 ≤ 2562) (v1 : Int32) (v2 : Int32) : wpX_isBlack (fun r => wpY_isBlack (fun r' => r' = r ∧ i_Rel (k + 5) u v) v v1 v2) u v1 v2 := by
  have R : i_Rel (k + 5) u v := I
  obtain ⟨w, h, cc, rn, b, cs, rs, pn, da, on, q, al, re, rt, ch, re2, W, H, hW, hH, ew, eh, ok, hX, rfl, rfl⟩ := I
  unfold wpX_isBlack
  rcases xp_in hW hH ew eh cc rn b cs rs pn da on q al re rt ch re2 v1 v2 with ⟨x, y, hx, hy, rfl, rfl, PX, PY⟩ | ⟨PX, PY⟩
  · have hp : (y + 1) * 14 + x + 1 < 196 := by omega
    have ip : vp_in (nI ((y + 1) * 14 + x + 1)) 196 := vp_in_nI hp (by decide)
    have cp : (nI ((y + 1) * 14 + x + 1)).toNatClampNeg = (y + 1) * 14 + x + 1 := nI_clamp (Nat.lt_trans hp (by decide))
    refine PX _ (br_f cl_10 ?_)
    unfold wpX_placeOf
    rw [xp_pl]
    refine ⟨ip, ?_⟩
    rw [cp]
    by_cases z : b ((y + 1) * 14 + x + 1) = 0
    · refine br_t z ?_
      unfold wpY_isBlack
      refine PY _ (br_f cl_10 ?_)
      unfold wpY_place
      rw [yp_pl]
      refine ⟨ip, ?_⟩
      rw [cp]
      exact br_t z ⟨rfl, R⟩
    · refine br_f z ?_
      unfold wpY_isBlack
      refine PY _ (br_f cl_10 ?_)
      unfold wpY_place
      rw [yp_pl]
      refine ⟨ip, ?_⟩
      rw [cp]
      exact br_f z ⟨rfl, R⟩
  · refine PX _ (br_t rfl ?_)
    unfold wpY_isBlack
    exact PY _ (br_t rfl ⟨rfl, R⟩)
theorem i_vc_components {k : Nat} {u : SX} {v : SY} (I : i_Rel k u v) (hk : k + 5 ≤ 2562) : wpX_components (fun r => wpY_components (fun r' v' => r' = r ∧ i_Rel (k + 5) u v') v) u := by
  obtain ⟨w, h, cc, rn, b, cs, rs, pn, da, on, q, al, re, rt, ch, re2, W, H, hW, hH, ew, eh, ok, hX, rfl, rfl⟩ := I
  unfold wpX_components wpY_components
  refine yr_find (fun rt hrt => yf_count (N := 196) (by decide) hrt ⟨hX.1.1.symm, _, _, _, _, _, _, _, _, _, _, _, _, _, _, _, _, W, H, hW, hH, ew, eh, ok, hX, rfl, rfl⟩)
theorem i_vc_euler {k : Nat} {u : SX} {v : SY} (I : i_Rel k u v) (hk : k + 5 ≤ 2562) : wpX_euler (fun r => wpY_euler (fun r' v' => r' = r ∧ i_Rel (k + 5) u v') v) u := by
  obtain ⟨w, h, cc, rn, b, cs, rs, pn, da, on, q, al, re, rt, ch, re2, W, H, hW, hH, ew, eh, ok, hX, rfl, rfl⟩ := I
  unfold wpX_euler wpY_euler
  refine nm_e (yr_find (fun rt hrt => yf_count (N := 196) (by decide) hrt (yf_count (N := 196) (by decide) hrt ⟨?_, _, _, _, _, _, _, _, _, _, _, _, _, _, _, _, _, W, H, hW, hH, ew, eh, ok, hX, rfl, rfl⟩)))
  rw [hX.1.1, hX.1.2.1]
theorem i_vc_label {k : Nat} {u : SX} {v : SY} (I : i_Rel k u v) (hk : k + 5 ≤ 2562) (v1 : Int32) (v2 : Int32) : wpX_label (fun r => wpY_label (fun r' v' => r' = r ∧ i_Rel (k + 5) u v') v v1 v2) u v1 v2 := by
  obtain ⟨w, h, cc, rn, b, cs, rs, pn, da, on, q, al, re, rt, ch, re2, W, H, hW, hH, ew, eh, ok, hX, rfl, rfl⟩ := I
  have R : ∀ rt ch re2, i_Rel (k + 5) (w, h, cc, rn, b, cs, rs, pn, da, on, q, al, re) (w, h, b, rt, ch, re2) := fun rt ch re2 => ⟨_, _, _, _, _, _, _, _, _, _, _, _, _, _, _, _, W, H, hW, hH, ew, eh, ok, hX, rfl, rfl⟩
  unfold wpX_label
  rcases xp_in hW hH ew eh cc rn b cs rs pn da on q al re rt ch re2 v1 v2 with ⟨x, y, hx, hy, rfl, rfl, PX, PY⟩ | ⟨PX, PY⟩
  · have hp : (y + 1) * 14 + x + 1 < 196 := by omega
    have ip : vp_in (nI ((y + 1) * 14 + x + 1)) 196 := vp_in_nI hp (by decide)
    have cp : (nI ((y + 1) * 14 + x + 1)).toNatClampNeg = (y + 1) * 14 + x + 1 := nI_clamp (Nat.lt_trans hp (by decide))
    refine PX _ (br_f cl_10 ?_)
    unfold wpX_placeOf
    rw [xp_pl]
    refine ⟨ip, ?_⟩
    rw [cp]
    by_cases z : b ((y + 1) * 14 + x + 1) = 0
    · refine br_t z ?_
      unfold wpY_label
      refine PY _ (br_f cl_10 ?_)
      unfold wpY_place
      rw [yp_pl]
      refine ⟨ip, ?_⟩
      rw [cp]
      exact br_t z ⟨rfl, R _ _ _⟩
    · refine br_f z ⟨ip, ?_⟩
      unfold wpY_label
      refine PY _ (br_f cl_10 ?_)
      unfold wpY_place
      rw [yp_pl]
      refine ⟨ip, ?_⟩
      rw [cp]
      refine br_f z (yr_find (fun rt hrt => ⟨ip, ?_⟩))
      rw [hrt _ hp]
      refine yf_count (Nat.le_of_lt (cl_root_lt hp)) hrt ⟨?_, R _ _ _⟩
      rw [hX.1.2.2.2.2.1 _ hp (cl_root_lt hp), (ok.1 _).resolve_left z]
  · refine PX _ (br_t rfl ?_)
    unfold wpY_label
    exact PY _ (br_t rfl ⟨rfl, R _ _ _⟩)
theorem i_vc_depth {k : Nat} {u : SX} {v : SY} (I : i_Rel k u v) (hk : k + 5 ≤ 2562) (v1 : Int32) (v2 : Int32) : wpX_depth (fun r => wpY_depth (fun r' v' => r' = r ∧ i_Rel (k + 5) u v') v v1 v2) u v1 v2 := by
  obtain ⟨w, h, cc, rn, b, cs, rs, pn, da, on, q, al, re, rt, ch, re2, W, H, hW, hH, ew, eh, ok, hX, rfl, rfl⟩ := I
  have R : ∀ rt ch re2, i_Rel (k + 5) (w, h, cc, rn, b, cs, rs, pn, da, on, q, al, re) (w, h, b, rt, ch, re2) := fun rt ch re2 => ⟨_, _, _, _, _, _, _, _, _, _, _, _, _, _, _, _, W, H, hW, hH, ew, eh, ok, hX, rfl, rfl⟩
  unfold wpX_depth
  rcases xp_in hW hH ew eh cc rn b cs rs pn da on q al re rt ch re2 v1 v2 with ⟨x, y, hx, hy, rfl, rfl, PX, PY⟩ | ⟨PX, PY⟩
  · have hp : (y + 1) * 14 + x + 1 < 196 := by omega
    have ip : vp_in (nI ((y + 1) * 14 + x + 1)) 196 := vp_in_nI hp (by decide)
    have cp : (nI ((y + 1) * 14 + x + 1)).toNatClampNeg = (y + 1) * 14 + x + 1 := nI_clamp (Nat.lt_trans hp (by decide))
    refine PX _ (br_f cl_10 ?_)
    unfold wpX_placeOf
    rw [xp_pl]
    refine ⟨ip, ?_⟩
    rw [cp]
    unfold wpY_depth
    refine PY _ (br_f cl_10 (yc_find ok (fun ch hch => ?_)))
    show wpY_place _ _ _ _
    unfold wpY_place
    rw [yp_pl]
    refine ⟨ip, ?_⟩
    rw [cp]
    exact ⟨by rw [hch _ hp, hX.2.1 _ hp], R _ _ _⟩
  · refine PX _ (br_t rfl ?_)
    unfold wpY_depth
    exact PY _ (br_t rfl ⟨rfl, R _ _ _⟩)
/-- component k: both find it, or neither -/
theorem xk_comp {w h cc rn : Int32} {b cs rs pn da on q al re : Nat → Int32} (hX : cl_X b cc rn cs rs pn da on) (kk : Int32) :
    (∃ C, C < 196 ∧ cl_fs b 1 C ∧ kk = nI (cl_cnt (cl_fs b 1) C) ∧ (∀ post : Int32 → Prop, post 1 → wpX_isComponent post (w, h, cc, rn, b, cs, rs, pn, da, on, q, al, re) kk) ∧
      (∀ (rt0 ch re2 : Nat → Int32) (post : Int32 → SY → Prop), (∀ rt, (∀ p, p < 196 → rt p = nI (cl_root b p)) → post (nI C) (w, h, b, rt, ch, re2)) → wpY_firstOf post (w, h, b, rt0, ch, re2) kk)) ∨
    ((∀ post : Int32 → Prop, post 0 → wpX_isComponent post (w, h, cc, rn, b, cs, rs, pn, da, on, q, al, re) kk) ∧
      (∀ (rt0 ch re2 : Nat → Int32) (post : Int32 → SY → Prop), (∀ rt, post (-1) (w, h, b, rt, ch, re2)) → wpY_firstOf post (w, h, b, rt0, ch, re2) kk)) := by
  have ec := hX.1.1
  have lc := cl_cnt_le (cl_fs b 1) 196
  have lr : ∀ r, r < 196 → cl_fs b 1 r → cl_cnt (cl_fs b 1) r < cl_cnt (cl_fs b 1) 196 := fun r hr fr => cl_cnt_lt hr fr
  rcases pk_ix kk (n := cl_cnt (cl_fs b 1) 196) (by omega) with h0 | h0 | ⟨j, hj, rfl⟩
  · refine Or.inr ⟨fun _ p => br_t h0 p, fun rt0 ch re2 post p => yo_first (fun rt hrt r hr fr e => ?_) (fun rt hrt _ => p rt)⟩
    have := lr r hr fr
    rw [e] at h0
    exact absurd h0 (nI_pos (by omega))
  · have n0 : ¬ kk < 0 := Int32.not_lt.mpr (Int32.le_trans (nI_pos' (by omega)) h0)
    refine Or.inr ⟨fun _ p => br_f n0 (br_t (by rw [ec]; exact h0) p), fun rt0 ch re2 post p => yo_first (fun rt hrt r hr fr e => ?_) (fun rt hrt _ => p rt)⟩
    have := lr r hr fr
    rw [e] at h0
    exact absurd h0 (nI_ge (by omega) (by omega))
  · obtain ⟨C, hC, fC, eC⟩ := cl_cnt_ex hj
    refine Or.inl ⟨C, hC, fC, by rw [eC], fun _ p => br_f (nI_pos (by omega)) (br_f (by rw [ec]; exact nI_ge hj (by omega)) p), fun rt0 ch re2 post p => yo_first (fun rt hrt r hr fr e => ?_) (fun rt hrt no => ?_)⟩
    · have := lr r hr fr
      have e2 := (nI_eq (by omega) (by omega)).mp e
      rw [cl_cnt_inj fr fC (e2.symm.trans eC.symm)]
      exact p rt hrt
    · exact absurd (by rw [eC]) (no C hC fC)
theorem i_vc_area {k : Nat} {u : SX} {v : SY} (I : i_Rel k u v) (hk : k + 5 ≤ 2562) (v1 : Int32) : wpX_area (fun r => wpY_area (fun r' v' => r' = r ∧ i_Rel (k + 5) u v') v v1) u v1 := by
  obtain ⟨w, h, cc, rn, b, cs, rs, pn, da, on, q, al, re, rt, ch, re2, W, H, hW, hH, ew, eh, ok, hX, rfl, rfl⟩ := I
  have R : ∀ rt ch re2, i_Rel (k + 5) (w, h, cc, rn, b, cs, rs, pn, da, on, q, al, re) (w, h, b, rt, ch, re2) := fun rt ch re2 => ⟨_, _, _, _, _, _, _, _, _, _, _, _, _, _, _, _, W, H, hW, hH, ew, eh, ok, hX, rfl, rfl⟩
  unfold wpX_area wpY_area
  rcases xk_comp (w := w) (h := h) (q := q) (al := al) (re := re) hX v1 with ⟨C, hC, fC, rfl, PX, PY⟩ | ⟨PX, PY⟩
  · refine PX _ (br_f cl_10 ⟨197, xq_area ok hX.1 hC fC ?_ 197 0 (by decide) (by decide)⟩)
    refine PY rt ch re2 _ (fun rt hrt => br_t (nI_pos' (by omega)) ⟨197, yv_area hC hrt ⟨rfl, R _ _ _⟩ 197 0 (by decide) (by decide)⟩)
  · exact PX _ (br_t rfl (PY rt ch re2 _ (fun rt => br_f cl_nm1ge ⟨rfl, R _ _ _⟩)))
theorem xq_holes1 {post : Int32 → Prop} {C : Nat} {f_width f_height cc rn : Int32} {b cs rs pn da on q al re : Nat → Int32} (ok : cl_ok b) (hN : cl_N b 196 cc rn cs rs pn) (hO : ∀ p, p < 196 → cl_o b on p) (hC : C < 196) (fC : cl_fs b 1 C) (H : post (nI (cl_cnt (fun p => cl_fs b 0 p ∧ 1 ≤ p ∧ cl_hole b p C) 196))) :
    ∃ n, wX_holes_14 post (nI (cl_cnt (cl_fs b 1) C)) f_width f_height cc rn b cs rs pn da on q al re n 0 1 := by
  have f0 := cl_f00 ok
  have c1 : 1 ≤ cl_cnt (cl_fs b 0) 196 := cl_cnt_lt (m := 0) (n := 196) (by decide) f0
  have z1 : cl_cnt (fun j => ∃ r, r < 196 ∧ cl_fs b 0 r ∧ cl_cnt (cl_fs b 0) r = j ∧ 1 ≤ r ∧ cl_hole b r C) 1 = 0 := cl_cnt_z (fun j hj ⟨r, hr, fr, er, r1, _⟩ => by
    have := cl_cnt_lt (m := 0) (n := r) (by omega) f0
    rw [cl_cnt_0] at this
    omega)
  have hx := xq_holes (f_width := f_width) (f_height := f_height) (da := da) (q := q) (al := al) (re := re) ok hN hO hC fC H 197 1 (by decide) c1 (by have := cl_cnt_le (cl_fs b 0) 196; omega)
  rw [z1] at hx
  exact ⟨197, hx⟩
theorem yv_holes1 {post : Int32 → SY → Prop} {C : Nat} {w h : Int32} {b rt ch re : Nat → Int32} (ok : cl_ok b) (hC : C < 196) (hrt : ∀ p, p < 196 → rt p = nI (cl_root b p)) (hch : ∀ p, p < 196 → ch p = nI (cl_dep b p)) (H : post (nI (cl_cnt (fun p => cl_fs b 0 p ∧ 1 ≤ p ∧ cl_hole b p C) 196)) (w, h, b, rt, ch, re)) :
    ∃ n, wY_holes_21 post (nI C) w h b rt ch re n 0 1 := by
  have z2 : cl_cnt (fun p => cl_fs b 0 p ∧ 1 ≤ p ∧ cl_hole b p C) 1 = 0 := cl_cnt_z (fun j hj z => by
    have := z.2.1
    omega)
  have hy := yv_holes ok hC hrt hch H 196 1 (by decide) (by decide) (by decide)
  rw [z2] at hy
  exact ⟨196, hy⟩
theorem i_vc_holes {k : Nat} {u : SX} {v : SY} (I : i_Rel k u v) (hk : k + 5 ≤ 2562) (v1 : Int32) : wpX_holes (fun r => wpY_holes (fun r' v' => r' = r ∧ i_Rel (k + 5) u v') v v1) u v1 := by
  obtain ⟨w, h, cc, rn, b, cs, rs, pn, da, on, q, al, re, rt, ch, re2, W, H, hW, hH, ew, eh, ok, hX, rfl, rfl⟩ := I
  have R : ∀ rt ch re2, i_Rel (k + 5) (w, h, cc, rn, b, cs, rs, pn, da, on, q, al, re) (w, h, b, rt, ch, re2) := fun rt ch re2 => ⟨_, _, _, _, _, _, _, _, _, _, _, _, _, _, _, _, W, H, hW, hH, ew, eh, ok, hX, rfl, rfl⟩
  unfold wpX_holes wpY_holes
  rcases xk_comp (w := w) (h := h) (q := q) (al := al) (re := re) hX v1 with ⟨C, hC, fC, rfl, PX, PY⟩ | ⟨PX, PY⟩
  · refine PX _ (br_f cl_10 (xq_holes1 ok hX.1 hX.2.2 hC fC ?_))
    exact PY rt ch re2 _ (fun rt hrt => br_t (nI_pos' (by omega)) (yc_find ok (fun ch hch => yv_holes1 ok hC hrt hch ⟨rfl, R _ _ _⟩)))
  · exact PX _ (br_t rfl (PY rt ch re2 _ (fun rt => br_f cl_nm1ge ⟨rfl, R _ _ _⟩)))
theorem i_vc_around {k : Nat} {u : SX} {v : SY} (I : i_Rel k u v) (hk : k + 5 ≤ 2562) (v1 : Int32) : wpX_around (fun r => wpY_around (fun r' v' => r' = r ∧ i_Rel (k + 5) u v') v v1) u v1 := by
  obtain ⟨w, h, cc, rn, b, cs, rs, pn, da, on, q, al, re, rt, ch, re2, W, H, hW, hH, ew, eh, ok, hX, rfl, rfl⟩ := I
  have R : ∀ rt ch re2, i_Rel (k + 5) (w, h, cc, rn, b, cs, rs, pn, da, on, q, al, re) (w, h, b, rt, ch, re2) := fun rt ch re2 => ⟨_, _, _, _, _, _, _, _, _, _, _, _, _, _, _, _, W, H, hW, hH, ew, eh, ok, hX, rfl, rfl⟩
  unfold wpX_around wpY_around
  rcases xk_comp (w := w) (h := h) (q := q) (al := al) (re := re) hX v1 with ⟨C, hC, fC, rfl, PX, PY⟩ | ⟨PX, PY⟩
  · have lC : cl_cnt (cl_fs b 1) C < 196 := Nat.lt_of_le_of_lt (cl_cnt_le _ C) hC
    refine PX _ (br_f cl_10 ⟨vp_in_nI lC (by decide), ?_⟩)
    rw [nI_clamp (Nat.lt_trans lC (by decide))]
    refine nm_r (hX.1.2.2.1 C hC fC) ⟨vp_in_nI hC (by decide), ?_⟩
    rw [nI_clamp (Nat.lt_trans hC (by decide)), hX.2.1 C hC]
    have dC := cl_dep_13 ok hC
    refine pk_eq (cl_dep b C) 1 (fun e => ?_) (fun e => ⟨vp_in_nI hC (by decide), ?_⟩)
    · exact PY rt ch re2 _ (fun rt hrt => br_t (nI_pos' (by omega)) (yc_find ok (fun ch hch => ⟨197, yv_none ok hC hrt hch e ⟨rfl, R _ _ _⟩ 197 0 (by decide) (by decide)⟩)))
    · have par := cl_dep_par ok hC
      rw [fC.1] at par
      have odd : ¬ cl_dep b C % 2 = 0 := fun z => cl_10 (par.mpr z)
      obtain ⟨o1, ho1, eo1, hd1⟩ := hX.2.2 C hC
      obtain ⟨d1, c, hc, rc, bc⟩ := hd1 (by omega)
      obtain ⟨o2, ho2, eo2, hd2⟩ := hX.2.2 o1 ho1
      obtain ⟨d2, r', hr', rr, ba⟩ := hd2 (by omega)
      have dc := cl_dep_rt ok rc
      refine nm_r eo1 ⟨vp_in_nI ho1 (by decide), ?_⟩
      rw [nI_clamp (Nat.lt_trans ho1 (by decide))]
      refine nm_r eo2 ⟨vp_in_nI ho2 (by decide), ?_⟩
      rw [nI_clamp (Nat.lt_trans ho2 (by decide))]
      have b2 : b o2 ≠ 0 := fun z => by
        have := (cl_dep_par ok ho2).mp z
        omega
      have b21 : b o2 = 1 := (ok.1 o2).resolve_left b2
      have fA : cl_fs b 1 (cl_root b o2) := ⟨(cl_root_c b o2).trans b21, cl_root_i b o2⟩
      have dA : cl_dep b (cl_root b o2) = cl_dep b o2 := cl_dep_rt ok (cl_root_i b o2)
      rw [hX.1.2.2.2.2.1 o2 ho2 (cl_root_lt ho2), b21]
      refine PY rt ch re2 _ (fun rt hrt => br_t (nI_pos' (by omega)) (yc_find ok (fun ch hch => ⟨197, ?_⟩)))
      refine yv_around (A := cl_root b o2) ok hC (cl_root_lt ho2) hrt hch fA (by omega) (cl_cut ok hc ho1 hr' ho2 rc bc (by omega) rr ba d2 b2) (fun z hz fz dz nz => ?_) (fun re => ⟨rfl, R _ _ _⟩) 197 0 re2 (Nat.zero_le _) (by have := cl_root_lt (b := b) ho2; omega)
      have nz' : cl_root b z ≠ cl_root b o2 := fun y => nz (fz.2.symm.trans y)
      have := cl_free ok hc ho1 hr' ho2 rc bc (by omega) rr ba d2 (z := z) (by rw [fz.1]; exact cl_10) (by omega) nz'
      rw [fz.2] at this
      exact this
  · exact PX _ (br_t rfl (PY rt ch re2 _ (fun rt => br_f cl_nm1ge ⟨rfl, R _ _ _⟩)))
theorem i_vc_enclosed {k : Nat} {u : SX} {v : SY} (I : i_Rel k u v) (hk : k + 5 ≤ 2562) (v1 : Int32) : wpX_enclosed (fun r u' => wpY_enclosed (fun r' v' => r' = r ∧ i_Rel (k + 5) u' v') v v1) u v1 := by
  obtain ⟨w, h, cc, rn, b, cs, rs, pn, da, on, q, al, re, rt, ch, re2, W, H, hW, hH, ew, eh, ok, hX, rfl, rfl⟩ := I
  have R : ∀ q al re rt ch re2, i_Rel (k + 5) (w, h, cc, rn, b, cs, rs, pn, da, on, q, al, re) (w, h, b, rt, ch, re2) := fun q al re rt ch re2 => ⟨_, _, _, _, _, _, _, _, _, _, _, _, _, _, _, _, W, H, hW, hH, ew, eh, ok, hX, rfl, rfl⟩
  unfold wpX_enclosed
  rcases xk_comp (w := w) (h := h) (q := q) (al := al) (re := re) hX v1 with ⟨C, hC, fC, rfl, PX, PY⟩ | ⟨PX, PY⟩
  · refine PX _ (br_f cl_10 ⟨197, xe_loop ok hX.1 hC fC (fun q al re => ?_) 197 0 al (by decide) (by decide) (fun p hp => absurd hp (Nat.not_lt_zero p))⟩)
    unfold wpY_enclosed
    refine PY rt ch re2 _ (fun rt hrt => br_t (nI_pos' (by omega)) (ye_find hC hrt (fun re' hre => ?_)))
    refine ⟨197, yv_encl (P := fun p => ¬ cl_rc (cl_av b C) 0 p ∧ cl_root b p ≠ C) hC hrt (fun p hp => ?_) ⟨rfl, R _ _ _ _ _ _⟩ 197 0 (by decide) (by decide)⟩
    rw [← hre p hp]
    exact ⟨fun z => ⟨Classical.byContradiction z.1, z.2⟩, fun z => ⟨fun y => y z.1, z.2⟩⟩
  · refine PX _ (br_t rfl ?_)
    unfold wpY_enclosed
    exact PY rt ch re2 _ (fun rt => br_f cl_nm1ge ⟨rfl, R _ _ _ _ _ _⟩)
end
