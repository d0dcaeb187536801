def gp_bs (u v : Nat) : Prop := (v = u + 1 ∧ u % 14 ≠ 13) ∨ (u = v + 1 ∧ v % 14 ≠ 13) ∨ v = u + 14 ∨ u = v + 14
def gp_dg (u v : Nat) : Prop := (v = u + 15 ∧ u % 14 ≠ 13) ∨ (u = v + 15 ∧ v % 14 ≠ 13) ∨ (v = u + 13 ∧ u % 14 ≠ 0) ∨ (u = v + 13 ∧ v % 14 ≠ 0)
def gp_S (f : Nat → Int) : Nat → Int
  | 0 => 0
  | n + 1 => gp_S f n + f n
/-- the square with its first corner at u has two corners of one part across, or two sides each of one part -/
def gp_Sq (c : Nat → Nat) : Prop := ∀ u, u % 14 ≠ 13 → u + 15 < 196 → c u = c (u + 15) ∨ c (u + 1) = c (u + 14) ∨ (c u = c (u + 1) ∧ c (u + 14) = c (u + 15)) ∨ (c u = c (u + 14) ∧ c (u + 1) = c (u + 15))
theorem gp_sq0 {c : Nat → Nat} (sq : gp_Sq c) {F : Nat → Nat → Int} (F0 : ∀ p, F p p = 0) (Fa : ∀ p q, F q p = - F p q) {u : Nat} (h : u % 14 ≠ 13) (hu : u + 15 < 196) : F (c u) (c (u + 1)) + F (c (u + 1)) (c (u + 15)) = F (c u) (c (u + 14)) + F (c (u + 14)) (c (u + 15)) := by
  rcases sq u h hu with e | e | ⟨e, e'⟩ | ⟨e, e'⟩
  · rw [← e, Fa (c u) (c (u + 1)), Fa (c u) (c (u + 14))]; omega
  · rw [e]
  · rw [← e, ← e', F0, F0]; omega
  · rw [← e, ← e', F0, F0]; omega
def gp_ph (c : Nat → Nat) (F : Nat → Nat → Int) (x y : Nat) : Int := gp_S (fun i => F (c i) (c (i + 1))) x + gp_S (fun j => F (c (14 * j + x)) (c (14 * j + x + 14))) y
theorem gp_ph_v (c : Nat → Nat) (F : Nat → Nat → Int) (x y : Nat) : gp_ph c F x (y + 1) = gp_ph c F x y + F (c (14 * y + x)) (c (14 * y + x + 14)) := by
  unfold gp_ph
  rw [gp_S]
  omega
theorem gp_ph_h {c : Nat → Nat} (sq : gp_Sq c) {F : Nat → Nat → Int} (F0 : ∀ p, F p p = 0) (Fa : ∀ p q, F q p = - F p q) {x : Nat} (hx : x < 13) : ∀ y, y < 14 → gp_ph c F (x + 1) y = gp_ph c F x y + F (c (14 * y + x)) (c (14 * y + x + 1)) := by
  intro y
  induction y with
  | zero =>
    intro _
    have e : 14 * 0 + x = x := by omega
    rw [e]
    unfold gp_ph
    rw [gp_S, gp_S, gp_S]
    omega
  | succ y ih =>
    intro hy
    have h := ih (by omega)
    have q := gp_sq0 sq F0 Fa (u := 14 * y + x) (by omega) (by omega)
    have e1 : 14 * (y + 1) + x = 14 * y + x + 14 := by omega
    have e2 : 14 * y + (x + 1) = 14 * y + x + 1 := by omega
    have e3 : 14 * y + x + 1 + 14 = 14 * y + x + 15 := by omega
    have e4 : 14 * y + x + 14 + 1 = 14 * y + x + 15 := by omega
    rw [gp_ph_v, gp_ph_v, e1, e2, e3, e4]
    omega
theorem gp_pot {c : Nat → Nat} (sq : gp_Sq c) {F : Nat → Nat → Int} (F0 : ∀ p, F p p = 0) (Fa : ∀ p q, F q p = - F p q) : ∃ φ : Nat → Int, ∀ u v, u < 196 → v < 196 → gp_bs u v → φ v = φ u + F (c u) (c v) := by
  have hh : ∀ u, u < 195 → u % 14 ≠ 13 → gp_ph c F ((u + 1) % 14) ((u + 1) / 14) = gp_ph c F (u % 14) (u / 14) + F (c u) (c (u + 1)) := by
    intro u hu h13
    have e1 : (u + 1) % 14 = u % 14 + 1 := by omega
    have e2 : (u + 1) / 14 = u / 14 := by omega
    have e3 : 14 * (u / 14) + u % 14 = u := by omega
    have k := gp_ph_h sq F0 Fa (x := u % 14) (by omega) (u / 14) (by omega)
    rw [e3] at k
    rw [e1, e2, k]
  have hv : ∀ u, u + 14 < 196 → gp_ph c F ((u + 14) % 14) ((u + 14) / 14) = gp_ph c F (u % 14) (u / 14) + F (c u) (c (u + 14)) := by
    intro u hu
    have e1 : (u + 14) % 14 = u % 14 := by omega
    have e2 : (u + 14) / 14 = u / 14 + 1 := by omega
    have e3 : 14 * (u / 14) + u % 14 = u := by omega
    have k := gp_ph_v c F (u % 14) (u / 14)
    rw [e3] at k
    rw [e1, e2, k]
  refine ⟨fun p => gp_ph c F (p % 14) (p / 14), fun u v hu hv' b => ?_⟩
  dsimp only
  rcases b with ⟨rfl, h⟩ | ⟨rfl, h⟩ | rfl | rfl
  · exact hh u (by omega) h
  · have k := hh v (by omega) h
    rw [Fa (c v) (c (v + 1))]
    omega
  · exact hv u hv'
  · have k := hv v hu
    rw [Fa (c v) (c (v + 14))]
    omega
/-- the pair (P, Q): one more from P into Q, one less back -/
def gp_F (P Q p q : Nat) : Int := if p = P ∧ q = Q then 1 else if p = Q ∧ q = P then -1 else 0
theorem gp_F0 {P Q : Nat} (h : P ≠ Q) (p : Nat) : gp_F P Q p p = 0 := by
  unfold gp_F
  rw [if_neg (fun z => h (z.1.symm.trans z.2)), if_neg (fun z => h (z.2.symm.trans z.1))]
theorem gp_Fa {P Q : Nat} (h : P ≠ Q) (p q : Nat) : gp_F P Q q p = - gp_F P Q p q := by
  unfold gp_F
  by_cases a : p = P ∧ q = Q
  · rw [if_neg (fun z => h (z.1.symm.trans a.2)), if_pos ⟨a.2, a.1⟩, if_pos a]
  · by_cases b : p = Q ∧ q = P
    · rw [if_pos ⟨b.2, b.1⟩, if_neg a, if_pos b]; rfl
    · rw [if_neg (fun z => b ⟨z.2, z.1⟩), if_neg (fun z => a ⟨z.2, z.1⟩), if_neg a, if_neg b]; rfl
/-! ways and steps -/
def cl_to (p d q : Nat) : Prop := q < 196 ∧ p % 14 + d % 3 = q % 14 + 1 ∧ p / 14 + d / 3 = q / 14 + 1
def gp_ad (u v : Nat) : Prop := u = v ∨ gp_bs u v ∨ gp_dg u v
theorem gp_bs_y {u v : Nat} (h : gp_bs u v) : gp_bs v u := by
  unfold gp_bs at *; omega
theorem gp_ad_y {u v : Nat} (h : gp_ad u v) : gp_ad v u := by
  unfold gp_ad gp_bs gp_dg at *; omega
theorem cl_to_bs {p d q : Nat} (hp : p < 196) (hd : d < 9) (o : d % 2 = 1) (h : cl_to p d q) : gp_bs p q := by
  unfold cl_to at h
  unfold gp_bs
  have : d = 1 ∨ d = 3 ∨ d = 5 ∨ d = 7 := by omega
  rcases this with rfl | rfl | rfl | rfl <;> omega
theorem cl_bs_to {p q : Nat} (hp : p < 196) (hq : q < 196) (h : gp_bs p q) : ∃ d, d < 9 ∧ d % 2 = 1 ∧ cl_to p d q := by
  unfold gp_bs at h
  unfold cl_to
  rcases h with h | h | h | h
  · exact ⟨5, by omega, by omega, by omega⟩
  · exact ⟨3, by omega, by omega, by omega⟩
  · exact ⟨7, by omega, by omega, by omega⟩
  · exact ⟨1, by omega, by omega, by omega⟩
theorem cl_to_ad {p d q : Nat} (hp : p < 196) (hd : d < 9) (h : cl_to p d q) : gp_ad p q := by
  unfold cl_to at h
  unfold gp_ad gp_bs gp_dg
  have : d = 0 ∨ d = 1 ∨ d = 2 ∨ d = 3 ∨ d = 4 ∨ d = 5 ∨ d = 6 ∨ d = 7 ∨ d = 8 := by omega
  rcases this with rfl | rfl | rfl | rfl | rfl | rfl | rfl | rfl | rfl <;> omega
theorem cl_ad_to {p q : Nat} (hp : p < 196) (hq : q < 196) (h : gp_ad p q) : ∃ d, d < 9 ∧ cl_to p d q := by
  rcases h with rfl | h | h
  · exact ⟨4, by omega, by unfold cl_to; omega⟩
  · obtain ⟨d, a, _, c⟩ := cl_bs_to hp hq h
    exact ⟨d, a, c⟩
  · unfold gp_dg at h
    unfold cl_to
    rcases h with h | h | h | h
    · exact ⟨8, by omega, by omega⟩
    · exact ⟨0, by omega, by omega⟩
    · exact ⟨6, by omega, by omega⟩
    · exact ⟨2, by omega, by omega⟩
theorem cl_to_un {p d q q' : Nat} (h : cl_to p d q) (k : cl_to p d q') : q = q' := by
  unfold cl_to at *; omega
def cl_st (b : Nat → Int32) (u v : Nat) : Prop := u < 196 ∧ v < 196 ∧ b u = b v ∧ (gp_bs u v ∨ (b u ≠ 0 ∧ gp_ad u v))
theorem cl_st_y {b : Nat → Int32} (u v : Nat) (h : cl_st b u v) : cl_st b v u :=
  ⟨h.2.1, h.1, h.2.2.1.symm, h.2.2.2.elim (fun z => Or.inl (gp_bs_y z)) (fun z => Or.inr ⟨h.2.2.1 ▸ z.1, gp_ad_y z.2⟩)⟩
theorem cl_st_to {b : Nat → Int32} {p q : Nat} (h : cl_st b p q) : ∃ d, d < 9 ∧ (b p ≠ 0 ∨ d % 2 = 1) ∧ cl_to p d q := by
  rcases h.2.2.2 with k | ⟨k, a⟩
  · obtain ⟨d, x, y, z⟩ := cl_bs_to h.1 h.2.1 k
    exact ⟨d, x, Or.inr y, z⟩
  · obtain ⟨d, x, z⟩ := cl_ad_to h.1 h.2.1 a
    exact ⟨d, x, Or.inl k, z⟩
theorem cl_to_st {b : Nat → Int32} {p q d : Nat} (hp : p < 196) (hd : d < 9) (k : b p ≠ 0 ∨ d % 2 = 1) (t : cl_to p d q) (e : b p = b q) : cl_st b p q := by
  refine ⟨hp, t.1, e, ?_⟩
  by_cases o : d % 2 = 1
  · exact Or.inl (cl_to_bs hp hd o t)
  · exact Or.inr ⟨k.resolve_right o, cl_to_ad hp hd t⟩
/-! parts -/
theorem cl_pt_lt {b : Nat → Int32} {p q : Nat} (hp : p < 196) (h : cl_rc (cl_st b) p q) : q < 196 := h (fun x => x < 196) hp (fun _ _ _ e => e.2.1)
theorem cl_pt_c {b : Nat → Int32} {p q : Nat} (h : cl_rc (cl_st b) p q) : b p = b q := h (fun x => b p = b x) rfl (fun _ _ a e => a.trans e.2.2.1)
theorem cl_pt_y {b : Nat → Int32} {p q : Nat} (h : cl_rc (cl_st b) p q) : cl_rc (cl_st b) q p := cl_rc_y cl_st_y h
noncomputable def cl_root (b : Nat → Int32) (p : Nat) : Nat := (pk_least (fun q => cl_rc (cl_st b) p q) ⟨p, cl_rc_r _ p⟩).choose
theorem cl_root_rc (b : Nat → Int32) (p : Nat) : cl_rc (cl_st b) p (cl_root b p) := (pk_least (fun q => cl_rc (cl_st b) p q) ⟨p, cl_rc_r _ p⟩).choose_spec.1
theorem cl_root_le {b : Nat → Int32} {p q : Nat} (h : cl_rc (cl_st b) p q) : cl_root b p ≤ q :=
  Nat.not_lt.mp fun z => (pk_least (fun q => cl_rc (cl_st b) p q) ⟨p, cl_rc_r _ p⟩).choose_spec.2 q z h
theorem cl_root_eq {b : Nat → Int32} {p q : Nat} (h : cl_rc (cl_st b) p q) : cl_root b p = cl_root b q :=
  Nat.le_antisymm (cl_root_le (cl_rc_t h (cl_root_rc b q))) (cl_root_le (cl_rc_t (cl_pt_y h) (cl_root_rc b p)))
theorem cl_root_pt {b : Nat → Int32} {p q : Nat} (h : cl_root b p = cl_root b q) : cl_rc (cl_st b) p q :=
  cl_rc_t (cl_root_rc b p) (h ▸ cl_pt_y (cl_root_rc b q))
theorem cl_root_s {b : Nat → Int32} {p q : Nat} (h : cl_st b p q) : cl_root b p = cl_root b q := cl_root_eq (cl_rc_1 h)
theorem cl_root_self (b : Nat → Int32) (p : Nat) : cl_root b p ≤ p := cl_root_le (cl_rc_r _ p)
theorem cl_root_lt {b : Nat → Int32} {p : Nat} (hp : p < 196) : cl_root b p < 196 := Nat.lt_of_le_of_lt (cl_root_self b p) hp
theorem cl_root_i (b : Nat → Int32) (p : Nat) : cl_root b (cl_root b p) = cl_root b p := (cl_root_eq (cl_root_rc b p)).symm
theorem cl_root_c (b : Nat → Int32) (p : Nat) : b (cl_root b p) = b p := (cl_pt_c (cl_root_rc b p)).symm
theorem cl_bs_rt {b : Nat → Int32} {u v : Nat} (hu : u < 196) (hv : v < 196) (h : gp_bs u v) (e : b u = b v) : cl_root b u = cl_root b v := cl_root_s ⟨hu, hv, e, Or.inl h⟩
/-! depths -/
def cl_ok (b : Nat → Int32) : Prop := (∀ p, b p = 0 ∨ b p = 1) ∧ (∀ p, p < 14 → b p = 0)
def cl_W (b : Nat → Int32) (p n : Nat) : Prop := ∀ S : Nat → Nat → Prop, S 0 0 → (∀ u v n, S u n → cl_st b u v → S v n) → (∀ u v n, S u n → u < 196 → v < 196 → gp_bs u v → b u ≠ b v → S v (n + 1)) → S p n
theorem cl_W_0 (b : Nat → Int32) : cl_W b 0 0 := fun _ h _ _ => h
theorem cl_W_s {b : Nat → Int32} {u v n : Nat} (h : cl_W b u n) (e : cl_st b u v) : cl_W b v n := fun S h0 h1 h2 => h1 u v n (h S h0 h1 h2) e
theorem cl_W_b {b : Nat → Int32} {u v n : Nat} (h : cl_W b u n) (hu : u < 196) (hv : v < 196) (e : gp_bs u v) (c : b u ≠ b v) : cl_W b v (n + 1) := fun S h0 h1 h2 => h2 u v n (h S h0 h1 h2) hu hv e c
theorem cl_W_ex {b : Nat → Int32} (ok : cl_ok b) : ∀ p, p < 196 → ∃ n, n ≤ p / 14 ∧ cl_W b p n := by
  intro p
  induction p using Nat.strongRecOn with
  | _ p ih =>
    intro hp
    by_cases h0 : p = 0
    · subst h0; exact ⟨0, by omega, cl_W_0 b⟩
    · by_cases h1 : p < 14
      · obtain ⟨n, a, w⟩ := ih (p - 1) (by omega) (by omega)
        refine ⟨n, by omega, cl_W_s w ⟨by omega, hp, ?_, Or.inl ?_⟩⟩
        · rw [ok.2 p h1, ok.2 (p - 1) (by omega)]
        · unfold gp_bs; omega
      · obtain ⟨n, a, w⟩ := ih (p - 14) (by omega) (by omega)
        have hb : gp_bs (p - 14) p := by unfold gp_bs; omega
        by_cases c : b (p - 14) = b p
        · exact ⟨n, by omega, cl_W_s w ⟨by omega, hp, c, Or.inl hb⟩⟩
        · exact ⟨n + 1, by omega, cl_W_b w (by omega) hp hb c⟩
noncomputable def cl_dep (b : Nat → Int32) (p : Nat) : Nat := (pk_least (fun n => cl_W b p n ∨ n = 600) ⟨600, Or.inr rfl⟩).choose
theorem cl_dep_le {b : Nat → Int32} {p n : Nat} (h : cl_W b p n) : cl_dep b p ≤ n :=
  Nat.not_lt.mp fun z => (pk_least (fun n => cl_W b p n ∨ n = 600) ⟨600, Or.inr rfl⟩).choose_spec.2 n z (Or.inl h)
theorem cl_dep_13 {b : Nat → Int32} (ok : cl_ok b) {p : Nat} (hp : p < 196) : cl_dep b p ≤ 13 := by
  obtain ⟨n, a, w⟩ := cl_W_ex ok p hp
  have := cl_dep_le w
  omega
theorem cl_dep_W {b : Nat → Int32} (ok : cl_ok b) {p : Nat} (hp : p < 196) : cl_W b p (cl_dep b p) := by
  rcases (pk_least (fun n => cl_W b p n ∨ n = 600) ⟨600, Or.inr rfl⟩).choose_spec.1 with h | h
  · exact h
  · have := cl_dep_13 ok hp
    unfold cl_dep at this
    omega
theorem cl_dep_0 (b : Nat → Int32) : cl_dep b 0 = 0 := Nat.le_zero.mp (cl_dep_le (cl_W_0 b))
theorem cl_dep_s {b : Nat → Int32} (ok : cl_ok b) {u v : Nat} (h : cl_st b u v) : cl_dep b u = cl_dep b v :=
  Nat.le_antisymm (cl_dep_le (cl_W_s (cl_dep_W ok h.2.1) (cl_st_y u v h))) (cl_dep_le (cl_W_s (cl_dep_W ok h.1) h))
theorem cl_dep_b {b : Nat → Int32} (ok : cl_ok b) {u v : Nat} (hu : u < 196) (hv : v < 196) (h : gp_bs u v) : cl_dep b v ≤ cl_dep b u + 1 := by
  by_cases c : b u = b v
  · have := cl_dep_s ok (u := u) (v := v) ⟨hu, hv, c, Or.inl h⟩
    omega
  · exact cl_dep_le (cl_W_b (cl_dep_W ok hu) hu hv h c)
theorem cl_dep_p {b : Nat → Int32} (ok : cl_ok b) {p q : Nat} (h : cl_rc (cl_st b) p q) : cl_dep b p = cl_dep b q :=
  h (fun x => cl_dep b p = cl_dep b x) rfl (fun _ _ a e => a.trans (cl_dep_s ok e))
theorem cl_dep_rt {b : Nat → Int32} (ok : cl_ok b) {p q : Nat} (h : cl_root b p = cl_root b q) : cl_dep b p = cl_dep b q := cl_dep_p ok (cl_root_pt h)
theorem cl_W_lt {b : Nat → Int32} {p n : Nat} (h : cl_W b p n) : p < 196 := h (fun p _ => p < 196) (by decide) (fun _ _ _ _ e => e.2.1) (fun _ _ _ _ _ hv _ _ => hv)
/-- a place of depth n: it hangs together with 0, or with a place beside one of depth n - 1 -/
theorem cl_dep_d {b : Nat → Int32} (ok : cl_ok b) {p : Nat} (hp : p < 196) : (cl_dep b p = 0 ∧ cl_root b 0 = cl_root b p) ∨ (∃ p' q, p' < 196 ∧ q < 196 ∧ cl_root b p = cl_root b p' ∧ gp_bs p' q ∧ cl_dep b q + 1 = cl_dep b p) := by
  have k := cl_dep_W ok hp (fun p n => cl_W b p n ∧ (n = cl_dep b p → (cl_dep b p = 0 ∧ cl_root b 0 = cl_root b p) ∨ (∃ p' q, p' < 196 ∧ q < 196 ∧ cl_root b p = cl_root b p' ∧ gp_bs p' q ∧ cl_dep b q + 1 = cl_dep b p)))
    ⟨cl_W_0 b, fun e => Or.inl ⟨e.symm, rfl⟩⟩
    (fun u v n i e => ⟨cl_W_s i.1 e, fun z => by
      have d := cl_dep_s ok e
      have r := cl_root_s e
      rw [← d, ← r]
      exact i.2 (z.trans d.symm)⟩)
    (fun u v n i hu hv e c => ⟨cl_W_b i.1 hu hv e c, fun z => Or.inr ⟨v, u, hv, hu, rfl, gp_bs_y e, by
      have d1 := cl_dep_le i.1
      have d2 := cl_dep_b ok hu hv e
      omega⟩⟩)
  exact k.2 rfl
theorem cl_dep_par {b : Nat → Int32} (ok : cl_ok b) {p : Nat} (hp : p < 196) : (b p = 0 ↔ cl_dep b p % 2 = 0) := by
  have k := cl_dep_W ok hp (fun p n => b p = 0 ↔ n % 2 = 0) ⟨fun _ => rfl, fun _ => ok.2 0 (by decide)⟩
    (fun u v n i e => by rw [← e.2.2.1]; exact i)
    (fun u v n i _ _ _ c => by
      have h01 : (0 : Int32) ≠ 1 := by decide
      rcases ok.1 u with hu | hu <;> rcases ok.1 v with hv | hv
      · exact absurd (hu.trans hv.symm) c
      · have := i.mp hu
        exact ⟨fun z => absurd (z.symm.trans hv) h01, fun z => by omega⟩
      · have : ¬ n % 2 = 0 := fun z => h01 ((i.mpr z).symm.trans hu)
        exact ⟨fun _ => by omega, fun _ => hv⟩
      · exact absurd (hu.trans hv.symm) c)
  exact k
