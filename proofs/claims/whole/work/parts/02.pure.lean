/-! the pure side: counts, rows, images, one move -/
abbrev ov_S : Type := (Nat → Int32) × (Nat → Int32) × Nat
def ov_k (P : Nat → Bool) : Nat → Nat
  | 0 => 0
  | p + 1 => ov_k P p + (if P p = true then 1 else 0)
def ov_n (T : Nat → Int32) (a : Nat) : Nat → Nat
  | 0 => 0
  | k + 1 => ov_n T a k + (if T (a + k) = 0 then 0 else 1)
theorem ov_k_s (P : Nat → Bool) (p : Nat) : ov_k P (p + 1) = ov_k P p + (if P p = true then 1 else 0) := rfl
theorem ov_n_s (T : Nat → Int32) (a k : Nat) : ov_n T a (k + 1) = ov_n T a k + (if T (a + k) = 0 then 0 else 1) := rfl
theorem ov_k_t {P : Nat → Bool} {p : Nat} (h : P p = true) : ov_k P (p + 1) = ov_k P p + 1 := by
  rw [ov_k_s, if_pos h]
theorem ov_k_f {P : Nat → Bool} {p : Nat} (h : P p = false) : ov_k P (p + 1) = ov_k P p := by
  rw [ov_k_s, h, if_neg (by decide), Nat.add_zero]
theorem ov_n_0 {T : Nat → Int32} {a k : Nat} (h : T (a + k) = 0) : ov_n T a (k + 1) = ov_n T a k := by
  rw [ov_n_s, if_pos h, Nat.add_zero]
theorem ov_n_1 {T : Nat → Int32} {a k : Nat} (h : ¬ T (a + k) = 0) : ov_n T a (k + 1) = ov_n T a k + 1 := by
  rw [ov_n_s, if_neg h]
theorem ov_k_skip {P : Nat → Bool} {a : Nat} : ∀ k, (∀ j, a ≤ j → j < a + k → P j = false) → ov_k P (a + k) = ov_k P a := by
  intro k
  induction k with
  | zero => intro _; rfl
  | succ k ih =>
    intro h
    rw [← Nat.add_assoc, ov_k_f (h (a + k) (by omega) (by omega))]
    exact ih (fun j h1 h2 => h j h1 (by omega))
theorem ov_k_to {P : Nat → Bool} {a b : Nat} (hab : a ≤ b) (h : ∀ j, a ≤ j → j < b → P j = false) : ov_k P b = ov_k P a := by
  obtain ⟨k, rfl⟩ : ∃ k, b = a + k := ⟨b - a, by omega⟩
  exact ov_k_skip k h
theorem ov_k_row {P : Nat → Bool} {T : Nat → Int32} {a : Nat} : ∀ k, (∀ j, a ≤ j → j < a + k → (P j = true ↔ ¬ T j = 0)) → ov_k P (a + k) = ov_k P a + ov_n T a k := by
  intro k
  induction k with
  | zero => intro _; rfl
  | succ k ih =>
    intro h
    have e := h (a + k) (by omega) (by omega)
    have i := ih (fun j h1 h2 => h j h1 (by omega))
    rw [← Nat.add_assoc]
    by_cases z : T (a + k) = 0
    · have q : P (a + k) = false := by
        cases hq : P (a + k) with
        | false => rfl
        | true => exact absurd z (e.mp hq)
      rw [ov_k_f q, ov_n_0 z, i]
    · rw [ov_k_t (e.mpr z), ov_n_1 z, i, Nat.add_assoc]
theorem ov_k_mono {P : Nat → Bool} {a : Nat} : ∀ k, ov_k P a ≤ ov_k P (a + k) := by
  intro k
  induction k with
  | zero => exact Nat.le_refl _
  | succ k ih =>
    rw [← Nat.add_assoc, ov_k_s]
    omega
theorem ov_k_le (P : Nat → Bool) : ∀ p, ov_k P p ≤ p := by
  intro p
  induction p with
  | zero => exact Nat.le_refl _
  | succ p ih =>
    rw [ov_k_s]
    split <;> omega
theorem ov_n_le (T : Nat → Int32) (a : Nat) : ∀ k, ov_n T a k ≤ k := by
  intro k
  induction k with
  | zero => exact Nat.le_refl _
  | succ k ih =>
    rw [ov_n_s]
    split <;> omega
theorem ov_k_seg {P : Nat → Bool} {T : Nat → Int32} {a w : Nat} (c : Prop) [Decidable c] (hc : c → ∀ j, a ≤ j → j < a + w → j < 85 → P j = false) (hn : ¬ c → ∀ j, a ≤ j → j < a + w → j < 85 → (P j = true ↔ ¬ T j = 0)) : ov_k P (min 85 a + min w (85 - a)) = ov_k P (min 85 a) + (if c then 0 else ov_n T a (min w (85 - a))) := by
  by_cases h : a < 85
  · rw [show min 85 a = a by omega]
    by_cases z : c
    · rw [if_pos z, Nat.add_zero]
      exact ov_k_skip _ (fun j h1 h2 => hc z j h1 (by omega) (by omega))
    · rw [if_neg z]
      exact ov_k_row _ (fun j h1 h2 => hn z j h1 (by omega) (by omega))
  · rw [show min w (85 - a) = 0 by omega]
    split <;> rfl
/-- where the path p goes when f goes to t: 85 beyond the paths, 86 not at all -/
def ov_c (f t p : Nat) : Nat :=
  if p = f then t
  else if 4 * f + 1 ≤ p ∧ p < 4 * f + 5 then (if t < 21 then 4 * t + 1 + (p - (4 * f + 1)) else 85)
  else if 16 * f + 5 ≤ p ∧ p < 16 * f + 21 then (if t < 5 then 16 * t + 5 + (p - (16 * f + 5)) else 85)
  else 86
theorem ov_c_0 (f t : Nat) : ov_c f t f = t := if_pos rfl
theorem ov_c_1 {f t p : Nat} (h1 : 4 * f + 1 ≤ p) (h2 : p < 4 * f + 5) (ht : t < 21) : ov_c f t p = 4 * t + 1 + (p - (4 * f + 1)) := by
  unfold ov_c
  rw [if_neg (by omega), if_pos ⟨h1, h2⟩, if_pos ht]
theorem ov_c_1b {f t p : Nat} (h1 : 4 * f + 1 ≤ p) (h2 : p < 4 * f + 5) (ht : ¬ t < 21) : ov_c f t p = 85 := by
  unfold ov_c
  rw [if_neg (by omega), if_pos ⟨h1, h2⟩, if_neg ht]
theorem ov_c_2 {f t p : Nat} (h1 : 16 * f + 5 ≤ p) (h2 : p < 16 * f + 21) (ht : t < 5) : ov_c f t p = 16 * t + 5 + (p - (16 * f + 5)) := by
  unfold ov_c
  rw [if_neg (by omega), if_neg (by omega), if_pos ⟨h1, h2⟩, if_pos ht]
theorem ov_c_2b {f t p : Nat} (h1 : 16 * f + 5 ≤ p) (h2 : p < 16 * f + 21) (ht : ¬ t < 5) : ov_c f t p = 85 := by
  unfold ov_c
  rw [if_neg (by omega), if_neg (by omega), if_pos ⟨h1, h2⟩, if_neg ht]
theorem ov_c_n {f t p : Nat} (h0 : p ≠ f) (h1 : p < 4 * f + 1 ∨ 4 * f + 5 ≤ p) (h2 : p < 16 * f + 5 ∨ 16 * f + 21 ≤ p) : ov_c f t p = 86 := by
  unfold ov_c
  rw [if_neg h0, if_neg (by omega), if_neg (by omega)]
theorem ov_c_cases (f t p : Nat) : (p = f ∧ ov_c f t p = t) ∨ (4 * f + 1 ≤ p ∧ p < 4 * f + 5 ∧ t < 21 ∧ ov_c f t p = 4 * t + 1 + (p - (4 * f + 1))) ∨ (4 * f + 1 ≤ p ∧ p < 4 * f + 5 ∧ ¬ t < 21 ∧ ov_c f t p = 85) ∨ (16 * f + 5 ≤ p ∧ p < 16 * f + 21 ∧ t < 5 ∧ ov_c f t p = 16 * t + 5 + (p - (16 * f + 5))) ∨ (16 * f + 5 ≤ p ∧ p < 16 * f + 21 ∧ ¬ t < 5 ∧ ov_c f t p = 85) ∨ (p ≠ f ∧ (p < 4 * f + 1 ∨ 4 * f + 5 ≤ p) ∧ (p < 16 * f + 5 ∨ 16 * f + 21 ≤ p) ∧ ov_c f t p = 86) := by
  by_cases h0 : p = f
  · subst h0
    exact Or.inl ⟨rfl, ov_c_0 _ _⟩
  · by_cases h1 : 4 * f + 1 ≤ p ∧ p < 4 * f + 5
    · by_cases ht : t < 21
      · exact Or.inr (Or.inl ⟨h1.1, h1.2, ht, ov_c_1 h1.1 h1.2 ht⟩)
      · exact Or.inr (Or.inr (Or.inl ⟨h1.1, h1.2, ht, ov_c_1b h1.1 h1.2 ht⟩))
    · by_cases h2 : 16 * f + 5 ≤ p ∧ p < 16 * f + 21
      · by_cases ht : t < 5
        · exact Or.inr (Or.inr (Or.inr (Or.inl ⟨h2.1, h2.2, ht, ov_c_2 h2.1 h2.2 ht⟩)))
        · exact Or.inr (Or.inr (Or.inr (Or.inr (Or.inl ⟨h2.1, h2.2, ht, ov_c_2b h2.1 h2.2 ht⟩))))
      · have a1 : p < 4 * f + 1 ∨ 4 * f + 5 ≤ p := by omega
        have a2 : p < 16 * f + 5 ∨ 16 * f + 21 ≤ p := by omega
        exact Or.inr (Or.inr (Or.inr (Or.inr (Or.inr ⟨h0, a1, a2, ov_c_n h0 a1 a2⟩))))
theorem ov_c_le {f t p : Nat} (ht : t < 85) : ov_c f t p ≤ 86 := by
  have h := ov_c_cases f t p
  omega
/-- the step of the images: none above, none here -/
theorem ov_c_s0 {f t p : Nat} (hf : 1 ≤ f) (hp : p < 85) (h0 : 0 < p) (hpf : p ≠ f) (h : ov_c f t ((p - 1) / 4) = 86) (ht : t < 85) : ov_c f t p = 86 := by
  have h1 := ov_c_cases f t p
  have h2 := ov_c_cases f t ((p - 1) / 4)
  rw [h] at h2
  omega
theorem ov_c_s1 {f t p c : Nat} (hf : 1 ≤ f) (hp : p < 85) (h0 : 0 < p) (hpf : p ≠ f) (ht : t < 85) (h : ov_c f t ((p - 1) / 4) = c) (hc : c ≠ 86) : ov_c f t p = if 84 < 4 * c + (p - 1) % 4 + 1 then 85 else 4 * c + (p - 1) % 4 + 1 := by
  have h1 := ov_c_cases f t p
  have h2 := ov_c_cases f t ((p - 1) / 4)
  rw [h] at h2
  split <;> omega
