section
/-! base rows: from kit/rows (PURE-ROWS), pasted -/
theorem pk_us {f : Nat → Int32} {k : Nat} {x : Int32} : upd f k x k = x := if_pos rfl
theorem pk_un {f : Nat → Int32} {k j : Nat} {x : Int32} (h : j ≠ k) : upd f k x j = f j := if_neg h
theorem pk_sub {a b : Nat} (h : b ≤ a) : nI a - nI b = nI (a - b) := by
  obtain ⟨c, rfl⟩ : ∃ c, a = c + b := ⟨a - b, by omega⟩
  rw [← nI_add, Int32.add_sub_cancel, Nat.add_sub_cancel]
theorem pk_m1 (n : Nat) : nI (n + 1) + (-1) = nI n := by
  rw [← nI_1, Int32.add_assoc, show (1 : Int32) + (-1) = 0 from rfl, Int32.add_zero]
theorem pk_mul (a b : Nat) : nI a * nI b = nI (a * b) := (Int32.ofNat_mul a b).symm
theorem pk_div {a d : Nat} (ha : a < 2 ^ 31) (h0 : 0 < d) (hd : d < 2 ^ 31) : nI a / nI d = nI (a / d) := by
  apply Int32.toInt_inj.mp
  rw [lg_idiv_nonneg (by rw [nI_toInt ha]; omega) (by rw [nI_toInt hd]; omega), nI_toInt ha, nI_toInt hd, nI_toInt (Nat.lt_of_le_of_lt (Nat.div_le_self a d) ha)]
  first | rfl | exact (Int.natCast_ediv _ _).symm
theorem pk_rem {a d : Nat} (ha : a < 2 ^ 31) (h0 : 0 < d) (hd : d < 2 ^ 31) : nI a - nI a / nI d * nI d = nI (a % d) := by
  rw [pk_div ha h0 hd, pk_mul, pk_sub (Nat.div_mul_le_self a d)]
  exact congrArg nI (by have := Nat.div_add_mod' a d; omega)
theorem pk_ix (x : Int32) {n : Nat} (hn : n < 2 ^ 31) : x < 0 ∨ nI n ≤ x ∨ ∃ j : Nat, j < n ∧ x = nI j := by
  by_cases h : x < 0
  · exact Or.inl h
  · obtain ⟨j, hj, rfl⟩ := nI_of h
    by_cases h2 : j < n
    · exact Or.inr (Or.inr ⟨j, h2, rfl⟩)
    · exact Or.inr (Or.inl (nI_le (by omega) hj))
theorem pk_le {x y : Int32} {A B : Prop} (a b : Nat) (f : a ≤ b → A) (g : b < a → B) (hx : x = nI a := by rfl) (hy : y = nI b := by rfl) (ha : a < 2 ^ 31 := by omega) (hb : b < 2 ^ 31 := by omega) : (x ≤ y → A) ∧ (¬ x ≤ y → B) := by
  subst hx hy
  rw [nI_leI ha hb]
  exact ⟨f, fun z => g (by omega)⟩
theorem pk_lt {x y : Int32} {A B : Prop} (a b : Nat) (f : a < b → A) (g : b ≤ a → B) (hx : x = nI a := by rfl) (hy : y = nI b := by rfl) (ha : a < 2 ^ 31 := by omega) (hb : b < 2 ^ 31 := by omega) : (x < y → A) ∧ (¬ x < y → B) := by
  subst hx hy
  rw [nI_ltI ha hb]
  exact ⟨f, fun z => g (by omega)⟩
theorem pk_eq {x y : Int32} {A B : Prop} (a b : Nat) (f : a = b → A) (g : a ≠ b → B) (hx : x = nI a := by rfl) (hy : y = nI b := by rfl) (ha : a < 2 ^ 31 := by omega) (hb : b < 2 ^ 31 := by omega) : (x = y → A) ∧ (¬ x = y → B) := by
  subst hx hy
  rw [nI_eq ha hb]
  exact ⟨f, g⟩
theorem pk_in {x : Int32} (n N : Nat) (h : n < N) (hx : x = nI n := by rfl) (hN : N < 2 ^ 31 := by omega) : vp_in x N := by
  subst hx
  exact vp_in_nI h hN
theorem pk_cl {x : Int32} (n : Nat) (hx : x = nI n := by rfl) (h : n < 2 ^ 31 := by omega) : x.toNatClampNeg = n := by
  subst hx
  exact nI_clamp h
/-! own small numbers -/
theorem ov_sub1 {p : Nat} (h : 1 ≤ p) : nI p - 1 = nI (p - 1) := pk_sub (a := p) (b := 1) h
theorem ov_par {p : Nat} (h : 1 ≤ p) (h2 : p < 2 ^ 31) : (nI p - 1) / 4 = nI ((p - 1) / 4) := by
  rw [ov_sub1 h]
  exact pk_div (a := p - 1) (d := 4) (by omega) (by decide) (by decide)
theorem ov_85l (l : Nat) : nI l * 85 = nI (85 * l) := by
  rw [Nat.mul_comm]
  exact pk_mul l 85
theorem ov_l85 (l : Nat) : 85 * nI l = nI (85 * l) := pk_mul 85 l
theorem ov_4m (l : Nat) : 4 * nI l = nI (4 * l) := pk_mul 4 l
theorem ov_m4 (l : Nat) : nI l * 4 = nI (l * 4) := pk_mul l 4
theorem ov_eq0 {a : Nat} (h : a < 2 ^ 31) : nI a = 0 ↔ a = 0 := nI_eq (b := 0) h (by decide)
theorem ov_le0 {a : Nat} (h : a < 2 ^ 31) : nI a ≤ 0 ↔ a = 0 := by
  have e := nI_leI (a := a) (b := 0) h (by decide)
  exact e.trans ⟨fun z => by omega, fun z => by omega⟩
theorem ov_m1neg : (-1 : Int32) < 0 := by decide
theorem ov_m1nn : ¬ (0 : Int32) ≤ -1 := by decide
end
section
/-! the pure side: counts, rows, images, one move -/
abbrev ov_S : Type := (Nat → Int32) × (Nat → Int32) × Nat
def ov_k (P : Nat → Bool) : Nat → Nat
  | 0 => 0
  | p + 1 => ov_k P p + (if P p = true then 1 else 0)
def ov_n (T : Nat → Int32) (a : Nat) : Nat → Nat
  | 0 => 0
  | k + 1 => ov_n T a k + (if T (a + k) = 0 then 0 else 1)
theorem ov_k_s (P : Nat → Bool) (p : Nat) : ov_k P (p + 1) = ov_k P p + (if P p = true then 1 else 0) := rfl
theorem ov_n_s (T : Nat → Int32) (a k : Nat) : ov_n T a (k + 1) = ov_n T a k + (if T (a + k) = 0 then 0 else 1) := rfl
theorem ov_k_t {P : Nat → Bool} {p : Nat} (h : P p = true) : ov_k P (p + 1) = ov_k P p + 1 := by
  rw [ov_k_s, if_pos h]
theorem ov_k_f {P : Nat → Bool} {p : Nat} (h : P p = false) : ov_k P (p + 1) = ov_k P p := by
  rw [ov_k_s, h, if_neg (by decide), Nat.add_zero]
theorem ov_n_0 {T : Nat → Int32} {a k : Nat} (h : T (a + k) = 0) : ov_n T a (k + 1) = ov_n T a k := by
  rw [ov_n_s, if_pos h, Nat.add_zero]
theorem ov_n_1 {T : Nat → Int32} {a k : Nat} (h : ¬ T (a + k) = 0) : ov_n T a (k + 1) = ov_n T a k + 1 := by
  rw [ov_n_s, if_neg h]
theorem ov_k_skip {P : Nat → Bool} {a : Nat} : ∀ k, (∀ j, a ≤ j → j < a + k → P j = false) → ov_k P (a + k) = ov_k P a := by
  intro k
  induction k with
  | zero => intro _; rfl
  | succ k ih =>
    intro h
    rw [← Nat.add_assoc, ov_k_f (h (a + k) (by omega) (by omega))]
    exact ih (fun j h1 h2 => h j h1 (by omega))
theorem ov_k_to {P : Nat → Bool} {a b : Nat} (hab : a ≤ b) (h : ∀ j, a ≤ j → j < b → P j = false) : ov_k P b = ov_k P a := by
  obtain ⟨k, rfl⟩ : ∃ k, b = a + k := ⟨b - a, by omega⟩
  exact ov_k_skip k h
theorem ov_k_row {P : Nat → Bool} {T : Nat → Int32} {a : Nat} : ∀ k, (∀ j, a ≤ j → j < a + k → (P j = true ↔ ¬ T j = 0)) → ov_k P (a + k) = ov_k P a + ov_n T a k := by
  intro k
  induction k with
  | zero => intro _; rfl
  | succ k ih =>
    intro h
    have e := h (a + k) (by omega) (by omega)
    have i := ih (fun j h1 h2 => h j h1 (by omega))
    rw [← Nat.add_assoc]
    by_cases z : T (a + k) = 0
    · have q : P (a + k) = false := by
        cases hq : P (a + k) with
        | false => rfl
        | true => exact absurd z (e.mp hq)
      rw [ov_k_f q, ov_n_0 z, i]
    · rw [ov_k_t (e.mpr z), ov_n_1 z, i, Nat.add_assoc]
theorem ov_k_mono {P : Nat → Bool} {a : Nat} : ∀ k, ov_k P a ≤ ov_k P (a + k) := by
  intro k
  induction k with
  | zero => exact Nat.le_refl _
  | succ k ih =>
    rw [← Nat.add_assoc, ov_k_s]
    omega
theorem ov_k_le (P : Nat → Bool) : ∀ p, ov_k P p ≤ p := by
  intro p
  induction p with
  | zero => exact Nat.le_refl _
  | succ p ih =>
    rw [ov_k_s]
    split <;> omega
theorem ov_n_le (T : Nat → Int32) (a : Nat) : ∀ k, ov_n T a k ≤ k := by
  intro k
  induction k with
  | zero => exact Nat.le_refl _
  | succ k ih =>
    rw [ov_n_s]
    split <;> omega
theorem ov_k_seg {P : Nat → Bool} {T : Nat → Int32} {a w : Nat} (c : Prop) [Decidable c] (hc : c → ∀ j, a ≤ j → j < a + w → j < 85 → P j = false) (hn : ¬ c → ∀ j, a ≤ j → j < a + w → j < 85 → (P j = true ↔ ¬ T j = 0)) : ov_k P (min 85 a + min w (85 - a)) = ov_k P (min 85 a) + (if c then 0 else ov_n T a (min w (85 - a))) := by
  by_cases h : a < 85
  · rw [show min 85 a = a by omega]
    by_cases z : c
    · rw [if_pos z, Nat.add_zero]
      exact ov_k_skip _ (fun j h1 h2 => hc z j h1 (by omega) (by omega))
    · rw [if_neg z]
      exact ov_k_row _ (fun j h1 h2 => hn z j h1 (by omega) (by omega))
  · rw [show min w (85 - a) = 0 by omega]
    split <;> rfl
/-- where the path p goes when f goes to t: 85 beyond the paths, 86 not at all -/
def ov_c (f t p : Nat) : Nat :=
  if p = f then t
  else if 4 * f + 1 ≤ p ∧ p < 4 * f + 5 then (if t < 21 then 4 * t + 1 + (p - (4 * f + 1)) else 85)
  else if 16 * f + 5 ≤ p ∧ p < 16 * f + 21 then (if t < 5 then 16 * t + 5 + (p - (16 * f + 5)) else 85)
  else 86
theorem ov_c_0 (f t : Nat) : ov_c f t f = t := if_pos rfl
theorem ov_c_1 {f t p : Nat} (h1 : 4 * f + 1 ≤ p) (h2 : p < 4 * f + 5) (ht : t < 21) : ov_c f t p = 4 * t + 1 + (p - (4 * f + 1)) := by
  unfold ov_c
  rw [if_neg (by omega), if_pos ⟨h1, h2⟩, if_pos ht]
theorem ov_c_1b {f t p : Nat} (h1 : 4 * f + 1 ≤ p) (h2 : p < 4 * f + 5) (ht : ¬ t < 21) : ov_c f t p = 85 := by
  unfold ov_c
  rw [if_neg (by omega), if_pos ⟨h1, h2⟩, if_neg ht]
theorem ov_c_2 {f t p : Nat} (h1 : 16 * f + 5 ≤ p) (h2 : p < 16 * f + 21) (ht : t < 5) : ov_c f t p = 16 * t + 5 + (p - (16 * f + 5)) := by
  unfold ov_c
  rw [if_neg (by omega), if_neg (by omega), if_pos ⟨h1, h2⟩, if_pos ht]
theorem ov_c_2b {f t p : Nat} (h1 : 16 * f + 5 ≤ p) (h2 : p < 16 * f + 21) (ht : ¬ t < 5) : ov_c f t p = 85 := by
  unfold ov_c
  rw [if_neg (by omega), if_neg (by omega), if_pos ⟨h1, h2⟩, if_neg ht]
theorem ov_c_n {f t p : Nat} (h0 : p ≠ f) (h1 : p < 4 * f + 1 ∨ 4 * f + 5 ≤ p) (h2 : p < 16 * f + 5 ∨ 16 * f + 21 ≤ p) : ov_c f t p = 86 := by
  unfold ov_c
  rw [if_neg h0, if_neg (by omega), if_neg (by omega)]
theorem ov_c_cases (f t p : Nat) : (p = f ∧ ov_c f t p = t) ∨ (4 * f + 1 ≤ p ∧ p < 4 * f + 5 ∧ t < 21 ∧ ov_c f t p = 4 * t + 1 + (p - (4 * f + 1))) ∨ (4 * f + 1 ≤ p ∧ p < 4 * f + 5 ∧ ¬ t < 21 ∧ ov_c f t p = 85) ∨ (16 * f + 5 ≤ p ∧ p < 16 * f + 21 ∧ t < 5 ∧ ov_c f t p = 16 * t + 5 + (p - (16 * f + 5))) ∨ (16 * f + 5 ≤ p ∧ p < 16 * f + 21 ∧ ¬ t < 5 ∧ ov_c f t p = 85) ∨ (p ≠ f ∧ (p < 4 * f + 1 ∨ 4 * f + 5 ≤ p) ∧ (p < 16 * f + 5 ∨ 16 * f + 21 ≤ p) ∧ ov_c f t p = 86) := by
  by_cases h0 : p = f
  · subst h0
    exact Or.inl ⟨rfl, ov_c_0 _ _⟩
  · by_cases h1 : 4 * f + 1 ≤ p ∧ p < 4 * f + 5
    · by_cases ht : t < 21
      · exact Or.inr (Or.inl ⟨h1.1, h1.2, ht, ov_c_1 h1.1 h1.2 ht⟩)
      · exact Or.inr (Or.inr (Or.inl ⟨h1.1, h1.2, ht, ov_c_1b h1.1 h1.2 ht⟩))
    · by_cases h2 : 16 * f + 5 ≤ p ∧ p < 16 * f + 21
      · by_cases ht : t < 5
        · exact Or.inr (Or.inr (Or.inr (Or.inl ⟨h2.1, h2.2, ht, ov_c_2 h2.1 h2.2 ht⟩)))
        · exact Or.inr (Or.inr (Or.inr (Or.inr (Or.inl ⟨h2.1, h2.2, ht, ov_c_2b h2.1 h2.2 ht⟩))))
      · have a1 : p < 4 * f + 1 ∨ 4 * f + 5 ≤ p := by omega
        have a2 : p < 16 * f + 5 ∨ 16 * f + 21 ≤ p := by omega
        exact Or.inr (Or.inr (Or.inr (Or.inr (Or.inr ⟨h0, a1, a2, ov_c_n h0 a1 a2⟩))))
theorem ov_c_le {f t p : Nat} (ht : t < 85) : ov_c f t p ≤ 86 := by
  have h := ov_c_cases f t p
  omega
/-- the step of the images: none above, none here -/
theorem ov_c_s0 {f t p : Nat} (hf : 1 ≤ f) (hp : p < 85) (h0 : 0 < p) (hpf : p ≠ f) (h : ov_c f t ((p - 1) / 4) = 86) (ht : t < 85) : ov_c f t p = 86 := by
  have h1 := ov_c_cases f t p
  have h2 := ov_c_cases f t ((p - 1) / 4)
  rw [h] at h2
  omega
theorem ov_c_s1 {f t p c : Nat} (hf : 1 ≤ f) (hp : p < 85) (h0 : 0 < p) (hpf : p ≠ f) (ht : t < 85) (h : ov_c f t ((p - 1) / 4) = c) (hc : c ≠ 86) : ov_c f t p = if 84 < 4 * c + (p - 1) % 4 + 1 then 85 else 4 * c + (p - 1) % 4 + 1 := by
  have h1 := ov_c_cases f t p
  have h2 := ov_c_cases f t ((p - 1) / 4)
  rw [h] at h2
  split <;> omega
end
section
/-! who is below, who would fall out, and the rows of one move -/
def ov_eP (T : Nat → Int32) (f p : Nat) : Bool := decide (0 < p ∧ ¬ T p = 0 ∧ (p - 1) / 4 = f)
def ov_tP (T : Nat → Int32) (p : Nat) : Bool := decide (0 < p ∧ ¬ T p = 0)
def ov_bP (T : Nat → Int32) (f t p : Nat) : Bool := decide (0 < p ∧ ov_c f t p = 85 ∧ ¬ T p = 0)
theorem ov_eP_f {T : Nat → Int32} {f p : Nat} (h : ¬ (0 < p ∧ ¬ T p = 0 ∧ (p - 1) / 4 = f)) : ov_eP T f p = false := by
  unfold ov_eP
  exact decide_eq_false h
theorem ov_eP_t {T : Nat → Int32} {f p : Nat} (h : 0 < p ∧ ¬ T p = 0 ∧ (p - 1) / 4 = f) : ov_eP T f p = true := by
  unfold ov_eP
  exact decide_eq_true h
theorem ov_eP_i {T : Nat → Int32} {f p : Nat} (h : ov_eP T f p = true) : 0 < p ∧ ¬ T p = 0 ∧ (p - 1) / 4 = f := by
  unfold ov_eP at h
  exact of_decide_eq_true h
theorem ov_tP_f {T : Nat → Int32} {p : Nat} (h : ¬ (0 < p ∧ ¬ T p = 0)) : ov_tP T p = false := by
  unfold ov_tP
  exact decide_eq_false h
theorem ov_tP_t {T : Nat → Int32} {p : Nat} (h : 0 < p ∧ ¬ T p = 0) : ov_tP T p = true := by
  unfold ov_tP
  exact decide_eq_true h
theorem ov_bP_f {T : Nat → Int32} {f t p : Nat} (h : ¬ (0 < p ∧ ov_c f t p = 85 ∧ ¬ T p = 0)) : ov_bP T f t p = false := by
  unfold ov_bP
  exact decide_eq_false h
theorem ov_bP_t {T : Nat → Int32} {f t p : Nat} (h : 0 < p ∧ ov_c f t p = 85 ∧ ¬ T p = 0) : ov_bP T f t p = true := by
  unfold ov_bP
  exact decide_eq_true h
theorem ov_bP_i {T : Nat → Int32} {f t p : Nat} (h : ov_bP T f t p = true) : 0 < p ∧ ov_c f t p = 85 ∧ ¬ T p = 0 := by
  unfold ov_bP at h
  exact of_decide_eq_true h
theorem ov_e_eq (T : Nat → Int32) {f : Nat} : ov_k (ov_eP T f) 85 = ov_n T (4 * f + 1) (min 4 (85 - (4 * f + 1))) := by
  have e1 : ov_k (ov_eP T f) (min 85 (4 * f + 1)) = 0 := ov_k_to (a := 0) (by omega) (fun j _ h2 => ov_eP_f (fun q => absurd q.2.2 (by have := q.1; omega)))
  have e2 := ov_k_seg (P := ov_eP T f) (T := T) (a := 4 * f + 1) (w := 4) False (fun z => z.elim) (fun _ j h1 h2 h3 => ⟨fun q => (ov_eP_i q).2.1, fun q => ov_eP_t ⟨by omega, q, by omega⟩⟩)
  have e3 : ov_k (ov_eP T f) 85 = ov_k (ov_eP T f) (min 85 (4 * f + 1) + min 4 (85 - (4 * f + 1))) := ov_k_to (by omega) (fun j h1 h2 => ov_eP_f (fun q => absurd q.2.2 (by omega)))
  rw [e3, e2, e1, if_neg not_false, Nat.zero_add]
theorem ov_b_eq (T : Nat → Int32) {f t : Nat} (hf : 1 ≤ f) (ht : t < 85) : ov_k (ov_bP T f t) 85 = (if t < 21 then 0 else ov_n T (4 * f + 1) (min 4 (85 - (4 * f + 1)))) + (if t < 5 then 0 else ov_n T (16 * f + 5) (min 16 (85 - (16 * f + 5)))) := by
  have no : ∀ j, ov_c f t j ≠ 85 → ov_bP T f t j = false := fun j h => ov_bP_f (fun q => h q.2.1)
  have e1 : ov_k (ov_bP T f t) (min 85 (4 * f + 1)) = 0 := ov_k_to (a := 0) (by omega) (fun j _ h2 => no j (by
    have h := ov_c_cases f t j
    omega))
  have e2 := ov_k_seg (P := ov_bP T f t) (T := T) (a := 4 * f + 1) (w := 4) (t < 21) (fun z j h1 h2 _ => no j (by rw [ov_c_1 h1 (by omega) z]; omega)) (fun z j h1 h2 _ => ⟨fun q => (ov_bP_i q).2.2, fun q => ov_bP_t ⟨by omega, ov_c_1b h1 (by omega) z, q⟩⟩)
  have e3 : ov_k (ov_bP T f t) (min 85 (16 * f + 5)) = ov_k (ov_bP T f t) (min 85 (4 * f + 1) + min 4 (85 - (4 * f + 1))) := ov_k_to (by omega) (fun j h1 h2 => no j (by
    have h := ov_c_cases f t j
    omega))
  have e4 := ov_k_seg (P := ov_bP T f t) (T := T) (a := 16 * f + 5) (w := 16) (t < 5) (fun z j h1 h2 _ => no j (by rw [ov_c_2 h1 (by omega) z]; omega)) (fun z j h1 h2 _ => ⟨fun q => (ov_bP_i q).2.2, fun q => ov_bP_t ⟨by omega, ov_c_2b h1 (by omega) z, q⟩⟩)
  have e5 : ov_k (ov_bP T f t) 85 = ov_k (ov_bP T f t) (min 85 (16 * f + 5) + min 16 (85 - (16 * f + 5))) := ov_k_to (by omega) (fun j h1 h2 => no j (by
    have h := ov_c_cases f t j
    omega))
  rw [e5, e4, e3, e2, e1, Nat.zero_add]
/-- a file's value is the same on both sides; what is no file has the value 0 on the one side -/
def ov_W (T W Z : Nat → Int32) : Prop := ∀ j, (T j = 1 → Z j = W j) ∧ (¬ T j = 1 → W j = 0)
theorem ov_W_mv {T W Z : Nat → Int32} (h : ov_W T W Z) (p i : Nat) : ov_W (upd (upd T i (T p)) p 0) (upd (upd W i (W p)) p 0) (upd Z i (Z p)) := by
  intro j
  by_cases hp : j = p
  · subst hp
    rw [pk_us, pk_us]
    exact ⟨fun z => absurd z (by decide), fun _ => rfl⟩
  · rw [pk_un hp, pk_un hp]
    by_cases hi : j = i
    · subst hi
      rw [pk_us, pk_us, pk_us]
      exact h p
    · rw [pk_un hi, pk_un hi, pk_un hi]
      exact h j
theorem ov_W_file {T W Z : Nat → Int32} (h : ov_W T W Z) (p : Nat) (x : Int32) : ov_W (upd T p 1) (upd W p x) (upd Z p x) := by
  intro j
  by_cases hp : j = p
  · subst hp
    rw [pk_us, pk_us, pk_us]
    exact ⟨fun _ => rfl, fun z => absurd rfl z⟩
  · rw [pk_un hp, pk_un hp, pk_un hp]
    exact h j
theorem ov_W_other {T W Z : Nat → Int32} (h : ov_W T W Z) (p : Nat) {s : Int32} (hs : ¬ s = 1) : ov_W (upd T p s) (upd W p 0) Z := by
  intro j
  by_cases hp : j = p
  · subst hp
    rw [pk_us, pk_us]
    exact ⟨fun z => absurd z hs, fun _ => rfl⟩
  · rw [pk_un hp, pk_un hp]
    exact h j
theorem ov_W_write {T W Z : Nat → Int32} (h : ov_W T W Z) (p : Nat) (x : Int32) (hT : T p = 1) : ov_W T (upd W p x) (upd Z p x) := by
  intro j
  by_cases hp : j = p
  · subst hp
    rw [pk_us, pk_us]
    exact ⟨fun _ => rfl, fun z => absurd hT z⟩
  · rw [pk_un hp, pk_un hp]
    exact h j
def ov_x (p i : Nat) (s : ov_S) : ov_S := if s.1 p = 0 then s else (upd (upd s.1 i (s.1 p)) p 0, upd (upd s.2.1 i (s.2.1 p)) p 0, s.2.2 + 1)
def ov_y (p i : Nat) (s : ov_S) : ov_S := if s.1 p = 0 then s else (upd (upd s.1 i (s.1 p)) p 0, upd s.2.1 i (s.2.1 p), s.2.2 + 1)
theorem ov_x_0 {p i : Nat} {s : ov_S} (h : s.1 p = 0) : ov_x p i s = s := by
  unfold ov_x
  exact if_pos h
theorem ov_x_1 {p i : Nat} {s : ov_S} (h : ¬ s.1 p = 0) : ov_x p i s = (upd (upd s.1 i (s.1 p)) p 0, upd (upd s.2.1 i (s.2.1 p)) p 0, s.2.2 + 1) := by
  unfold ov_x
  exact if_neg h
theorem ov_y_0 {p i : Nat} {s : ov_S} (h : s.1 p = 0) : ov_y p i s = s := by
  unfold ov_y
  exact if_pos h
theorem ov_y_1 {p i : Nat} {s : ov_S} (h : ¬ s.1 p = 0) : ov_y p i s = (upd (upd s.1 i (s.1 p)) p 0, upd s.2.1 i (s.2.1 p), s.2.2 + 1) := by
  unfold ov_y
  exact if_neg h
def ov_xr (a b : Nat) : Nat → ov_S → ov_S
  | 0, s => s
  | k + 1, s => ov_x (a + k) (b + k) (ov_xr a b k s)
def ov_yr (a b : Nat) : Nat → ov_S → ov_S
  | 0, s => s
  | k + 1, s => ov_y (a + k) (b + k) (ov_yr a b k s)
theorem ov_xr_s (a b k : Nat) (s : ov_S) : ov_xr a b (k + 1) s = ov_x (a + k) (b + k) (ov_xr a b k s) := rfl
theorem ov_yr_s (a b k : Nat) (s : ov_S) : ov_yr a b (k + 1) s = ov_y (a + k) (b + k) (ov_yr a b k s) := rfl
def ov_R (x y : ov_S) : Prop := x.1 = y.1 ∧ x.2.2 = y.2.2 ∧ ov_W x.1 x.2.1 y.2.1
theorem ov_R_s {x y : ov_S} (h : ov_R x y) (p i : Nat) : ov_R (ov_x p i x) (ov_y p i y) := by
  obtain ⟨T, W, c⟩ := x
  obtain ⟨T2, Z, c2⟩ := y
  have h1 : T = T2 := h.1
  have h2 : c = c2 := h.2.1
  have h3 : ov_W T W Z := h.2.2
  subst h1 h2
  by_cases z : T p = 0
  · rw [ov_x_0 (s := (T, W, c)) z, ov_y_0 (s := (T, Z, c)) z]
    exact h
  · rw [ov_x_1 (s := (T, W, c)) z, ov_y_1 (s := (T, Z, c)) z]
    exact ⟨rfl, rfl, ov_W_mv h3 p i⟩
theorem ov_R_r {x y : ov_S} (h : ov_R x y) (a b : Nat) : ∀ k, ov_R (ov_xr a b k x) (ov_yr a b k y) := by
  intro k
  induction k with
  | zero => exact h
  | succ k ih => exact ov_R_s ih _ _
/-- the count of a row adds to the count before it -/
def ov_ad (c : Nat) (s : ov_S) : ov_S := (s.1, s.2.1, c + s.2.2)
theorem ov_x_ad (c p i : Nat) (s : ov_S) : ov_x p i (ov_ad c s) = ov_ad c (ov_x p i s) := by
  by_cases z : s.1 p = 0
  · rw [ov_x_0 z, ov_x_0 (s := ov_ad c s) z]
  · rw [ov_x_1 z, ov_x_1 (s := ov_ad c s) z]
    rfl
theorem ov_xr_ad (c a b : Nat) (s : ov_S) : ∀ k, ov_xr a b k (ov_ad c s) = ov_ad c (ov_xr a b k s) := by
  intro k
  induction k with
  | zero => rfl
  | succ k ih => rw [ov_xr_s, ov_xr_s, ih, ov_x_ad]
/-- the reference's one loop over all paths -/
def ov_yl (f t : Nat) : Nat → ov_S → ov_S
  | 0, s => s
  | p + 1, s => if 0 < p ∧ ov_c f t p < 85 then ov_y p (ov_c f t p) (ov_yl f t p s) else ov_yl f t p s
theorem ov_yl_s (f t p : Nat) (s : ov_S) : ov_yl f t (p + 1) s = if 0 < p ∧ ov_c f t p < 85 then ov_y p (ov_c f t p) (ov_yl f t p s) else ov_yl f t p s := rfl
theorem ov_yl_t {f t p : Nat} {s : ov_S} (h : 0 < p) (h2 : ov_c f t p < 85) : ov_yl f t (p + 1) s = ov_y p (ov_c f t p) (ov_yl f t p s) := by
  rw [ov_yl_s, if_pos ⟨h, h2⟩]
theorem ov_yl_f {f t p : Nat} {s : ov_S} (h : ¬ (0 < p ∧ ov_c f t p < 85)) : ov_yl f t (p + 1) s = ov_yl f t p s := by
  rw [ov_yl_s, if_neg h]
theorem ov_yl_skip {f t a : Nat} {s : ov_S} : ∀ k, (∀ j, a ≤ j → j < a + k → ¬ (0 < j ∧ ov_c f t j < 85)) → ov_yl f t (a + k) s = ov_yl f t a s := by
  intro k
  induction k with
  | zero => intro _; rfl
  | succ k ih =>
    intro h
    rw [← Nat.add_assoc, ov_yl_f (h (a + k) (by omega) (by omega))]
    exact ih (fun j h1 h2 => h j h1 (by omega))
theorem ov_yl_to {f t a b : Nat} {s : ov_S} (hab : a ≤ b) (h : ∀ j, a ≤ j → j < b → ¬ (0 < j ∧ ov_c f t j < 85)) : ov_yl f t b s = ov_yl f t a s := by
  obtain ⟨k, rfl⟩ : ∃ k, b = a + k := ⟨b - a, by omega⟩
  exact ov_yl_skip k h
theorem ov_yl_row {f t a b : Nat} {s : ov_S} (ha : 0 < a) : ∀ k, (∀ j, j < k → ov_c f t (a + j) = b + j ∧ b + j < 85) → ov_yl f t (a + k) s = ov_yr a b k (ov_yl f t a s) := by
  intro k
  induction k with
  | zero => intro _; rfl
  | succ k ih =>
    intro h
    have e := h k (by omega)
    rw [← Nat.add_assoc, ov_yl_t (by omega) (by rw [e.1]; exact e.2), e.1, ih (fun j hj => h j (by omega)), ov_yr_s]
theorem ov_yl_seg {f t a b w : Nat} {s : ov_S} (ha : 0 < a) (hb : b + w ≤ 85 ∨ 85 ≤ b) (hin : b < 85 → ∀ j, a ≤ j → j < a + w → ov_c f t j = b + (j - a)) (hout : ¬ b < 85 → ∀ j, a ≤ j → j < a + w → ov_c f t j = 85) : ov_yl f t (min 85 a + min w (85 - a)) s = ov_yr a b (min w (min (85 - a) (85 - b))) (ov_yl f t (min 85 a) s) := by
  by_cases h : a < 85
  · rw [show min 85 a = a by omega]
    by_cases z : b < 85
    · rw [show min w (min (85 - a) (85 - b)) = min w (85 - a) by omega]
      exact ov_yl_row ha _ (fun j hj => ⟨by rw [hin z (a + j) (by omega) (by omega)]; omega, by omega⟩)
    · rw [show min w (min (85 - a) (85 - b)) = 0 by omega]
      exact ov_yl_skip _ (fun j h1 h2 q => by have := hout z j h1 (by omega); omega)
  · rw [show min w (min (85 - a) (85 - b)) = 0 by omega, show min w (85 - a) = 0 by omega]
    rfl
theorem ov_yl_eq {f t : Nat} (hf : 1 ≤ f) (hf2 : f < 85) (ht : t < 85) (s : ov_S) : ov_yl f t 85 s = ov_yr (16 * f + 5) (16 * t + 5) (min 16 (min (85 - (16 * f + 5)) (85 - (16 * t + 5)))) (ov_yr (4 * f + 1) (4 * t + 1) (min 4 (min (85 - (4 * f + 1)) (85 - (4 * t + 1)))) (ov_yr f t 1 s)) := by
  have e0 : ov_yl f t f s = s := ov_yl_to (a := 0) (by omega) (fun j _ h2 q => by
    have h := ov_c_cases f t j
    have q2 := q.2
    omega)
  have e1 : ov_yl f t (f + 1) s = ov_yr f t 1 s := by
    rw [ov_yl_row (b := t) hf 1 (fun j hj => by
      have : j = 0 := by omega
      subst this
      exact ⟨ov_c_0 f t, ht⟩), e0]
  have e2 : ov_yl f t (min 85 (4 * f + 1)) s = ov_yl f t (f + 1) s := ov_yl_to (by omega) (fun j h1 h2 q => by
    have h := ov_c_cases f t j
    have q2 := q.2
    omega)
  have e3 := ov_yl_seg (f := f) (t := t) (a := 4 * f + 1) (b := 4 * t + 1) (w := 4) (s := s) (by omega) (by omega) (fun z j h1 h2 => ov_c_1 h1 (by omega) (by omega)) (fun z j h1 h2 => ov_c_1b h1 (by omega) (by omega))
  have e4 : ov_yl f t (min 85 (16 * f + 5)) s = ov_yl f t (min 85 (4 * f + 1) + min 4 (85 - (4 * f + 1))) s := ov_yl_to (by omega) (fun j h1 h2 q => by
    have h := ov_c_cases f t j
    have q2 := q.2
    omega)
  have e5 := ov_yl_seg (f := f) (t := t) (a := 16 * f + 5) (b := 16 * t + 5) (w := 16) (s := s) (by omega) (by omega) (fun z j h1 h2 => ov_c_2 h1 (by omega) (by omega)) (fun z j h1 h2 => ov_c_2b h1 (by omega) (by omega))
  have e6 : ov_yl f t 85 s = ov_yl f t (min 85 (16 * f + 5) + min 16 (85 - (16 * f + 5))) s := ov_yl_to (by omega) (fun j h1 h2 q => by
    have h := ov_c_cases f t j
    have q2 := q.2
    omega)
  rw [e6, e5, e4, e3, e2, e1]
end
section
/-! the layers: the one side holds a directory at each layer's root, the other nothing -/
def ov_top (g : Nat → Int32) : Nat → Int32 := fun j => if j = 0 ∨ j = 85 ∨ j = 170 then 2 else g j
theorem ov_top_r {g : Nat → Int32} {l : Nat} (h : l < 3) : ov_top g (85 * l) = 2 := if_pos (by omega)
theorem ov_top_p {g : Nat → Int32} {l p : Nat} (h : l < 3) (h1 : 1 ≤ p) (h2 : p < 85) : ov_top g (85 * l + p) = g (85 * l + p) := if_neg (by omega)
theorem ov_top_u {g : Nat → Int32} {l p : Nat} {x : Int32} (h : l < 3) (h1 : 1 ≤ p) (h2 : p < 85) : upd (ov_top g) (85 * l + p) x = ov_top (upd g (85 * l + p) x) := by
  funext j
  by_cases hj : j = 85 * l + p
  · subst hj
    rw [pk_us, ov_top_p h h1 h2, pk_us]
  · rw [pk_un hj]
    unfold ov_top
    rw [pk_un hj]
theorem ov_top_0 : upd (upd (upd (fun _ => 0) 0 2) 85 2) 170 2 = ov_top (fun _ => 0) := by
  funext j
  unfold ov_top upd
  by_cases h1 : j = 170
  · rw [if_pos h1, if_pos (by omega)]
  · rw [if_neg h1]
    by_cases h2 : j = 85
    · rw [if_pos h2, if_pos (by omega)]
    · rw [if_neg h2]
      by_cases h3 : j = 0
      · rw [if_pos h3, if_pos (by omega)]
      · rw [if_neg h3, if_neg (by omega)]
def ov_rng (x : Int32) : Prop := x = 0 ∨ x = 1 ∨ x = 2 ∨ x = 3 ∨ x = 4
theorem ov_rng_of {x : Int32} (h1 : ¬ x < 1) (h4 : ¬ 4 < x) : ov_rng x := by
  obtain ⟨j, hj, rfl⟩ := nI_of (x := x) (fun z => h1 (Int32.lt_trans z (by decide)))
  have a := mt (nI_lt (a := j) (b := 1)) (fun q => h1 (q (by decide)))
  have b := mt (nI_lt (a := 4) (b := j)) (fun q => h4 (q hj))
  have c : j = 1 ∨ j = 2 ∨ j = 3 ∨ j = 4 := by omega
  rcases c with rfl | rfl | rfl | rfl
  · exact Or.inr (Or.inl rfl)
  · exact Or.inr (Or.inr (Or.inl rfl))
  · exact Or.inr (Or.inr (Or.inr (Or.inl rfl)))
  · exact Or.inr (Or.inr (Or.inr (Or.inr rfl)))
theorem ov_rng_u {g : Nat → Int32} {k : Nat} {x : Int32} (h : ∀ j, ov_rng (g j)) (hx : ov_rng x) : ∀ j, ov_rng (upd g k x j) := by
  intro j
  by_cases hj : j = k
  · subst hj
    rw [pk_us]
    exact hx
  · rw [pk_un hj]
    exact h j
/-- a cover: a file, a closed directory or a hole -/
def ov_cv (x : Int32) : Prop := x = 1 ∨ x = 3 ∨ x = 4
/-- whether something above u in the layer l hides: k steps up at most -/
def ov_h (g : Nat → Int32) (l : Nat) : Nat → Nat → Prop
  | 0, _ => False
  | k + 1, u => 0 < u ∧ ((0 < (u - 1) / 4 ∧ ov_cv (g (85 * l + (u - 1) / 4))) ∨ ov_h g l k ((u - 1) / 4))
theorem ov_h_s (g : Nat → Int32) (l k u : Nat) : ov_h g l (k + 1) u ↔ 0 < u ∧ ((0 < (u - 1) / 4 ∧ ov_cv (g (85 * l + (u - 1) / 4))) ∨ ov_h g l k ((u - 1) / 4)) := Iff.rfl
theorem ov_h_0 (g : Nat → Int32) (l k : Nat) : ¬ ov_h g l k 0 := by
  cases k with
  | zero => exact fun z => z
  | succ k => exact fun z => absurd z.1 (by omega)
theorem ov_h_y {g : Nat → Int32} {l k u : Nat} (h : 0 < u) (h1 : 0 < (u - 1) / 4) (h2 : ov_cv (g (85 * l + (u - 1) / 4))) : ov_h g l (k + 1) u := ⟨h, Or.inl ⟨h1, h2⟩⟩
theorem ov_h_n {g : Nat → Int32} {l k u : Nat} (h : 0 < u) (h1 : ¬ (0 < (u - 1) / 4 ∧ ov_cv (g (85 * l + (u - 1) / 4)))) : ov_h g l (k + 1) u ↔ ov_h g l k ((u - 1) / 4) :=
  ⟨fun z => z.2.elim (fun q => absurd q h1) (fun q => q), fun z => ⟨h, Or.inr z⟩⟩
/-- whether u lies under f, k steps at most -/
def ov_u (f : Nat) : Nat → Nat → Prop
  | 0, _ => False
  | k + 1, u => 0 < u ∧ ((u - 1) / 4 = f ∨ ov_u f k ((u - 1) / 4))
theorem ov_u_0 (f k : Nat) : ¬ ov_u f k 0 := by
  cases k with
  | zero => exact fun z => z
  | succ k => exact fun z => absurd z.1 (by omega)
theorem ov_u_y {f k u : Nat} (h : 0 < u) (h1 : (u - 1) / 4 = f) : ov_u f (k + 1) u := ⟨h, Or.inl h1⟩
theorem ov_u_n {f k u : Nat} (h : 0 < u) (h1 : ¬ (u - 1) / 4 = f) : ov_u f (k + 1) u ↔ ov_u f k ((u - 1) / 4) :=
  ⟨fun z => z.2.elim (fun q => absurd q h1) (fun q => q), fun z => ⟨h, Or.inr z⟩⟩
theorem ov_u_3 (f u : Nat) : ov_u f 3 u ↔ (0 < u ∧ ((u - 1) / 4 = f ∨ (0 < (u - 1) / 4 ∧ (((u - 1) / 4 - 1) / 4 = f ∨ (0 < ((u - 1) / 4 - 1) / 4 ∧ ((((u - 1) / 4 - 1) / 4 - 1) / 4 = f ∨ False)))))) := Iff.rfl
theorem ov_u_c {f t s : Nat} (hf : 1 ≤ f) (ht : t < 85) (hs : s < 85) (h : t ≠ f) : ov_u f 3 t ↔ ov_c f s t ≠ 86 := by
  rw [ov_u_3]
  have e := ov_c_cases f s t
  constructor
  · intro z q
    rw [q] at e
    rcases z with ⟨h0, z | ⟨h2, z | ⟨h3, z | z⟩⟩⟩
    · omega
    · omega
    · omega
    · exact z
  · intro z
    by_cases h1 : (t - 1) / 4 = f
    · exact ⟨by omega, Or.inl h1⟩
    · exact ⟨by omega, Or.inr ⟨by omega, Or.inl (by omega)⟩⟩
/-- an image as the reference writes it -/
def ov_v (c : Nat) : Int32 := if c = 86 then -1 else nI c
theorem ov_v_n : ov_v 86 = -1 := if_pos rfl
theorem ov_v_c {c : Nat} (h : c ≠ 86) : ov_v c = nI c := if_neg h
end
section
/-! the component's walks, each against the pure side -/
section
variable {m : Int32} {L V T W : Nat → Int32}
theorem ov_ix (x : Int32) : (x < 0 ∨ (85 : Int32) ≤ x) ∨ ∃ j : Nat, j < 85 ∧ x = nI j := by
  rcases pk_ix x (n := 85) (by decide) with h | h | h
  · exact Or.inl (Or.inl h)
  · exact Or.inl (Or.inr h)
  · exact Or.inr h
theorem xa_below_t {post : Int32 → Prop} {j : Nat} (h1 : 1 ≤ j) (h2 : j < 85) (k : post 1) : wpX_isBelowRoot post (nI j) :=
  br_f (nI_nle h1 (by omega)) (br_f (nI_ge (b := 85) h2 (by decide)) k)
theorem xa_below_f {post : Int32 → Prop} {x : Int32} (h : x ≤ 0 ∨ (85 : Int32) ≤ x) (k : post 0) : wpX_isBelowRoot post x :=
  br_c (fun _ => k) (fun n0 => br_c (fun _ => k) (fun n85 => h.elim (fun a => absurd a n0) (fun b => absurd b n85)))
theorem xa_path_t {post : Int32 → Prop} {j : Nat} (h2 : j < 85) (k : post 1) : wpX_isPath post (nI j) :=
  br_f (nI_pos (by omega)) (br_f (nI_ge (b := 85) h2 (by decide)) k)
theorem xa_path_f {post : Int32 → Prop} {x : Int32} (h : x < 0 ∨ (85 : Int32) ≤ x) (k : post 0) : wpX_isPath post x :=
  br_c (fun _ => k) (fun n0 => br_c (fun _ => k) (fun n85 => h.elim (fun a => absurd a n0) (fun b => absurd b n85)))
theorem xa_par {post : Int32 → Prop} {j : Nat} (h1 : 1 ≤ j) (h2 : j < 2 ^ 31) (k : post (nI ((j - 1) / 4))) : wpX_parentOf post (nI j) := by
  unfold wpX_parentOf
  rw [ov_par h1 h2]
  exact ⟨by decide, k⟩
theorem xa_first {post : Int32 → Prop} {j : Nat} (k : post (nI (4 * j + 1))) : wpX_firstBelow post (nI j) := by
  unfold wpX_firstBelow
  rw [ov_4m, nI_1]
  exact k
theorem xa_any_t {post : Int32 → Prop} {x : Int32} (h : x = 2 ∨ x = 3) (k : post 1) : wpX_isAnyDirectory post x :=
  br_c (fun _ => k) (fun n2 => br_c (fun _ => k) (fun n3 => h.elim (fun a => absurd a n2) (fun b => absurd b n3)))
theorem xa_any_f {post : Int32 → Prop} {x : Int32} (h2 : ¬ x = 2) (h3 : ¬ x = 3) (k : post 0) : wpX_isAnyDirectory post x :=
  br_f h2 (br_f h3 k)
theorem xa_put {post : SX → Prop} {j : Nat} (hj : j < 85) {s v : Int32} (k : post (m, L, V, upd T j s, upd W j v)) : wpX_put post (m, L, V, T, W) (nI j) s v := by
  have c : (nI j).toNatClampNeg = j := nI_clamp (by omega)
  unfold wpX_put
  dsimp only
  rw [c]
  exact ⟨vp_in_nI hj (by decide), nm_e ⟨vp_in_nI hj (by decide), nm_e k⟩⟩
/-- something may be put there -/
def ov_vac (m : Int32) (T : Nat → Int32) (j : Nat) : Prop := ¬ m = 0 ∧ 1 ≤ j ∧ T j = 0 ∧ T ((j - 1) / 4) = 2
/-- something is there, and it is not the root -/
def ov_tak (m : Int32) (T : Nat → Int32) (j : Nat) : Prop := ¬ m = 0 ∧ 1 ≤ j ∧ ¬ T j = 0
theorem xa_vac_o {post : Int32 → Prop} {x : Int32} (h : x < 0 ∨ (85 : Int32) ≤ x) (k : post 0) : wpX_isVacant post (m, L, V, T, W) x := by
  unfold wpX_isVacant
  exact br_c (fun _ => k) (fun _ => xa_below_f (h.elim (fun a => Or.inl (Int32.le_of_lt a)) Or.inr) (br_t rfl k))
theorem xa_vac {post : Int32 → Prop} {j : Nat} (hj : j < 85) (k1 : ov_vac m T j → post 1) (k0 : ¬ ov_vac m T j → post 0) : wpX_isVacant post (m, L, V, T, W) (nI j) := by
  have c : (nI j).toNatClampNeg = j := nI_clamp (by omega)
  have c2 : (nI ((j - 1) / 4)).toNatClampNeg = (j - 1) / 4 := nI_clamp (by omega)
  unfold wpX_isVacant
  dsimp only
  rw [c]
  refine br_c (fun z => k0 (fun q => q.1 z)) (fun z => ?_)
  by_cases h : 1 ≤ j
  · refine xa_below_t h hj (br_f (by decide) ⟨vp_in_nI hj (by decide), br_c (fun y => xa_par h (by omega) ?_) (fun y => k0 (fun q => y q.2.2.1))⟩)
    rw [c2]
    exact ⟨vp_in_nI (by omega) (by decide), br_c (fun w => k1 ⟨z, h, y, w⟩) (fun w => k0 (fun q => w q.2.2.2))⟩
  · have e : j = 0 := by omega
    subst e
    exact xa_below_f (Or.inl (by decide)) (br_t rfl (k0 (fun q => absurd q.2.1 (by decide))))
theorem xa_tak_o {post : Int32 → Prop} {x : Int32} (h : x < 0 ∨ (85 : Int32) ≤ x) (k : post 0) : wpX_isTaken post (m, L, V, T, W) x := by
  unfold wpX_isTaken
  exact br_c (fun _ => k) (fun _ => xa_below_f (h.elim (fun a => Or.inl (Int32.le_of_lt a)) Or.inr) (br_t rfl k))
theorem xa_tak {post : Int32 → Prop} {j : Nat} (hj : j < 85) (k1 : ov_tak m T j → post 1) (k0 : ¬ ov_tak m T j → post 0) : wpX_isTaken post (m, L, V, T, W) (nI j) := by
  have c : (nI j).toNatClampNeg = j := nI_clamp (by omega)
  unfold wpX_isTaken
  dsimp only
  rw [c]
  refine br_c (fun z => k0 (fun q => q.1 z)) (fun z => ?_)
  by_cases h : 1 ≤ j
  · exact xa_below_t h hj (br_f (by decide) ⟨vp_in_nI hj (by decide), br_c (fun y => k0 (fun q => q.2.2 y)) (fun y => k1 ⟨z, h, y⟩)⟩)
  · have e : j = 0 := by omega
    subst e
    exact xa_below_f (Or.inl (by decide)) (br_t rfl (k0 (fun q => absurd q.2.1 (by decide))))
theorem xa_cr {post : Int32 → Prop} {a w : Nat} (ha : a < 2 ^ 20) (hw : w < 2 ^ 20) (hp : post (nI (ov_n T a (min w (85 - a))))) : ∀ n k, min w (85 - a) < n + k → k ≤ min w (85 - a) → wX_countRow_5 post (nI a) (nI w) m L V T W n (nI (ov_n T a k)) (nI (a + k)) := by
  intro n
  induction n with
  | zero => intro k h1 h2; omega
  | succ n ih =>
    intro k h1 h2
    have fin : a + w ≤ a + k ∨ 85 ≤ a + k → post (nI (ov_n T a k)) := fun h => by
      have e : k = min w (85 - a) := by omega
      rw [e]
      exact hp
    have c : (nI (a + k)).toNatClampNeg = a + k := nI_clamp (by omega)
    refine pk_le (a + w) (a + k) (fun h => fin (Or.inl h)) (fun h => pk_le 85 (a + k) (fun h' => fin (Or.inr h')) (fun h' => ⟨vp_in_nI h' (by decide), ?_⟩)) (nI_add a w)
    have i := ih (k + 1) (by omega) (by omega)
    refine br_c (fun z => ?_) (fun z => ?_)
    · rw [c] at z
      rw [ov_n_0 z] at i
      exact nm_r (nI_1 (a + k)) i
    · rw [c] at z
      rw [ov_n_1 z] at i
      exact nm_r (nI_1 _) (nm_r (nI_1 (a + k)) i)
theorem xa_row {post : Int32 → Prop} {a w : Nat} (ha : a < 2 ^ 20) (hw : w < 2 ^ 20) (hp : post (nI (ov_n T a (min w (85 - a))))) : wpX_countRow post (m, L, V, T, W) (nI a) (nI w) := by
  unfold wpX_countRow
  exact ⟨min w (85 - a) + 1, xa_cr ha hw hp _ 0 (by omega) (by omega)⟩
theorem xa_ce {post : Int32 → Prop} {f : Nat} (hf : f < 85) (hp : post (nI (ov_k (ov_eP T f) 85))) : wpX_countEntries post (m, L, V, T, W) (nI f) := by
  rw [ov_e_eq] at hp
  unfold wpX_countEntries
  dsimp only
  exact xa_first (xa_row (w := 4) (by omega) (by decide) hp)
theorem ov_t1 (T : Nat → Int32) : ov_k (ov_tP T) 1 = 0 := ov_k_f (p := 0) (ov_tP_f (fun q => absurd q.1 (by decide)))
theorem ov_e1 (T : Nat → Int32) (f : Nat) : ov_k (ov_eP T f) 1 = 0 := ov_k_f (p := 0) (ov_eP_f (fun q => absurd q.1 (by decide)))
theorem ov_b1 (T : Nat → Int32) (f t : Nat) : ov_k (ov_bP T f t) 1 = 0 := ov_k_f (p := 0) (ov_bP_f (fun q => absurd q.1 (by decide)))
theorem xa_tl {post : Int32 → Prop} (hp : post (nI (ov_k (ov_tP T) 85))) : ∀ n p, 85 < n + p → 1 ≤ p → p ≤ 85 → wX_total_4 post m L V T W n (nI (ov_k (ov_tP T) p)) (nI p) := by
  intro n
  induction n with
  | zero => intro p h1 h2 h3; omega
  | succ n ih =>
    intro p h1 h2 h3
    have c : (nI p).toNatClampNeg = p := nI_clamp (by omega)
    refine pk_le 85 p (fun h => ?_) (fun h => ⟨vp_in_nI h (by decide), ?_⟩)
    · have e : p = 85 := by omega
      rw [e]
      exact hp
    · have i := ih (p + 1) (by omega) (by omega) (by omega)
      refine br_c (fun z => ?_) (fun z => ?_)
      · rw [c] at z
        rw [ov_k_f (ov_tP_f (fun q => q.2 z))] at i
        exact nm_r (nI_1 p) i
      · rw [c] at z
        rw [ov_k_t (ov_tP_t ⟨h2, z⟩)] at i
        exact nm_r (nI_1 _) (nm_r (nI_1 p) i)
theorem xa_total {post : Int32 → Prop} (hp : post (nI (ov_k (ov_tP T) 85))) : wpX_total post (m, L, V, T, W) := by
  have i := xa_tl (m := m) (L := L) (V := V) (W := W) hp 85 1 (by omega) (by omega) (by omega)
  rw [ov_t1] at i
  unfold wpX_total
  exact ⟨85, i⟩
theorem xa_un {post : Int32 → Prop} {f : Nat} (hf : f < 85) : ∀ k n u, k ≤ 3 → k < n → u < 85 → (ov_u f k u → post 1) → (¬ ov_u f k u → post 0) → wX_isUnder_4 post (nI f) n (nI u) (nI (3 - k)) := by
  intro k
  induction k with
  | zero =>
    intro n u h1 h2 h3 k1 k0
    obtain ⟨n, rfl⟩ : ∃ n', n = n' + 1 := ⟨n - 1, by omega⟩
    exact br_t (show (3 : Int32) ≤ nI (3 - 0) from by decide) (k0 (fun z => z))
  | succ k ih =>
    intro n u h1 h2 h3 k1 k0
    obtain ⟨n, rfl⟩ : ∃ n', n = n' + 1 := ⟨n - 1, by omega⟩
    refine br_f (nI_ge (a := 3 - (k + 1)) (b := 3) (by omega) (by decide)) (pk_le u 0 (fun h => ?_) (fun h => ?_))
    · have e : u = 0 := by omega
      rw [e] at k0
      exact k0 (ov_u_0 f _)
    · refine xa_par (by omega) (by omega) ?_
      refine pk_eq ((u - 1) / 4) f (fun e => k1 (ov_u_y h e)) (fun e => ?_)
      exact nm_r ((nI_1 _).trans (congrArg nI (by omega))) (ih n ((u - 1) / 4) (by omega) (by omega) (by omega) (fun z => k1 ((ov_u_n h e).mpr z)) (fun z => k0 (fun q => z ((ov_u_n h e).mp q))))
theorem xa_under {post : Int32 → Prop} {f u : Nat} (hf : f < 85) (hu : u < 85) (k1 : ov_u f 3 u → post 1) (k0 : ¬ ov_u f 3 u → post 0) : wpX_isUnder post (nI u) (nI f) := by
  unfold wpX_isUnder
  exact ⟨4, xa_un hf 3 4 u (by omega) (by omega) hu k1 k0⟩
end
end
section
/-! the component's walks: covers, what fits, what is carried -/
section
variable {m : Int32} {g V T W : Nat → Int32}
theorem ov_cell (l q : Nat) : nI l * 85 + nI q = nI (85 * l + q) := by
  rw [ov_85l, nI_add]
theorem ov_cell2 (l q : Nat) : 85 * nI l + nI q = nI (85 * l + q) := by
  rw [ov_l85, nI_add]
theorem xa_cv {post : Int32 → Prop} {l : Nat} (hl : l < 3) : ∀ k n u, k ≤ 3 → k < n → u < 85 → (ov_h g l k u → post 1) → (¬ ov_h g l k u → post 0) → wX_isCovered_5 post (nI l) m (ov_top g) V T W n (nI u) (nI (3 - k)) := by
  intro k
  induction k with
  | zero =>
    intro n u h1 h2 h3 k1 k0
    obtain ⟨n, rfl⟩ : ∃ n', n = n' + 1 := ⟨n - 1, by omega⟩
    exact br_t (show (3 : Int32) ≤ nI (3 - 0) from by decide) (k0 (fun z => z))
  | succ k ih =>
    intro n u h1 h2 h3 k1 k0
    obtain ⟨n, rfl⟩ : ∃ n', n = n' + 1 := ⟨n - 1, by omega⟩
    refine br_f (nI_ge (a := 3 - (k + 1)) (b := 3) (by omega) (by decide)) (pk_le u 0 (fun h => ?_) (fun h => ?_))
    · have e : u = 0 := by omega
      rw [e] at k0
      exact k0 (ov_h_0 g l _)
    · refine xa_par (by omega) (by omega) ?_
      have e := ov_cell l ((u - 1) / 4)
      have c : (nI (85 * l + (u - 1) / 4)).toNatClampNeg = 85 * l + (u - 1) / 4 := nI_clamp (by omega)
      refine ⟨by rw [e]; exact vp_in_nI (by omega) (by decide), nm_r (by rw [e, c]) ?_⟩
      by_cases z : 0 < (u - 1) / 4 ∧ ov_cv (g (85 * l + (u - 1) / 4))
      · rw [ov_top_p hl z.1 (by omega)]
        have y := k1 (ov_h_y h z.1 z.2)
        exact br_c (fun _ => y) (fun n1 => br_c (fun _ => y) (fun n3 => br_c (fun _ => y) (fun n4 => absurd z.2 (fun q => q.elim n1 (fun q => q.elim n3 n4)))))
      · have nc : ¬ ov_cv (ov_top g (85 * l + (u - 1) / 4)) := by
          by_cases y : 0 < (u - 1) / 4
          · rw [ov_top_p hl y (by omega)]
            exact fun q => z ⟨y, q⟩
          · rw [show (u - 1) / 4 = 0 by omega, Nat.add_zero, ov_top_r hl]
            exact fun q => q.elim (by decide) (fun q => q.elim (by decide) (by decide))
        refine br_f (fun q => nc (Or.inl q)) (br_f (fun q => nc (Or.inr (Or.inl q))) (br_f (fun q => nc (Or.inr (Or.inr q))) ?_))
        exact nm_r ((nI_1 _).trans (congrArg nI (by omega))) (ih n ((u - 1) / 4) (by omega) (by omega) (by omega) (fun q => k1 ((ov_h_n h z).mpr q)) (fun q => k0 (fun y => q ((ov_h_n h z).mp y))))
theorem xa_cover {post : Int32 → Prop} {l u : Nat} (hl : l < 3) (hu : u < 85) (k1 : ov_h g l 3 u → post 1) (k0 : ¬ ov_h g l 3 u → post 0) : wpX_isCovered post (m, ov_top g, V, T, W) (nI l) (nI u) := by
  unfold wpX_isCovered
  exact ⟨4, xa_cv hl 3 4 u (by omega) (by omega) hu k1 k0⟩
end
section
variable {m : Int32} {L V T W : Nat → Int32}
theorem xa_f36 {post : Int32 → Prop} {J : Int32 → Int32 → Int32 → Int32 → Prop} {s t w i : Nat} (k : J (nI (4 * s + 1)) (nI (4 * t + 1)) (nI (w * 4)) (nI (i + 1))) : wX_fits_36 post J (nI s) (nI t) (nI w) (nI i) m L V T W := by
  unfold wX_fits_36
  exact xa_first (xa_first (nm_r (ov_m4 w) (nm_r (nI_1 i) k)))
theorem xa_fs {post : Int32 → Prop} {s t w i n : Nat} (hs : s < 2 ^ 20) (ht : t < 2 ^ 20) (hw : w < 2 ^ 20) (hi : i < 3) (k : (t < 85 ∨ ov_n T s (min w (85 - s)) = 0) → wX_fits_11 post m L V T W n (nI (4 * s + 1)) (nI (4 * t + 1)) (nI (w * 4)) (nI (i + 1))) (k0 : ¬ t < 85 → ¬ ov_n T s (min w (85 - s)) = 0 → post 0) : wX_fits_11 post m L V T W (n + 1) (nI s) (nI t) (nI w) (nI i) := by
  have le := ov_n_le T s (min w (85 - s))
  refine br_f (nI_ge (b := 3) hi (by decide)) (pk_lt t 85 (fun h => xa_f36 (k (Or.inl h))) (fun h => ?_))
  refine xa_row hs hw ?_
  exact pk_eq (ov_n T s (min w (85 - s))) 0 (fun z => xa_f36 (k (Or.inr z))) (fun z => k0 (by omega) z)
theorem xa_fits {post : Int32 → Prop} {f t : Nat} (hf : 1 ≤ f) (hf2 : f < 85) (ht : t < 85) (k1 : ov_k (ov_bP T f t) 85 = 0 → post 1) (k0 : ¬ ov_k (ov_bP T f t) 85 = 0 → post 0) : wpX_fits post (m, L, V, T, W) (nI f) (nI t) := by
  rw [ov_b_eq T hf ht] at k1 k0
  unfold wpX_fits
  refine ⟨4, ?_⟩
  refine xa_fs (w := 1) (i := 0) (by omega) (by omega) (by decide) (by decide) (fun _ => ?_) (fun z => absurd ht z)
  refine xa_fs (w := 4) (i := 1) (by omega) (by omega) (by decide) (by decide) (fun h1 => ?_) (fun z1 z2 => k0 ?_)
  · have e1 : 4 * (4 * f + 1) + 1 = 16 * f + 5 := by omega
    have e2 : 4 * (4 * t + 1) + 1 = 16 * t + 5 := by omega
    refine xa_fs (w := 16) (i := 2) (by omega) (by omega) (by decide) (by decide) (fun h2 => ?_) (fun z1 z2 => k0 ?_)
    · refine br_t (by decide) (k1 ?_)
      rw [e1, e2] at h2
      split <;> split <;> omega
    · rw [e1] at z2
      rw [if_neg (show ¬ t < 5 by omega)]
      omega
  · rw [if_neg (show ¬ t < 21 by omega)]
    omega
theorem xa_cy {post : Int32 → SX → Prop} {a b w : Nat} (ha : a < 2 ^ 20) (hb : b < 2 ^ 20) (hw : w < 2 ^ 20) {s0 : ov_S} (hp : post (nI (ov_xr a b (min w (min (85 - a) (85 - b))) s0).2.2) (m, L, V, (ov_xr a b (min w (min (85 - a) (85 - b))) s0).1, (ov_xr a b (min w (min (85 - a) (85 - b))) s0).2.1)) : ∀ n k, min w (min (85 - a) (85 - b)) < n + k → k ≤ min w (min (85 - a) (85 - b)) → wX_carryRow_6 post (nI a) (nI b) (nI w) n (nI (ov_xr a b k s0).2.2) (nI k) m L V (ov_xr a b k s0).1 (ov_xr a b k s0).2.1 := by
  intro n
  induction n with
  | zero => intro k h1 h2; omega
  | succ n ih =>
    intro k h1 h2
    have fin : w ≤ k ∨ 85 ≤ a + k ∨ 85 ≤ b + k → post (nI (ov_xr a b k s0).2.2) (m, L, V, (ov_xr a b k s0).1, (ov_xr a b k s0).2.1) := fun h => by
      have e : k = min w (min (85 - a) (85 - b)) := by omega
      rw [e]
      exact hp
    have i := ih (k + 1)
    rw [ov_xr_s] at i
    generalize ov_xr a b k s0 = s at fin i
    obtain ⟨T, W, c⟩ := s
    refine pk_le w k (fun h => fin (Or.inl h)) (fun h => pk_le 85 (a + k) (fun h' => fin (Or.inr (Or.inl h'))) (fun h' => pk_le 85 (b + k) (fun q => fin (Or.inr (Or.inr q))) (fun q => ?_) rfl (nI_add b k)) rfl (nI_add a k))
    have ca : (nI (a + k)).toNatClampNeg = a + k := nI_clamp (by omega)
    rw [nI_add a k, nI_add b k, ca]
    refine ⟨vp_in_nI h' (by decide), br_c (fun z => ?_) (fun z => ?_)⟩
    · have j := i (by omega) (by omega)
      rw [ov_x_0 (s := (T, W, c)) z] at j
      exact nm_r (nI_1 k) j
    · have j := i (by omega) (by omega)
      rw [ov_x_1 (s := (T, W, c)) z] at j
      refine ⟨vp_in_nI h' (by decide), vp_in_nI h' (by decide), xa_put q ?_⟩
      refine xa_put h' ?_
      exact nm_r (nI_1 c) (nm_r (nI_1 k) j)
theorem xa_cw {post : Int32 → SX → Prop} {a b w : Nat} (ha : a < 2 ^ 20) (hb : b < 2 ^ 20) (hw : w < 2 ^ 20) (hp : post (nI (ov_xr a b (min w (min (85 - a) (85 - b))) (T, W, 0)).2.2) (m, L, V, (ov_xr a b (min w (min (85 - a) (85 - b))) (T, W, 0)).1, (ov_xr a b (min w (min (85 - a) (85 - b))) (T, W, 0)).2.1)) : wpX_carryRow post (m, L, V, T, W) (nI a) (nI b) (nI w) := by
  unfold wpX_carryRow
  exact ⟨min w (min (85 - a) (85 - b)) + 1, xa_cy ha hb hw hp _ 0 (by omega) (by omega)⟩
theorem xa_ct {post : Int32 → SX → Prop} {a b w i n : Nat} (ha : a < 2 ^ 20) (hb : b < 2 ^ 20) (hw : w < 2 ^ 20) (hi : i < 3) (s : ov_S) (k : wX_carry_14 post n (nI (4 * a + 1)) (nI (4 * b + 1)) (nI (w * 4)) (nI (ov_xr a b (min w (min (85 - a) (85 - b))) s).2.2) (nI (i + 1)) m L V (ov_xr a b (min w (min (85 - a) (85 - b))) s).1 (ov_xr a b (min w (min (85 - a) (85 - b))) s).2.1) : wX_carry_14 post (n + 1) (nI a) (nI b) (nI w) (nI s.2.2) (nI i) m L V s.1 s.2.1 := by
  obtain ⟨T, W, c⟩ := s
  have e : ov_xr a b (min w (min (85 - a) (85 - b))) (T, W, c) = ov_ad c (ov_xr a b (min w (min (85 - a) (85 - b))) (T, W, 0)) := ov_xr_ad c a b (T, W, 0) _
  rw [e] at k
  refine br_f (nI_ge (b := 3) hi (by decide)) (xa_cw ha hb hw ?_)
  exact nm_r (nI_add _ _) (xa_first (xa_first (nm_r (ov_m4 w) (nm_r (nI_1 i) k))))
/-- all that is carried, as one state -/
def ov_mx (f t : Nat) (s : ov_S) : ov_S := ov_xr (16 * f + 5) (16 * t + 5) (min 16 (min (85 - (16 * f + 5)) (85 - (16 * t + 5)))) (ov_xr (4 * f + 1) (4 * t + 1) (min 4 (min (85 - (4 * f + 1)) (85 - (4 * t + 1)))) (ov_xr f t 1 s))
theorem xa_carry {post : Int32 → SX → Prop} {f t : Nat} (hf2 : f < 85) (ht : t < 85) (k : post (nI (ov_mx f t (T, W, 0)).2.2) (m, L, V, (ov_mx f t (T, W, 0)).1, (ov_mx f t (T, W, 0)).2.1)) : wpX_carry post (m, L, V, T, W) (nI f) (nI t) := by
  unfold wpX_carry
  refine ⟨4, ?_⟩
  refine xa_ct (w := 1) (i := 0) (by omega) (by omega) (by decide) (by decide) (T, W, 0) ?_
  rw [show min 1 (min (85 - f) (85 - t)) = 1 by omega]
  refine xa_ct (w := 4) (i := 1) (by omega) (by omega) (by decide) (by decide) _ ?_
  refine xa_ct (w := 16) (i := 2) (by omega) (by omega) (by decide) (by decide) _ ?_
  rw [show 4 * (4 * f + 1) + 1 = 16 * f + 5 by omega, show 4 * (4 * t + 1) + 1 = 16 * t + 5 by omega]
  exact br_t (by decide) k
end
end
section
/-! the reference's walks, each against the pure side -/
section
variable {m : Int32} {g V T Z I : Nat → Int32}
theorem ya_bad_t {post : Int32 → Prop} {j : Nat} (h2 : j < 85) (k : post 0) : wpY_bad post (nI j) :=
  br_f (nI_pos (by omega)) (br_t (nI_le (b := 84) (by omega) (by decide)) k)
theorem ya_bad_f {post : Int32 → Prop} {x : Int32} (h : x < 0 ∨ (85 : Int32) ≤ x) (k : post 1) : wpY_bad post x :=
  br_c (fun _ => k) (fun n0 => br_c (fun a => h.elim (fun b => absurd b n0) (fun b => absurd (Int32.le_trans b a) (by decide))) (fun _ => k))
theorem ya_par {post : Int32 → Prop} {j : Nat} (h1 : 1 ≤ j) (h2 : j < 2 ^ 31) (k : post (nI ((j - 1) / 4))) : wpY_parent post (nI j) := by
  unfold wpY_parent
  rw [ov_par h1 h2]
  exact ⟨by decide, k⟩
theorem ya_vac_o {post : Int32 → Prop} {x : Int32} (h : x < 0 ∨ (85 : Int32) ≤ x) (k : post 0) : wpY_canMake post (m, g, V, T, Z, I) x := by
  unfold wpY_canMake
  exact br_c (fun _ => k) (fun _ => br_c (fun _ => k) (fun _ => ya_bad_f h (br_f (by decide) k)))
theorem ya_vac {post : Int32 → Prop} {j : Nat} (hj : j < 85) (k1 : ov_vac m T j → post 1) (k0 : ¬ ov_vac m T j → post 0) : wpY_canMake post (m, g, V, T, Z, I) (nI j) := by
  have c : (nI j).toNatClampNeg = j := nI_clamp (by omega)
  have c2 : (nI ((j - 1) / 4)).toNatClampNeg = (j - 1) / 4 := nI_clamp (by omega)
  unfold wpY_canMake
  dsimp only
  rw [c]
  refine br_c (fun z => k0 (fun q => q.1 z)) (fun z => ?_)
  refine pk_le j 0 (fun h => k0 (fun q => absurd q.2.1 (by omega))) (fun h => ?_)
  refine ya_bad_t hj (br_t rfl ⟨vp_in_nI hj (by decide), br_c (fun y => ya_par h (by omega) ?_) (fun y => k0 (fun q => y q.2.2.1))⟩)
  rw [c2]
  exact ⟨vp_in_nI (by omega) (by decide), br_c (fun w => k1 ⟨z, h, y, w⟩) (fun w => k0 (fun q => w q.2.2.2))⟩
theorem ya_tl {post : Int32 → Prop} (hp : post (nI (ov_k (ov_tP T) 85))) : ∀ n p, 85 < n + p → 1 ≤ p → p ≤ 85 → wY_total_4 post m g V T Z I n (nI (ov_k (ov_tP T) p)) (nI p) := by
  intro n
  induction n with
  | zero => intro p h1 h2 h3; omega
  | succ n ih =>
    intro p h1 h2 h3
    have c : (nI p).toNatClampNeg = p := nI_clamp (by omega)
    refine pk_le 85 p (fun h => ?_) (fun h => ⟨vp_in_nI h (by decide), ?_⟩)
    · have e : p = 85 := by omega
      rw [e]
      exact hp
    · have i := ih (p + 1) (by omega) (by omega) (by omega)
      refine br_c (fun z => ?_) (fun z => ?_)
      · rw [c] at z
        rw [ov_k_f (ov_tP_f (fun q => q.2 z))] at i
        exact nm_r (nI_1 p) i
      · rw [c] at z
        rw [ov_k_t (ov_tP_t ⟨h2, z⟩)] at i
        exact nm_r (nI_1 _) (nm_r (nI_1 p) i)
theorem ya_total {post : Int32 → Prop} (hp : post (nI (ov_k (ov_tP T) 85))) : wpY_total post (m, g, V, T, Z, I) := by
  have i := ya_tl (m := m) (g := g) (V := V) (Z := Z) (I := I) hp 85 1 (by omega) (by omega) (by omega)
  rw [ov_t1] at i
  unfold wpY_total
  exact ⟨85, i⟩
theorem ya_en {post : Int32 → Prop} {f : Nat} (hf : f < 85) (hp : post (nI (ov_k (ov_eP T f) 85))) : ∀ n p, 85 < n + p → 1 ≤ p → p ≤ 85 → wY_entries_23 post (nI f) m g V T Z I n (nI (ov_k (ov_eP T f) p)) (nI p) := by
  intro n
  induction n with
  | zero => intro p h1 h2 h3; omega
  | succ n ih =>
    intro p h1 h2 h3
    have c : (nI p).toNatClampNeg = p := nI_clamp (by omega)
    refine pk_le 85 p (fun h => ?_) (fun h => ⟨vp_in_nI h (by decide), ?_⟩)
    · have e : p = 85 := by omega
      rw [e]
      exact hp
    · have i := ih (p + 1) (by omega) (by omega) (by omega)
      refine br_c (fun z => ?_) (fun z => ?_)
      · rw [c] at z
        rw [ov_k_f (ov_eP_f (fun q => q.2.1 z))] at i
        exact nm_r (nI_1 p) i
      · rw [c] at z
        refine ya_par h2 (by omega) (pk_eq ((p - 1) / 4) f (fun y => ?_) (fun y => ?_))
        · rw [ov_k_t (ov_eP_t ⟨h2, z, y⟩)] at i
          exact nm_r (nI_1 _) (nm_r (nI_1 p) i)
        · rw [ov_k_f (ov_eP_f (fun q => y q.2.2))] at i
          exact nm_r (nI_1 p) i
theorem ya_rm {post : Int32 → SY → Prop} {f : Nat} (hf : f < 85) (k1 : ov_k (ov_eP T f) 85 = 0 → post 0 (m, g, V, upd T f 0, Z, I)) (k0 : ¬ ov_k (ov_eP T f) 85 = 0 → post (-1) (m, g, V, T, Z, I)) : ∀ n p, 85 < n + p → 1 ≤ p → p ≤ 85 → ov_k (ov_eP T f) p = 0 → wY_remove_32 post (nI f) m g V T Z I n (nI p) := by
  intro n
  induction n with
  | zero => intro p h1 h2 h3; omega
  | succ n ih =>
    intro p h1 h2 h3 h0
    have c : (nI p).toNatClampNeg = p := nI_clamp (by omega)
    have c2 : (nI f).toNatClampNeg = f := nI_clamp (by omega)
    refine pk_le 85 p (fun h => ?_) (fun h => ⟨vp_in_nI h (by decide), ?_⟩)
    · have e : p = 85 := by omega
      rw [e] at h0
      exact ⟨vp_in_nI hf (by decide), nm_r (by rw [c2]) (k1 h0)⟩
    · have i := ih (p + 1) (by omega) (by omega) (by omega)
      refine br_c (fun z => ?_) (fun z => ?_)
      · rw [c] at z
        rw [ov_k_f (ov_eP_f (fun q => q.2.1 z))] at i
        exact nm_r (nI_1 p) (i h0)
      · rw [c] at z
        refine ya_par h2 (by omega) (pk_eq ((p - 1) / 4) f (fun y => ?_) (fun y => ?_))
        · have e := ov_k_t (ov_eP_t ⟨h2, z, y⟩)
          have mo := ov_k_mono (P := ov_eP T f) (a := p + 1) (85 - (p + 1))
          rw [show p + 1 + (85 - (p + 1)) = 85 by omega] at mo
          exact k0 (by omega)
        · rw [ov_k_f (ov_eP_f (fun q => y q.2.2))] at i
          exact nm_r (nI_1 p) (i h0)
theorem ya_hd {post : Int32 → Prop} {l : Nat} (hl : l < 3) : ∀ k n u, k < n → u < 85 → (k = 0 → u = 0) → (k = 1 → u < 5) → (k = 2 → u < 21) → (ov_h g l k u → post 1) → (¬ ov_h g l k u → post 0) → wY_hidden_2 post (nI l) m g V T Z I n (nI u) := by
  intro k
  induction k with
  | zero =>
    intro n u h2 h3 b0 b1 b2 k1 k0
    obtain ⟨n, rfl⟩ : ∃ n', n = n' + 1 := ⟨n - 1, by omega⟩
    rw [b0 rfl]
    exact br_t (by decide) (k0 (fun z => z))
  | succ k ih =>
    intro n u h2 h3 b0 b1 b2 k1 k0
    obtain ⟨n, rfl⟩ : ∃ n', n = n' + 1 := ⟨n - 1, by omega⟩
    refine pk_le u 0 (fun h => ?_) (fun h => ?_)
    · have e : u = 0 := by omega
      rw [e] at k0
      exact k0 (ov_h_0 g l _)
    · refine ya_par (by omega) (by omega) ?_
      have e := ov_cell2 l ((u - 1) / 4)
      have c : (nI (85 * l + (u - 1) / 4)).toNatClampNeg = 85 * l + (u - 1) / 4 := nI_clamp (by omega)
      have nx : ¬ (0 < (u - 1) / 4 ∧ ov_cv (g (85 * l + (u - 1) / 4))) → wY_hidden_2 post (nI l) m g V T Z I n (nI ((u - 1) / 4)) := fun z => ih n ((u - 1) / 4) (by omega) (by omega) (by omega) (by omega) (by omega) (fun q => k1 ((ov_h_n h z).mpr q)) (fun q => k0 (fun y => q ((ov_h_n h z).mp y)))
      refine ⟨by rw [e]; exact vp_in_nI (by omega) (by decide), nm_r (by rw [e, c]) ?_⟩
      refine pk_le ((u - 1) / 4) 0 (fun y => nx (fun q => absurd q.1 (by omega))) (fun y => ?_)
      refine br_c (fun z => k1 (ov_h_y h y (Or.inl z))) (fun z1 => br_c (fun z => k1 (ov_h_y h y (Or.inr (Or.inl z)))) (fun z3 => br_c (fun z => k1 (ov_h_y h y (Or.inr (Or.inr z)))) (fun z4 => ?_)))
      exact nx (fun q => q.2.elim z1 (fun q => q.elim z3 z4))
theorem ya_hidden {post : Int32 → Prop} {l u : Nat} (hl : l < 3) (hu : u < 85) (k1 : ov_h g l 3 u → post 1) (k0 : ¬ ov_h g l 3 u → post 0) : wpY_hidden post (m, g, V, T, Z, I) (nI l) (nI u) := by
  unfold wpY_hidden
  exact ⟨4, ya_hd hl 3 4 u (by omega) hu (by omega) (by omega) (by omega) k1 k0⟩
end
end
section
/-! the reference's move: the images, what would fall out, the one loop -/
section
variable {m : Int32} {g V T Z I : Nat → Int32}
theorem ov_v85 {c : Nat} (h : c ≤ 86) : ov_v c = 85 ↔ c = 85 := by
  by_cases e : c = 86
  · subst e
    rw [ov_v_n]
    exact ⟨fun z => absurd z (by decide), fun z => absurd z (by decide)⟩
  · rw [ov_v_c e]
    exact nI_eq (b := 85) (by omega) (by decide)
theorem ov_vneg {c : Nat} (h : c ≠ 86) (h2 : c ≤ 86) : ¬ ov_v c < 0 := by
  rw [ov_v_c h]
  exact nI_pos (by omega)
def ov_I (f t p : Nat) (A : Nat → Int32) : Prop := ∀ j, j < p → A j = ov_v (ov_c f t j)
theorem ov_I_s {f t p : Nat} {A B : Nat → Int32} (h : ov_I f t p A) (h1 : ∀ j, j < p → B j = A j) (h2 : B p = ov_v (ov_c f t p)) : ov_I f t (p + 1) B := by
  intro j hj
  by_cases e : j = p
  · rw [e]
    exact h2
  · rw [h1 j (by omega)]
    exact h j (by omega)
theorem ov_rem4 {a : Nat} (h : a < 2 ^ 31) : nI a - nI a / 4 * 4 = nI (a % 4) := pk_rem (d := 4) h (by decide) (by decide)
theorem ov_val {c p : Nat} (h : 1 ≤ p) (h2 : p < 2 ^ 31) : 4 * nI c + ((nI p - 1) - (nI p - 1) / 4 * 4) + 1 = nI (4 * c + (p - 1) % 4 + 1) := by
  rw [ov_sub1 h, ov_rem4 (by omega), ov_4m, nI_add, nI_1]
theorem ya_71a {post : SY → Prop} {J : Int32 → (Nat → Int32) → (Nat → Int32) → (Nat → Int32) → (Nat → Int32) → (Nat → Int32) → Prop} {x1 x2 : Int32} {p : Nat} {A : Nat → Int32} (hp : p < 85) (h : A p ≤ 84) (k : J (nI (p + 1)) g V T Z A) : wY_follow_71 post J x1 x2 (nI p) m g V T Z A := by
  have c : (nI p).toNatClampNeg = p := nI_clamp (by omega)
  unfold wY_follow_71
  rw [c]
  exact ⟨vp_in_nI hp (by decide), br_t h (nm_r (nI_1 p) k)⟩
theorem ya_71b {post : SY → Prop} {J : Int32 → (Nat → Int32) → (Nat → Int32) → (Nat → Int32) → (Nat → Int32) → (Nat → Int32) → Prop} {x1 x2 : Int32} {p : Nat} {A : Nat → Int32} (hp : p < 85) (h : ¬ A p ≤ 84) (k : J (nI (p + 1)) g V T Z (upd A p 85)) : wY_follow_71 post J x1 x2 (nI p) m g V T Z A := by
  have c : (nI p).toNatClampNeg = p := nI_clamp (by omega)
  unfold wY_follow_71
  rw [c]
  exact ⟨vp_in_nI hp (by decide), br_f h ⟨vp_in_nI hp (by decide), nm_e (nm_r (nI_1 p) k)⟩⟩
theorem ya_fo {post : SY → Prop} {f t : Nat} (hf : 1 ≤ f) (hf2 : f < 85) (ht : t < 85) (k : ∀ A, ov_I f t 85 A → post (m, g, V, T, Z, A)) : ∀ n p A, 85 < n + p → p ≤ 85 → ov_I f t p A → wY_follow_2 post (nI f) (nI t) m n (nI p) g V T Z A := by
  intro n
  induction n with
  | zero => intro p A h1 h2; omega
  | succ n ih =>
    intro p A h1 h2 hI
    have c : (nI p).toNatClampNeg = p := nI_clamp (by omega)
    have lo : ∀ j, j < p → upd A p (-1) j = A j := fun j hj => pk_un (by omega)
    have lo2 : ∀ x j, j < p → upd (upd A p (-1)) p x j = A j := fun x j hj => (pk_un (by omega)).trans (lo j hj)
    have lo3 : ∀ x y j, j < p → upd (upd (upd A p (-1)) p x) p y j = A j := fun x y j hj => (pk_un (by omega)).trans (lo2 x j hj)
    refine pk_le 85 p (fun h => ?_) (fun h => ⟨vp_in_nI h (by decide), nm_r (e' := upd A p (-1)) (by rw [c]) ?_⟩)
    · have e : p = 85 := by omega
      rw [e] at hI
      exact k A hI
    · refine pk_eq p f (fun e => ⟨vp_in_nI h (by decide), nm_r (e' := upd (upd A p (-1)) p (nI t)) (by rw [c]) ?_⟩) (fun e => ?_)
      · refine ya_71a h (by rw [pk_us]; exact nI_le (b := 84) (by omega) (by decide)) (ih (p + 1) _ (by omega) (by omega) (ov_I_s hI (lo2 _) ?_))
        rw [pk_us, e, ov_c_0, ov_v_c (by omega)]
      · have no : ov_c f t p = 86 → wY_follow_71 post (wY_follow_2 post (nI f) (nI t) m n) (nI f) (nI t) (nI p) m g V T Z (upd A p (-1)) := fun z => by
          refine ya_71a h (by rw [pk_us]; decide) (ih (p + 1) _ (by omega) (by omega) (ov_I_s hI lo ?_))
          rw [pk_us, z, ov_v_n]
        refine pk_le p 0 (fun e0 => no ?_) (fun e0 => ?_)
        · have q := ov_c_cases f t p
          omega
        · have c2 : (nI ((p - 1) / 4)).toNatClampNeg = (p - 1) / 4 := nI_clamp (by omega)
          have eq : upd A p (-1) ((p - 1) / 4) = ov_v (ov_c f t ((p - 1) / 4)) := (lo _ (by omega)).trans (hI _ (by omega))
          have le := ov_c_le (f := f) (p := (p - 1) / 4) ht
          have s1 := fun hc => ov_c_s1 hf h e0 e ht (c := ov_c f t ((p - 1) / 4)) rfl hc
          have s0 := fun hc => ov_c_s0 hf h e0 e hc ht
          generalize ov_c f t ((p - 1) / 4) = d at eq le s1 s0
          refine ya_par e0 (by omega) ?_
          rw [c2, eq]
          refine ⟨vp_in_nI (by omega) (by decide), ?_⟩
          by_cases z : d = 86
          · rw [z, ov_v_n]
            exact br_t (by decide) (no (s0 z))
          · refine br_f (ov_vneg z le) (ya_par e0 (by omega) ?_)
            rw [c2, eq, ov_v_c z, ov_val e0 (by omega), c]
            have s2 := s1 z
            refine ⟨vp_in_nI (by omega) (by decide), by decide, vp_in_nI h (by decide), nm_e ?_⟩
            by_cases y : 84 < 4 * d + (p - 1) % 4 + 1
            · rw [if_pos y] at s2
              refine ya_71b h (by rw [pk_us]; exact nI_ge (a := 84) y (by omega)) (ih (p + 1) _ (by omega) (by omega) (ov_I_s hI (lo3 _ _) ?_))
              rw [pk_us, s2, ov_v_c (by decide)]
              rfl
            · rw [if_neg y] at s2
              refine ya_71a h (by rw [pk_us]; exact nI_le (b := 84) (by omega) (by decide)) (ih (p + 1) _ (by omega) (by omega) (ov_I_s hI (lo2 _) ?_))
              rw [pk_us, s2, ov_v_c (by omega)]
theorem ya_follow {post : SY → Prop} {f t : Nat} (hf : 1 ≤ f) (hf2 : f < 85) (ht : t < 85) (k : ∀ A, ov_I f t 85 A → post (m, g, V, T, Z, A)) : wpY_follow post (m, g, V, T, Z, I) (nI f) (nI t) := by
  unfold wpY_follow
  exact ⟨86, ya_fo hf hf2 ht k 86 0 I (by omega) (by omega) (fun j hj => absurd hj (by omega))⟩
theorem ya_m57 {post : Int32 → SY → Prop} {f t : Nat} (ht : t < 85) (hI : ov_I f t 85 I) (k1 : ov_k (ov_bP T f t) 85 = 0 → ∃ n, wY_move_96 post m n 0 1 g V T Z I) (k0 : ¬ ov_k (ov_bP T f t) 85 = 0 → post (-1) (m, g, V, T, Z, I)) : ∀ n p, 85 < n + p → 1 ≤ p → p ≤ 85 → ov_k (ov_bP T f t) p = 0 → wY_move_57 post m g V T Z I n (nI p) := by
  intro n
  induction n with
  | zero => intro p h1 h2 h3; omega
  | succ n ih =>
    intro p h1 h2 h3 h0
    have c : (nI p).toNatClampNeg = p := nI_clamp (by omega)
    refine pk_le 85 p (fun h => ?_) (fun h => ⟨vp_in_nI h (by decide), ?_⟩)
    · have e : p = 85 := by omega
      rw [e] at h0
      exact k1 h0
    · have i := ih (p + 1) (by omega) (by omega) (by omega)
      have v := ov_v85 (ov_c_le (f := f) (p := p) ht)
      rw [c, hI p h]
      refine br_c (fun z => ⟨vp_in_nI h (by decide), br_c (fun y => ?_) (fun y => ?_)⟩) (fun z => ?_)
      · rw [ov_k_f (ov_bP_f (fun q => q.2.2 y))] at i
        exact nm_r (nI_1 p) (i h0)
      · have e := ov_k_t (ov_bP_t ⟨h2, v.mp z, y⟩)
        have mo := ov_k_mono (P := ov_bP T f t) (a := p + 1) (85 - (p + 1))
        rw [show p + 1 + (85 - (p + 1)) = 85 by omega] at mo
        exact k0 (by omega)
      · rw [ov_k_f (ov_bP_f (fun q => z (v.mpr q.2.1)))] at i
        exact nm_r (nI_1 p) (i h0)
theorem ya_m96 {post : Int32 → SY → Prop} {f t : Nat} (ht : t < 85) (hI : ov_I f t 85 I) {s0 : ov_S} (hp : post (nI (ov_yl f t 85 s0).2.2) (m, g, V, (ov_yl f t 85 s0).1, (ov_yl f t 85 s0).2.1, I)) : ∀ n p, 85 < n + p → 1 ≤ p → p ≤ 85 → wY_move_96 post m n (nI (ov_yl f t p s0).2.2) (nI p) g V (ov_yl f t p s0).1 (ov_yl f t p s0).2.1 I := by
  intro n
  induction n with
  | zero => intro p h1 h2 h3; omega
  | succ n ih =>
    intro p h1 h2 h3
    have c : (nI p).toNatClampNeg = p := nI_clamp (by omega)
    refine pk_le 85 p (fun h => ?_) (fun h => ⟨vp_in_nI h (by decide), ?_⟩)
    · have e : p = 85 := by omega
      rw [e]
      exact hp
    · have i := ih (p + 1) (by omega) (by omega) (by omega)
      have le := ov_c_le (f := f) (p := p) ht
      have hj := hI p h
      rw [c, hj]
      by_cases z : ov_c f t p = 86
      · rw [ov_yl_f (by omega)] at i
        rw [z, ov_v_n]
        exact br_t (by decide) (nm_r (nI_1 p) i)
      · refine br_f (ov_vneg z le) ⟨vp_in_nI h (by decide), ?_⟩
        rw [ov_v_c z]
        by_cases y : ov_c f t p = 85
        · rw [ov_yl_f (by omega)] at i
          rw [y]
          exact br_t (by decide) (nm_r (nI_1 p) i)
        · have lt : ov_c f t p < 85 := by omega
          have cc : (nI (ov_c f t p)).toNatClampNeg = ov_c f t p := nI_clamp (by omega)
          rw [ov_yl_t h2 lt] at i
          refine br_f (nI_ge (b := 85) lt (by decide)) ⟨vp_in_nI h (by decide), ?_⟩
          generalize ov_yl f t p s0 = s at i
          obtain ⟨T, Z, d⟩ := s
          rw [cc]
          refine br_c (fun x => ?_) (fun x => ?_)
          · rw [ov_y_0 (s := (T, Z, d)) x] at i
            exact nm_r (nI_1 p) i
          · rw [ov_y_1 (s := (T, Z, d)) x] at i
            have v1 := vp_in_nI h (by decide : 85 < 2 ^ 31)
            have v2 := vp_in_nI lt (by decide : 85 < 2 ^ 31)
            exact ⟨v1, v1, v2, nm_e ⟨v1, v1, v2, nm_e ⟨v1, nm_e (nm_r (nI_1 d) (nm_r (nI_1 p) i))⟩⟩⟩
end
end
section
/-! mounting, both sides in one step -/
section
variable {m : Int32} {g V T W Z I : Nat → Int32}
theorem ov_top_c {l p : Nat} (hl : l < 3) (h1 : 1 ≤ p) (hp : p < 85) {s : Int32} (hs : g (85 * l + p) = s) : ov_top g (nI (85 * l + p)).toNatClampNeg = s := by
  rw [nI_clamp (by omega), ov_top_p hl h1 hp, hs]
theorem ov_g_c {l p : Nat} (hl : l < 3) (hp : p < 85) {s : Int32} (hs : g (85 * l + p) = s) : g (85 * nI l + nI p).toNatClampNeg = s := by
  rw [ov_cell2, nI_clamp (by omega), hs]
theorem ov_c255 {l p : Nat} (hl : l < 3) (hp : p < 85) : vp_in (nI (85 * l + p)) 255 := vp_in_nI (by omega) (by decide)
theorem xa_m0 {post : SX → Prop} {p l n : Nat} (h1 : 1 ≤ p) (hp : p < 85) (hl : l < 3) (hs : g (85 * l + p) = 0) (k1 : ov_h g l 3 p → post (m, ov_top g, V, T, W)) (k0 : ¬ ov_h g l 3 p → wX_mountPath_2 post (nI p) m (ov_top g) V T W n (nI l + (-1))) : wX_mountPath_2 post (nI p) m (ov_top g) V T W (n + 1) (nI l) :=
  br_f (nI_pos (by omega)) (nm_r (ov_cell l p) ⟨ov_c255 hl hp, nm_r (ov_top_c hl h1 hp hs) (br_f (by decide) (xa_any_f (by decide) (by decide) (br_t rfl (br_f (by decide) (xa_cover hl hp (fun q => br_f (by decide) (k1 q)) (fun q => br_t rfl (nm_e (k0 q))))))))⟩)
theorem xa_m1 {post : SX → Prop} {p l n : Nat} (h1 : 1 ≤ p) (hp : p < 85) (hl : l < 3) (hs : g (85 * l + p) = 1) (k : post (m, ov_top g, V, upd T p 1, upd W p (V (85 * l + p)))) : wX_mountPath_2 post (nI p) m (ov_top g) V T W (n + 1) (nI l) := by
  refine br_f (nI_pos (by omega)) (nm_r (ov_cell l p) ⟨ov_c255 hl hp, nm_r (ov_top_c hl h1 hp hs) (br_t rfl ⟨ov_c255 hl hp, ?_⟩)⟩)
  rw [nI_clamp (by omega)]
  exact xa_put hp k
theorem xa_m23 {post : SX → Prop} {p l n : Nat} (h1 : 1 ≤ p) (hp : p < 85) (hl : l < 3) {s : Int32} (h : s = 2 ∨ s = 3) (hs : g (85 * l + p) = s) (k : post (m, ov_top g, V, upd T p 2, upd W p 0)) : wX_mountPath_2 post (nI p) m (ov_top g) V T W (n + 1) (nI l) :=
  br_f (nI_pos (by omega)) (nm_r (ov_cell l p) ⟨ov_c255 hl hp, nm_r (ov_top_c hl h1 hp hs) (br_f (fun z => h.elim (fun q => absurd (z.symm.trans q) (by decide)) (fun q => absurd (z.symm.trans q) (by decide))) (xa_any_t h (br_f (by decide) (xa_put hp k))))⟩)
theorem xa_m4 {post : SX → Prop} {p l n : Nat} (h1 : 1 ≤ p) (hp : p < 85) (hl : l < 3) (hs : g (85 * l + p) = 4) (k : post (m, ov_top g, V, T, W)) : wX_mountPath_2 post (nI p) m (ov_top g) V T W (n + 1) (nI l) :=
  br_f (nI_pos (by omega)) (nm_r (ov_cell l p) ⟨ov_c255 hl hp, nm_r (ov_top_c hl h1 hp hs) (br_f (by decide) (xa_any_f (by decide) (by decide) (br_t rfl (br_t rfl k))))⟩)
theorem ov_c255' {l p : Nat} (hl : l < 3) (hp : p < 85) : vp_in (85 * nI l + nI p) 255 := by
  rw [ov_cell2]
  exact ov_c255 hl hp
theorem ya_m0 {post : SY → Prop} {p l n : Nat} (hp : p < 85) (hl : l < 3) (hs : g (85 * l + p) = 0) (k1 : ov_h g l 3 p → post (m, g, V, T, Z, I)) (k0 : ¬ ov_h g l 3 p → wY_merge_16 post (nI p) m n (nI l + (-1)) g V T Z I) : wY_merge_16 post (nI p) m (n + 1) (nI l) g V T Z I :=
  br_f (nI_pos (by omega)) ⟨ov_c255' hl hp, nm_r (ov_g_c hl hp hs) (br_f (by decide) (br_f (by decide) (br_f (by decide) (br_t rfl (ya_hidden hl hp (fun q => br_f (by decide) (k1 q)) (fun q => br_t rfl (nm_e (k0 q))))))))⟩
theorem ya_m1 {post : SY → Prop} {p l n : Nat} (hp : p < 85) (hl : l < 3) (hs : g (85 * l + p) = 1) (k : post (m, g, V, upd T p 1, upd Z p (V (85 * l + p)), I)) : wY_merge_16 post (nI p) m (n + 1) (nI l) g V T Z I := by
  have c : (nI p).toNatClampNeg = p := nI_clamp (by omega)
  refine br_f (nI_pos (by omega)) ⟨ov_c255' hl hp, nm_r (ov_g_c hl hp hs) (br_t rfl ⟨vp_in_nI hp (by decide), nm_r (e' := upd T p 1) (by rw [c]) ⟨ov_c255' hl hp, vp_in_nI hp (by decide), nm_r (e' := upd Z p (V (85 * l + p))) ?_ ?_⟩⟩)⟩
  · rw [c, ov_cell2, nI_clamp (by omega)]
  · exact br_f (by decide) (br_f (by decide) (br_f (by decide) k))
theorem ya_m23 {post : SY → Prop} {p l n : Nat} (hp : p < 85) (hl : l < 3) {s : Int32} (h : s = 2 ∨ s = 3) (hs : g (85 * l + p) = s) (k : post (m, g, V, upd T p 2, Z, I)) : wY_merge_16 post (nI p) m (n + 1) (nI l) g V T Z I := by
  have c : (nI p).toNatClampNeg = p := nI_clamp (by omega)
  have n1 : ¬ s = 1 := fun z => h.elim (fun q => absurd (z.symm.trans q) (by decide)) (fun q => absurd (z.symm.trans q) (by decide))
  have n0 : ¬ s = 0 := fun z => h.elim (fun q => absurd (z.symm.trans q) (by decide)) (fun q => absurd (z.symm.trans q) (by decide))
  have e : wY_merge_71 post (wY_merge_16 post (nI p) m n) (nI p) (nI l) s m g V T Z I := by
    unfold wY_merge_71
    rw [c]
    exact ⟨vp_in_nI hp (by decide), nm_e (br_f n0 k)⟩
  exact br_f (nI_pos (by omega)) ⟨ov_c255' hl hp, nm_r (ov_g_c hl hp hs) (br_f n1 (br_c (fun _ => e) (fun n2 => br_c (fun _ => e) (fun n3 => h.elim (fun q => absurd q n2) (fun q => absurd q n3)))))⟩
theorem ya_m4 {post : SY → Prop} {p l n : Nat} (hp : p < 85) (hl : l < 3) (hs : g (85 * l + p) = 4) (k : post (m, g, V, T, Z, I)) : wY_merge_16 post (nI p) m (n + 1) (nI l) g V T Z I :=
  br_f (nI_pos (by omega)) ⟨ov_c255' hl hp, nm_r (ov_g_c hl hp hs) (br_f (by decide) (br_f (by decide) (br_f (by decide) (br_f (by decide) k))))⟩
theorem za_path {p : Nat} (h1 : 1 ≤ p) (hp : p < 85) (hr : ∀ j, ov_rng (g j)) (hW : ov_W T W Z) : ∀ l, l ≤ 3 → ∃ T1 W1 Z1, ov_W T1 W1 Z1 ∧ (∀ (post : SX → Prop) n, l < n → post (m, ov_top g, V, T1, W1) → wX_mountPath_2 post (nI p) m (ov_top g) V T W n (nI l + (-1))) ∧ (∀ (post : SY → Prop) n, l < n → post (m, g, V, T1, Z1, I) → wY_merge_16 post (nI p) m n (nI l + (-1)) g V T Z I) := by
  intro l
  induction l with
  | zero =>
    intro _
    refine ⟨T, W, Z, hW, fun post n hn k => ?_, fun post n hn k => ?_⟩
    · obtain ⟨n, rfl⟩ : ∃ n', n = n' + 1 := ⟨n - 1, by omega⟩
      exact br_t (by decide) k
    · obtain ⟨n, rfl⟩ : ∃ n', n = n' + 1 := ⟨n - 1, by omega⟩
      exact br_t (by decide) k
  | succ l ih =>
    intro hl
    rw [pk_m1]
    have fu : ∀ n, l + 1 < n → ∃ n', n = n' + 1 ∧ l < n' := fun n hn => ⟨n - 1, by omega, by omega⟩
    have hl3 : l < 3 := by omega
    rcases hr (85 * l + p) with hs | hs | hs | hs | hs
    · by_cases q : ov_h g l 3 p
      · refine ⟨T, W, Z, hW, fun post n hn k => ?_, fun post n hn k => ?_⟩
        · obtain ⟨n, rfl, ha⟩ := fu n hn
          exact xa_m0 h1 hp hl3 hs (fun _ => k) (fun z => absurd q z)
        · obtain ⟨n, rfl, ha⟩ := fu n hn
          exact ya_m0 hp hl3 hs (fun _ => k) (fun z => absurd q z)
      · obtain ⟨T1, W1, Z1, h, hX, hY⟩ := ih (by omega)
        refine ⟨T1, W1, Z1, h, fun post n hn k => ?_, fun post n hn k => ?_⟩
        · obtain ⟨n, rfl, ha⟩ := fu n hn
          exact xa_m0 h1 hp hl3 hs (fun z => absurd z q) (fun _ => hX post n ha k)
        · obtain ⟨n, rfl, ha⟩ := fu n hn
          exact ya_m0 hp hl3 hs (fun z => absurd z q) (fun _ => hY post n ha k)
    · refine ⟨upd T p 1, upd W p (V (85 * l + p)), upd Z p (V (85 * l + p)), ov_W_file hW p _, fun post n hn k => ?_, fun post n hn k => ?_⟩
      · obtain ⟨n, rfl, ha⟩ := fu n hn
        exact xa_m1 h1 hp hl3 hs k
      · obtain ⟨n, rfl, ha⟩ := fu n hn
        exact ya_m1 hp hl3 hs k
    · refine ⟨upd T p 2, upd W p 0, Z, ov_W_other hW p (by decide), fun post n hn k => ?_, fun post n hn k => ?_⟩
      · obtain ⟨n, rfl, ha⟩ := fu n hn
        exact xa_m23 h1 hp hl3 (Or.inl rfl) hs k
      · obtain ⟨n, rfl, ha⟩ := fu n hn
        exact ya_m23 hp hl3 (Or.inl rfl) hs k
    · refine ⟨upd T p 2, upd W p 0, Z, ov_W_other hW p (by decide), fun post n hn k => ?_, fun post n hn k => ?_⟩
      · obtain ⟨n, rfl, ha⟩ := fu n hn
        exact xa_m23 h1 hp hl3 (Or.inr rfl) hs k
      · obtain ⟨n, rfl, ha⟩ := fu n hn
        exact ya_m23 hp hl3 (Or.inr rfl) hs k
    · refine ⟨T, W, Z, hW, fun post n hn k => ?_, fun post n hn k => ?_⟩
      · obtain ⟨n, rfl, ha⟩ := fu n hn
        exact xa_m4 h1 hp hl3 hs k
      · obtain ⟨n, rfl, ha⟩ := fu n hn
        exact ya_m4 hp hl3 hs k
theorem za_loop (hr : ∀ j, ov_rng (g j)) : ∀ d p, p + d = 85 → 1 ≤ p → ∀ T W Z, ov_W T W Z → ∃ T1 W1 Z1, ov_W T1 W1 Z1 ∧ (∀ post : Int32 → SX → Prop, post (nI (ov_k (ov_tP T1) 85)) (m, ov_top g, V, T1, W1) → wX_mount_23 post (d + 1) (nI p) m (ov_top g) V T W) ∧ (∀ post : Int32 → SY → Prop, post (nI (ov_k (ov_tP T1) 85)) (m, g, V, T1, Z1, I) → wY_mount_23 post (d + 1) (nI p) m g V T Z I) := by
  intro d
  induction d with
  | zero =>
    intro p h0 h1 T W Z hW
    have e : p = 85 := by omega
    subst e
    exact ⟨T, W, Z, hW, fun post k => br_t (by decide) (xa_total k), fun post k => br_t (by decide) (ya_total k)⟩
  | succ d ih =>
    intro p h0 h1 T W Z hW
    have hp : p < 85 := by omega
    have c2 : (nI ((p - 1) / 4)).toNatClampNeg = (p - 1) / 4 := nI_clamp (by omega)
    have n85 : ¬ (85 : Int32) ≤ nI p := nI_ge (b := 85) hp (by decide)
    by_cases z : T ((p - 1) / 4) = 2
    · obtain ⟨T1, W1, Z1, hW1, hX1, hY1⟩ := za_path (m := m) (V := V) (I := I) h1 hp hr hW 3 (by omega)
      obtain ⟨T2, W2, Z2, hW2, hX2, hY2⟩ := ih (p + 1) (by omega) (by omega) T1 W1 Z1 hW1
      refine ⟨T2, W2, Z2, hW2, fun post k => ?_, fun post k => ?_⟩
      · refine br_f n85 (xa_par h1 (by omega) ⟨vp_in_nI (by omega) (by decide), br_t (by rw [c2]; exact z) ?_⟩)
        exact ⟨4, hX1 _ 4 (by omega) (nm_r (nI_1 p) (hX2 post k))⟩
      · refine br_f n85 ?_
        unfold wpY_merge
        refine ya_par h1 (by omega) ⟨vp_in_nI (by omega) (by decide), br_t (by rw [c2]; exact z) ?_⟩
        exact ⟨4, hY1 _ 4 (by omega) (nm_r (nI_1 p) (hY2 post k))⟩
    · obtain ⟨T2, W2, Z2, hW2, hX2, hY2⟩ := ih (p + 1) (by omega) (by omega) T W Z hW
      refine ⟨T2, W2, Z2, hW2, fun post k => ?_, fun post k => ?_⟩
      · refine br_f n85 (xa_par h1 (by omega) ⟨vp_in_nI (by omega) (by decide), br_f (by rw [c2]; exact z) ?_⟩)
        exact nm_r (nI_1 p) (hX2 post k)
      · refine br_f n85 ?_
        unfold wpY_merge
        refine ya_par h1 (by omega) ⟨vp_in_nI (by omega) (by decide), br_f (by rw [c2]; exact z) ?_⟩
        exact nm_r (nI_1 p) (hY2 post k)
end
end
section
/-! the methods, each side against one condition -/
section
variable {m : Int32} {g L V T W Z I : Nat → Int32}
/-- the parent is a directory of the layer -/
def ov_dir (g : Nat → Int32) (l p : Nat) : Prop := (p - 1) / 4 = 0 ∨ g (85 * l + (p - 1) / 4) = 2 ∨ g (85 * l + (p - 1) / 4) = 3
theorem ov_dir_top {l p : Nat} (hl : l < 3) (hp : p < 85) : (ov_top g (85 * l + (p - 1) / 4) = 2 ∨ ov_top g (85 * l + (p - 1) / 4) = 3) ↔ ov_dir g l p := by
  by_cases z : (p - 1) / 4 = 0
  · rw [z, Nat.add_zero, ov_top_r hl]
    exact ⟨fun _ => Or.inl z, fun _ => Or.inl rfl⟩
  · rw [ov_top_p hl (by omega) (by omega)]
    exact ⟨fun q => Or.inr q, fun q => q.elim (fun a => absurd a z) (fun b => b)⟩
theorem xa_fill_in {post : Int32 → SX → Prop} {l p : Nat} {v3 v4 : Int32} (hl : l < 3) (h1 : 1 ≤ p) (hp : p < 85) (s1 : ¬ v3 < 1) (s4 : v3 ≤ 4) (k1 : g (85 * l + p) = 0 → ov_dir g l p → post 0 (0, ov_top (upd g (85 * l + p) v3), upd V (85 * l + p) v4, T, W)) (k0 : ¬ (g (85 * l + p) = 0 ∧ ov_dir g l p) → post (-1) (0, ov_top g, V, T, W)) : wpX_fill post (0, ov_top g, V, T, W) (nI l) (nI p) v3 v4 := by
  have c : (nI (85 * l + p)).toNatClampNeg = 85 * l + p := nI_clamp (by omega)
  have c2 : (nI (85 * l + (p - 1) / 4)).toNatClampNeg = 85 * l + (p - 1) / 4 := nI_clamp (by omega)
  have e2 := ov_cell l ((p - 1) / 4)
  unfold wpX_fill
  refine br_t rfl (br_f (nI_pos (by omega)) (br_f (nI_ge (b := 3) hl (by decide)) (xa_below_t h1 hp (br_f (by decide) (br_f s1 (br_t s4 (nm_r (ov_cell l p) (xa_par h1 (by omega) ?_))))))))
  rw [e2, c2, c]
  refine ⟨vp_in_nI (by omega) (by decide), nm_e ⟨ov_c255 hl hp, ?_⟩⟩
  rw [ov_top_p hl h1 hp]
  refine br_c (fun z => ?_) (fun z => k0 (fun q => z q.1))
  by_cases d : ov_dir g l p
  · refine xa_any_t ((ov_dir_top hl hp).mpr d) (br_f (by decide) ⟨ov_c255 hl hp, nm_r (ov_top_u hl h1 hp) ⟨ov_c255 hl hp, nm_e (k1 z d)⟩⟩)
  · have d2 : ¬ (ov_top g (85 * l + (p - 1) / 4) = 2 ∨ ov_top g (85 * l + (p - 1) / 4) = 3) := fun q => d ((ov_dir_top hl hp).mp q)
    exact xa_any_f (fun q => d2 (Or.inl q)) (fun q => d2 (Or.inr q)) (br_t rfl (k0 (fun q => d q.2)))
theorem ya_fill_in {post : Int32 → SY → Prop} {l p : Nat} {v3 v4 : Int32} (hl : l < 3) (h1 : 1 ≤ p) (hp : p < 85) (s1 : ¬ v3 < 1) (s4 : v3 ≤ 4) (k1 : g (85 * l + p) = 0 → ov_dir g l p → post 0 (0, upd g (85 * l + p) v3, upd V (85 * l + p) v4, T, Z, I)) (k0 : ¬ (g (85 * l + p) = 0 ∧ ov_dir g l p) → post (-1) (0, g, V, T, Z, I)) : wpY_fill post (0, g, V, T, Z, I) (nI l) (nI p) v3 v4 := by
  have c : (nI (85 * l + p)).toNatClampNeg = 85 * l + p := nI_clamp (by omega)
  have c2 : (nI (85 * l + (p - 1) / 4)).toNatClampNeg = 85 * l + (p - 1) / 4 := nI_clamp (by omega)
  have e := ov_cell2 l p
  have e2 := ov_cell2 l ((p - 1) / 4)
  unfold wpY_fill
  refine br_t rfl (br_f (nI_pos (by omega)) (br_f (nI_nlt (a := 2) (by omega) (by decide)) (br_f (nI_nlt (b := 1) h1 (by omega)) (ya_bad_t hp (br_t rfl (br_f s1 (br_t s4 (ya_par h1 (by omega) ?_))))))))
  rw [e, c]
  refine ⟨ov_c255 hl hp, br_c (fun z => ?_) (fun z => k0 (fun q => z q.1))⟩
  unfold wpY_layerDirectory
  dsimp only
  rw [e2, c2]
  have yes : ov_dir g l p → vp_in (nI (85 * l + p)) 255 ∧ ∀ a : Nat → Int32, a = upd g (85 * l + p) v3 → (vp_in (nI (85 * l + p)) 255 ∧ ∀ b : Nat → Int32, b = upd V (85 * l + p) v4 → post 0 (0, a, b, T, Z, I)) := fun d => ⟨ov_c255 hl hp, nm_e ⟨ov_c255 hl hp, nm_e (k1 z d)⟩⟩
  refine ⟨vp_in_nI (by omega) (by decide), nm_e ?_⟩
  refine pk_eq ((p - 1) / 4) 0 (fun y => br_f (by decide) (yes (Or.inl y))) (fun y => ?_)
  refine br_c (fun y2 => br_f (by decide) (yes (Or.inr (Or.inl y2)))) (fun y2 => br_c (fun y3 => br_f (by decide) (yes (Or.inr (Or.inr y3)))) (fun y3 => ?_))
  exact br_t rfl (k0 (fun q => q.2.elim y (fun q => q.elim y2 y3)))
theorem xa_make_o {post : Int32 → SX → Prop} {x v : Int32} (h : x < 0 ∨ (85 : Int32) ≤ x) (k : post (-1) (m, L, V, T, W)) : wpX_make post (m, L, V, T, W) x v := by
  unfold wpX_make
  exact xa_vac_o h (br_t rfl k)
theorem xa_make {post : Int32 → SX → Prop} {j : Nat} {v : Int32} (hj : j < 85) (k1 : ov_vac m T j → post 0 (m, L, V, upd T j 1, upd W j v)) (k0 : ¬ ov_vac m T j → post (-1) (m, L, V, T, W)) : wpX_make post (m, L, V, T, W) (nI j) v := by
  unfold wpX_make
  exact xa_vac hj (fun q => br_f (by decide) (xa_put hj (k1 q))) (fun q => br_t rfl (k0 q))
theorem xa_mdir_o {post : Int32 → SX → Prop} {x : Int32} (h : x < 0 ∨ (85 : Int32) ≤ x) (k : post (-1) (m, L, V, T, W)) : wpX_makeDir post (m, L, V, T, W) x := by
  unfold wpX_makeDir
  exact xa_vac_o h (br_t rfl k)
theorem xa_mdir {post : Int32 → SX → Prop} {j : Nat} (hj : j < 85) (k1 : ov_vac m T j → post 0 (m, L, V, upd T j 2, upd W j 0)) (k0 : ¬ ov_vac m T j → post (-1) (m, L, V, T, W)) : wpX_makeDir post (m, L, V, T, W) (nI j) := by
  unfold wpX_makeDir
  exact xa_vac hj (fun q => br_f (by decide) (xa_put hj (k1 q))) (fun q => br_t rfl (k0 q))
theorem ya_make_o {post : Int32 → SY → Prop} {x v : Int32} (h : x < 0 ∨ (85 : Int32) ≤ x) (k : post (-1) (m, g, V, T, Z, I)) : wpY_make post (m, g, V, T, Z, I) x v := by
  unfold wpY_make
  exact ya_vac_o h (br_t rfl k)
theorem ya_make {post : Int32 → SY → Prop} {j : Nat} {v : Int32} (hj : j < 85) (k1 : ov_vac m T j → post 0 (m, g, V, upd T j 1, upd Z j v, I)) (k0 : ¬ ov_vac m T j → post (-1) (m, g, V, T, Z, I)) : wpY_make post (m, g, V, T, Z, I) (nI j) v := by
  have c : (nI j).toNatClampNeg = j := nI_clamp (by omega)
  unfold wpY_make
  dsimp only
  rw [c]
  exact ya_vac hj (fun q => br_f (by decide) ⟨vp_in_nI hj (by decide), nm_e ⟨vp_in_nI hj (by decide), nm_e (k1 q)⟩⟩) (fun q => br_t rfl (k0 q))
theorem ya_mdir_o {post : Int32 → SY → Prop} {x : Int32} (h : x < 0 ∨ (85 : Int32) ≤ x) (k : post (-1) (m, g, V, T, Z, I)) : wpY_makeDir post (m, g, V, T, Z, I) x := by
  unfold wpY_makeDir
  exact ya_vac_o h (br_t rfl k)
theorem ya_mdir {post : Int32 → SY → Prop} {j : Nat} (hj : j < 85) (k1 : ov_vac m T j → post 0 (m, g, V, upd T j 2, Z, I)) (k0 : ¬ ov_vac m T j → post (-1) (m, g, V, T, Z, I)) : wpY_makeDir post (m, g, V, T, Z, I) (nI j) := by
  have c : (nI j).toNatClampNeg = j := nI_clamp (by omega)
  unfold wpY_makeDir
  dsimp only
  rw [c]
  exact ya_vac hj (fun q => br_f (by decide) ⟨vp_in_nI hj (by decide), nm_e (k1 q)⟩) (fun q => br_t rfl (k0 q))
theorem xa_rem_o {post : Int32 → SX → Prop} {x : Int32} (h : x < 0 ∨ (85 : Int32) ≤ x) (k : post (-1) (m, L, V, T, W)) : wpX_remove post (m, L, V, T, W) x := by
  unfold wpX_remove
  exact xa_tak_o h (br_t rfl k)
theorem xa_rem {post : Int32 → SX → Prop} {j : Nat} (hj : j < 85) (k1 : ov_tak m T j → ov_k (ov_eP T j) 85 = 0 → post 0 (m, L, V, upd T j 0, upd W j 0)) (k0 : ¬ (ov_tak m T j ∧ ov_k (ov_eP T j) 85 = 0) → post (-1) (m, L, V, T, W)) : wpX_remove post (m, L, V, T, W) (nI j) := by
  unfold wpX_remove
  have le := ov_k_le (ov_eP T j) 85
  refine xa_tak hj (fun q => br_f (by decide) (xa_ce hj ?_)) (fun q => br_t rfl (k0 (fun y => q y.1)))
  exact pk_eq (ov_k (ov_eP T j) 85) 0 (fun z => xa_put hj (k1 q z)) (fun z => k0 (fun y => z y.2))
theorem ov_lt1 {x : Int32} (h : x < 0) : x < 1 := Int32.lt_trans h (by decide)
theorem ya_rem_o {post : Int32 → SY → Prop} {x : Int32} (h : x < 0 ∨ (85 : Int32) ≤ x) (k : post (-1) (m, g, V, T, Z, I)) : wpY_remove post (m, g, V, T, Z, I) x := by
  unfold wpY_remove
  exact br_c (fun _ => k) (fun _ => br_c (fun _ => k) (fun _ => ya_bad_f h (br_f (by decide) k)))
theorem ya_rem {post : Int32 → SY → Prop} {j : Nat} (hj : j < 85) (k1 : ov_tak m T j → ov_k (ov_eP T j) 85 = 0 → post 0 (m, g, V, upd T j 0, Z, I)) (k0 : ¬ (ov_tak m T j ∧ ov_k (ov_eP T j) 85 = 0) → post (-1) (m, g, V, T, Z, I)) : wpY_remove post (m, g, V, T, Z, I) (nI j) := by
  have c : (nI j).toNatClampNeg = j := nI_clamp (by omega)
  unfold wpY_remove
  dsimp only
  rw [c]
  refine br_c (fun z => k0 (fun q => q.1.1 z)) (fun z => ?_)
  refine pk_lt j 1 (fun h => k0 (fun q => absurd q.1.2.1 (by omega))) (fun h => ?_)
  refine ya_bad_t hj (br_t rfl ⟨vp_in_nI hj (by decide), br_c (fun y => k0 (fun q => q.1.2.2 y)) (fun y => ?_)⟩)
  exact ⟨85, ya_rm hj (k1 ⟨z, h, y⟩) (fun q => k0 (fun w => q w.2)) 85 1 (by omega) (by omega) (by omega) (ov_e1 T j)⟩
theorem xa_move {post : Int32 → SX → Prop} {f t : Nat} (hf : f < 85) (ht : t < 85) (k1 : ov_tak m T f → ov_vac m T t → ¬ ov_u f 3 t → ov_k (ov_bP T f t) 85 = 0 → post (nI (ov_mx f t (T, W, 0)).2.2) (m, L, V, (ov_mx f t (T, W, 0)).1, (ov_mx f t (T, W, 0)).2.1)) (k0 : ¬ (ov_tak m T f ∧ ov_vac m T t ∧ ¬ ov_u f 3 t ∧ ov_k (ov_bP T f t) 85 = 0) → post (-1) (m, L, V, T, W)) : wpX_move post (m, L, V, T, W) (nI f) (nI t) := by
  unfold wpX_move
  refine xa_tak hf (fun q1 => br_f (by decide) ?_) (fun q1 => br_t rfl (k0 (fun y => q1 y.1)))
  refine xa_vac ht (fun q2 => br_f (by decide) ?_) (fun q2 => br_t rfl (k0 (fun y => q2 y.2.1)))
  refine xa_under hf ht (fun q3 => br_f (by decide) (k0 (fun y => y.2.2.1 q3))) (fun q3 => br_t rfl ?_)
  refine xa_fits q1.2.1 hf ht (fun q4 => br_f (by decide) ?_) (fun q4 => br_t rfl (k0 (fun y => q4 y.2.2.2)))
  exact xa_carry hf ht (k1 q1 q2 q3 q4)
theorem ya_move {post : Int32 → SY → Prop} {f t : Nat} (hf : f < 85) (ht : t < 85) (k1 : ov_tak m T f → ov_vac m T t → ¬ ov_u f 3 t → ov_k (ov_bP T f t) 85 = 0 → ∀ A, post (nI (ov_yl f t 85 (T, Z, 0)).2.2) (m, g, V, (ov_yl f t 85 (T, Z, 0)).1, (ov_yl f t 85 (T, Z, 0)).2.1, A)) (k0 : ¬ (ov_tak m T f ∧ ov_vac m T t ∧ ¬ ov_u f 3 t ∧ ov_k (ov_bP T f t) 85 = 0) → ∀ A, post (-1) (m, g, V, T, Z, A)) : wpY_move post (m, g, V, T, Z, I) (nI f) (nI t) := by
  have c : (nI f).toNatClampNeg = f := nI_clamp (by omega)
  have c2 : (nI t).toNatClampNeg = t := nI_clamp (by omega)
  unfold wpY_move
  dsimp only
  rw [c, c2]
  refine br_c (fun z => k0 (fun q => q.1.1 z) I) (fun z => ?_)
  refine pk_lt f 1 (fun h => k0 (fun q => absurd q.1.2.1 (by omega)) I) (fun h => ?_)
  refine ya_bad_t hf (br_t rfl ⟨vp_in_nI hf (by decide), br_c (fun y => k0 (fun q => q.1.2.2 y) I) (fun y => ?_)⟩)
  refine ya_vac ht (fun q2 => br_f (by decide) ?_) (fun q2 => br_t rfl (k0 (fun y => q2 y.2.1) I))
  have ne : t ≠ f := fun e => y (by rw [← e]; exact q2.2.2.1)
  have uc := ov_u_c (f := f) (t := t) (s := t) h ht ht ne
  refine ya_follow h hf ht (fun A hA => ?_)
  have le := ov_c_le (f := f) (p := t) ht
  have i0 : ov_yl f t 1 (T, Z, 0) = (T, Z, 0) := ov_yl_f (p := 0) (fun q => absurd q.1 (by decide))
  refine ⟨vp_in_nI ht (by decide), ?_⟩
  dsimp only
  rw [hA t ht]
  by_cases u : ov_c f t t = 86
  · rw [u, ov_v_n]
    have nu : ¬ ov_u f 3 t := fun q => uc.mp q u
    refine br_t (by decide) ⟨85, ya_m57 ht hA (fun q4 => ?_) (fun q4 => k0 (fun w => q4 w.2.2.2) A) 85 1 (by omega) (by omega) (by omega) (ov_b1 T f t)⟩
    have r := ya_m96 (m := m) (g := g) (V := V) (s0 := (T, Z, 0)) ht hA (k1 ⟨z, h, y⟩ q2 nu q4 A) 85 1 (by omega) (by omega) (by omega)
    rw [i0] at r
    exact ⟨85, r⟩
  · exact br_f (ov_vneg u le) (k0 (fun w => w.2.2.1 (uc.mpr u)) A)
theorem xa_move_o1 {post : Int32 → SX → Prop} {x y : Int32} (h : x < 0 ∨ (85 : Int32) ≤ x) (k : post (-1) (m, L, V, T, W)) : wpX_move post (m, L, V, T, W) x y := by
  unfold wpX_move
  exact xa_tak_o h (br_t rfl k)
theorem xa_move_o2 {post : Int32 → SX → Prop} {f : Nat} {y : Int32} (hf : f < 85) (h : y < 0 ∨ (85 : Int32) ≤ y) (k : post (-1) (m, L, V, T, W)) : wpX_move post (m, L, V, T, W) (nI f) y := by
  unfold wpX_move
  exact xa_tak hf (fun _ => br_f (by decide) (xa_vac_o h (br_t rfl k))) (fun _ => br_t rfl k)
theorem ya_move_o1 {post : Int32 → SY → Prop} {x y : Int32} (h : x < 0 ∨ (85 : Int32) ≤ x) (k : post (-1) (m, g, V, T, Z, I)) : wpY_move post (m, g, V, T, Z, I) x y := by
  unfold wpY_move
  exact br_c (fun _ => k) (fun _ => br_c (fun _ => k) (fun _ => ya_bad_f h (br_f (by decide) k)))
theorem ya_move_o2 {post : Int32 → SY → Prop} {f : Nat} {y : Int32} (hf : f < 85) (h : y < 0 ∨ (85 : Int32) ≤ y) (k : post (-1) (m, g, V, T, Z, I)) : wpY_move post (m, g, V, T, Z, I) (nI f) y := by
  unfold wpY_move
  exact br_c (fun _ => k) (fun _ => br_c (fun _ => k) (fun _ => ya_bad_t hf (br_t rfl ⟨vp_in_nI hf (by decide), br_c (fun _ => k) (fun _ => ya_vac_o h (br_t rfl k))⟩)))
end
end
section
/-! what is owed -/
/-- the same mounted flag, layers (but for the roots), values and tree; a file's value the same, other values 0 on the one side -/
def i_Rel (k : Nat) (u : SX) (v : SY) : Prop := ∃ (m : Int32) (g V T W Z I : Nat → Int32), u = (m, ov_top g, V, T, W) ∧ v = (m, g, V, T, Z, I) ∧ ov_W T W Z ∧ ∀ j, ov_rng (g j)
theorem i_up {k : Nat} {u : SX} {v : SY} (h : i_Rel k u v) : i_Rel (k + 5) u v := h
theorem za_rel {k : Nat} {m : Int32} {g V T W Z : Nat → Int32} (I : Nat → Int32) (hW : ov_W T W Z) (hr : ∀ j, ov_rng (g j)) : i_Rel k (m, ov_top g, V, T, W) (m, g, V, T, Z, I) := ⟨m, g, V, T, W, Z, I, rfl, rfl, hW, hr⟩
theorem i_vc0 : wpX_init (fun u => wpY_init (fun v => i_Rel 0 u v)) := by
  have e0 : ((0 : Int32) * 85 + 0).toNatClampNeg = 0 := by decide
  have e1 : ((1 : Int32) * 85 + 0).toNatClampNeg = 85 := by decide
  have e2 : ((2 : Int32) * 85 + 0).toNatClampNeg = 170 := by decide
  have z : i_Rel 0 (0, upd (upd (upd (fun _ => 0) 0 2) 85 2) 170 2, (fun _ => 0), (fun _ => 0), (fun _ => 0)) (0, (fun _ => 0), (fun _ => 0), (fun _ => 0), (fun _ => 0), (fun _ => 0)) := by
    rw [ov_top_0]
    exact za_rel _ (fun j => ⟨fun q => absurd q (by decide), fun _ => rfl⟩) (fun j => Or.inl rfl)
  refine ⟨4, br_f (by decide) ⟨vp_in_iff.mpr (by decide), nm_r (e' := upd (fun _ => 0) 0 2) (by rw [e0]) (nm_r (e' := 1) (by decide) (br_f (by decide) ⟨vp_in_iff.mpr (by decide), nm_r (e' := upd (upd (fun _ => 0) 0 2) 85 2) (by rw [e1]) (nm_r (e' := 2) (by decide) (br_f (by decide) ⟨vp_in_iff.mpr (by decide), nm_r (e' := upd (upd (upd (fun _ => 0) 0 2) 85 2) 170 2) (by rw [e2]) (nm_r (e' := 3) (by decide) (br_t (by decide) z))⟩))⟩))⟩⟩
theorem i_vc_fill {k : Nat} {u : SX} {v : SY} (I : i_Rel k u v) (hk : k + 5 ≤ 2560) (v1 : Int32) (v2 : Int32) (v3 : Int32) (v4 : Int32) : wpX_fill (fun r u' => wpY_fill (fun r' v' => r' = r ∧ i_Rel (k + 5) u' v') v v1 v2 v3 v4) u v1 v2 v3 v4 := by
  obtain ⟨m, g, V, T, W, Z, A, rfl, rfl, hW, hr⟩ := I
  have J : ((-1 : Int32) = -1 ∧ i_Rel (k + 5) (m, ov_top g, V, T, W) (m, g, V, T, Z, A)) := ⟨rfl, za_rel A hW hr⟩
  by_cases hm : m = 0
  · subst hm
    by_cases l0 : v1 < 0
    · exact br_t rfl (br_t l0 (br_t rfl (br_t l0 J)))
    · obtain ⟨l, hl, rfl⟩ := nI_of l0
      by_cases l3 : l < 3
      · have x3 : ¬ (3 : Int32) ≤ nI l := nI_ge (b := 3) l3 (by decide)
        have y2 : ¬ (2 : Int32) < nI l := nI_nlt (a := 2) (by omega) (by decide)
        have no : ∀ x : Int32, x ≤ 0 ∨ (85 : Int32) ≤ x → wpX_fill (fun r u' => wpY_fill (fun r' v' => r' = r ∧ i_Rel (k + 5) u' v') (0, g, V, T, Z, A) (nI l) x v3 v4) (0, ov_top g, V, T, W) (nI l) x v3 v4 := fun x h => by
          refine br_t rfl (br_f l0 (br_f x3 (xa_below_f h (br_t rfl (br_t rfl (br_f l0 (br_f y2 (br_c (fun _ => J) (fun q => ya_bad_f ?_ (br_f (by decide) J))))))))))
          refine h.elim (fun a => ?_) Or.inr
          exact absurd (Int32.lt_of_le_of_lt a (by decide)) q
        rcases ov_ix v2 with h | ⟨p, hp, rfl⟩
        · exact no v2 (h.elim (fun a => Or.inl (Int32.le_of_lt a)) Or.inr)
        · by_cases p1 : 1 ≤ p
          · by_cases s1 : v3 < 1
            · exact br_t rfl (br_f l0 (br_f x3 (xa_below_t p1 hp (br_f (by decide) (br_t s1 (br_t rfl (br_f l0 (br_f y2 (br_f (nI_nlt (b := 1) p1 (by omega)) (ya_bad_t hp (br_t rfl (br_t s1 J))))))))))))
            · by_cases s4 : v3 ≤ 4
              · have hx : ov_rng v3 := ov_rng_of s1 (Int32.not_lt.mpr s4)
                refine xa_fill_in l3 p1 hp s1 s4 (fun a b => ya_fill_in l3 p1 hp s1 s4 (fun _ _ => ⟨rfl, za_rel A hW (ov_rng_u hr hx)⟩) (fun z => absurd ⟨a, b⟩ z)) (fun z => ya_fill_in l3 p1 hp s1 s4 (fun a b => absurd ⟨a, b⟩ z) (fun _ => J))
              · exact br_t rfl (br_f l0 (br_f x3 (xa_below_t p1 hp (br_f (by decide) (br_f s1 (br_f s4 (br_t rfl (br_f l0 (br_f y2 (br_f (nI_nlt (b := 1) p1 (by omega)) (ya_bad_t hp (br_t rfl (br_f s1 (br_f s4 J))))))))))))))
          · have e : p = 0 := by omega
            subst e
            exact no (nI 0) (Or.inl (by decide))
      · have x3 : (3 : Int32) ≤ nI l := nI_le (a := 3) (by omega) hl
        have y2 : (2 : Int32) < nI l := nI_lt (a := 2) (by omega) hl
        exact br_t rfl (br_f l0 (br_t x3 (br_t rfl (br_f l0 (br_t y2 J)))))
  · exact br_f hm (br_f hm J)
theorem i_vc_mount {k : Nat} {u : SX} {v : SY} (I : i_Rel k u v) (hk : k + 5 ≤ 2560) : wpX_mount (fun r u' => wpY_mount (fun r' v' => r' = r ∧ i_Rel (k + 5) u' v') v) u := by
  obtain ⟨m, g, V, T, W, Z, A, rfl, rfl, hW, hr⟩ := I
  by_cases hm : m = 0
  · obtain ⟨T1, W1, Z1, hW1, hX, hY⟩ := za_loop (m := 1) (V := V) (I := A) hr 84 1 (by omega) (by omega) _ _ _ (ov_W_other hW 0 (s := 2) (by decide))
    refine br_t hm (xa_put (j := 0) (by decide) ⟨85, hX _ ?_⟩)
    exact br_t hm (nm_e ⟨85, hY _ ⟨rfl, za_rel A hW1 hr⟩⟩)
  · exact br_f hm (br_f hm ⟨rfl, za_rel A hW hr⟩)
theorem i_vc_make {k : Nat} {u : SX} {v : SY} (I : i_Rel k u v) (hk : k + 5 ≤ 2560) (v1 : Int32) (v2 : Int32) : wpX_make (fun r u' => wpY_make (fun r' v' => r' = r ∧ i_Rel (k + 5) u' v') v v1 v2) u v1 v2 := by
  obtain ⟨m, g, V, T, W, Z, A, rfl, rfl, hW, hr⟩ := I
  rcases ov_ix v1 with h | ⟨j, hj, rfl⟩
  · exact xa_make_o h (ya_make_o h ⟨rfl, za_rel A hW hr⟩)
  · exact xa_make hj (fun q => ya_make hj (fun _ => ⟨rfl, za_rel A (ov_W_file hW j v2) hr⟩) (fun z => absurd q z)) (fun q => ya_make hj (fun z => absurd z q) (fun _ => ⟨rfl, za_rel A hW hr⟩))
theorem i_vc_makeDir {k : Nat} {u : SX} {v : SY} (I : i_Rel k u v) (hk : k + 5 ≤ 2560) (v1 : Int32) : wpX_makeDir (fun r u' => wpY_makeDir (fun r' v' => r' = r ∧ i_Rel (k + 5) u' v') v v1) u v1 := by
  obtain ⟨m, g, V, T, W, Z, A, rfl, rfl, hW, hr⟩ := I
  rcases ov_ix v1 with h | ⟨j, hj, rfl⟩
  · exact xa_mdir_o h (ya_mdir_o h ⟨rfl, za_rel A hW hr⟩)
  · exact xa_mdir hj (fun q => ya_mdir hj (fun _ => ⟨rfl, za_rel A (ov_W_other hW j (by decide)) hr⟩) (fun z => absurd q z)) (fun q => ya_mdir hj (fun z => absurd z q) (fun _ => ⟨rfl, za_rel A hW hr⟩))
theorem i_vc_write {k : Nat} {u : SX} {v : SY} (I : i_Rel k u v) (hk : k + 5 ≤ 2560) (v1 : Int32) (v2 : Int32) : wpX_write (fun r u' => wpY_write (fun r' v' => r' = r ∧ i_Rel (k + 5) u' v') v v1 v2) u v1 v2 := by
  obtain ⟨m, g, V, T, W, Z, A, rfl, rfl, hW, hr⟩ := I
  by_cases hm : m = 0
  · exact br_t hm (br_t hm ⟨rfl, za_rel A hW hr⟩)
  · rcases ov_ix v1 with h | ⟨j, hj, rfl⟩
    · exact br_f hm (xa_path_f h (br_t rfl (br_f hm (ya_bad_f h (br_f (by decide) ⟨rfl, za_rel A hW hr⟩)))))
    · have c : (nI j).toNatClampNeg = j := nI_clamp (by omega)
      have vj : vp_in (nI j) 85 := vp_in_nI hj (by decide)
      unfold wpX_write wpY_write
      dsimp only
      rw [c]
      by_cases t : T j = 1
      · exact br_f hm (xa_path_t hj (br_f (by decide) ⟨vj, br_t t ⟨vj, nm_e ⟨vj, nm_e (br_f hm (ya_bad_t hj (br_t rfl ⟨vj, br_t t ⟨vj, nm_e ⟨vj, nm_e ⟨(hW j).1 t, za_rel A (ov_W_write hW j v2 t) hr⟩⟩⟩⟩)))⟩⟩⟩))
      · exact br_f hm (xa_path_t hj (br_f (by decide) ⟨vj, br_f t (br_f hm (ya_bad_t hj (br_t rfl ⟨vj, br_f t ⟨rfl, za_rel A hW hr⟩⟩)))⟩))
theorem i_vc_remove {k : Nat} {u : SX} {v : SY} (I : i_Rel k u v) (hk : k + 5 ≤ 2560) (v1 : Int32) : wpX_remove (fun r u' => wpY_remove (fun r' v' => r' = r ∧ i_Rel (k + 5) u' v') v v1) u v1 := by
  obtain ⟨m, g, V, T, W, Z, A, rfl, rfl, hW, hr⟩ := I
  rcases ov_ix v1 with h | ⟨j, hj, rfl⟩
  · exact xa_rem_o h (ya_rem_o h ⟨rfl, za_rel A hW hr⟩)
  · exact xa_rem hj (fun a b => ya_rem hj (fun _ _ => ⟨rfl, za_rel A (ov_W_other hW j (by decide)) hr⟩) (fun z => absurd ⟨a, b⟩ z)) (fun z => ya_rem hj (fun a b => absurd ⟨a, b⟩ z) (fun _ => ⟨rfl, za_rel A hW hr⟩))
theorem i_vc_move {k : Nat} {u : SX} {v : SY} (I : i_Rel k u v) (hk : k + 5 ≤ 2560) (v1 : Int32) (v2 : Int32) : wpX_move (fun r u' => wpY_move (fun r' v' => r' = r ∧ i_Rel (k + 5) u' v') v v1 v2) u v1 v2 := by
  obtain ⟨m, g, V, T, W, Z, A, rfl, rfl, hW, hr⟩ := I
  rcases ov_ix v1 with h | ⟨f, hf, rfl⟩
  · exact xa_move_o1 h (ya_move_o1 h ⟨rfl, za_rel A hW hr⟩)
  · rcases ov_ix v2 with h | ⟨t, ht, rfl⟩
    · exact xa_move_o2 hf h (ya_move_o2 hf h ⟨rfl, za_rel A hW hr⟩)
    · refine xa_move hf ht (fun a b c d => ya_move hf ht (fun _ _ _ _ B => ?_) (fun z => absurd ⟨a, b, c, d⟩ z)) (fun z => ya_move hf ht (fun a b c d => absurd ⟨a, b, c, d⟩ z) (fun _ B => ⟨rfl, za_rel B hW hr⟩))
      have R0 : ov_R (T, W, 0) (T, Z, 0) := ⟨rfl, rfl, hW⟩
      have R := ov_R_r (ov_R_r (ov_R_r R0 f t 1) (4 * f + 1) (4 * t + 1) (min 4 (min (85 - (4 * f + 1)) (85 - (4 * t + 1))))) (16 * f + 5) (16 * t + 5) (min 16 (min (85 - (16 * f + 5)) (85 - (16 * t + 5))))
      rw [← ov_yl_eq a.2.1 hf ht] at R
      refine ⟨congrArg nI R.2.1.symm, ?_⟩
      have e : (ov_yl f t 85 (T, Z, 0)).1 = (ov_mx f t (T, W, 0)).1 := R.1.symm
      rw [e]
      exact za_rel B R.2.2 hr
theorem i_vc_press {k : Nat} {u : SX} {v : SY} (I : i_Rel k u v) (hk : k + 5 ≤ 2560) : wpX_press (fun r => wpY_press (fun r' => r' = r ∧ i_Rel (k + 5) u v) v) u := by
  obtain ⟨m, g, V, T, W, Z, A, rfl, rfl, hW, hr⟩ := I
  by_cases hm : m = 0
  · exact br_t hm (br_t hm ⟨rfl, za_rel A hW hr⟩)
  · exact br_f hm (br_f hm ⟨rfl, za_rel A hW hr⟩)
theorem i_vc_sort {k : Nat} {u : SX} {v : SY} (I : i_Rel k u v) (hk : k + 5 ≤ 2560) (v1 : Int32) : wpX_sort (fun r => wpY_sort (fun r' => r' = r ∧ i_Rel (k + 5) u v) v v1) u v1 := by
  obtain ⟨m, g, V, T, W, Z, A, rfl, rfl, hW, hr⟩ := I
  unfold wpX_sort wpY_sort
  dsimp only
  rcases ov_ix v1 with h | ⟨j, hj, rfl⟩
  · exact xa_path_f h (br_t rfl (ya_bad_f h (br_f (by decide) ⟨rfl, za_rel A hW hr⟩)))
  · exact xa_path_t hj (br_f (by decide) ⟨vp_in_nI hj (by decide), ya_bad_t hj (br_t rfl ⟨vp_in_nI hj (by decide), rfl, za_rel A hW hr⟩)⟩)
theorem i_vc_value {k : Nat} {u : SX} {v : SY} (I : i_Rel k u v) (hk : k + 5 ≤ 2560) (v1 : Int32) : wpX_value (fun r => wpY_value (fun r' => r' = r ∧ i_Rel (k + 5) u v) v v1) u v1 := by
  obtain ⟨m, g, V, T, W, Z, A, rfl, rfl, hW, hr⟩ := I
  unfold wpX_value wpY_value
  dsimp only
  rcases ov_ix v1 with h | ⟨j, hj, rfl⟩
  · exact xa_path_f h (br_t rfl (ya_bad_f h (br_f (by decide) ⟨rfl, za_rel A hW hr⟩)))
  · have c : (nI j).toNatClampNeg = j := nI_clamp (by omega)
    have vj : vp_in (nI j) 85 := vp_in_nI hj (by decide)
    rw [c]
    exact xa_path_t hj (br_f (by decide) ⟨vj, ya_bad_t hj (br_t rfl ⟨vj, br_c (fun z => ⟨vj, (hW j).1 z, za_rel A hW hr⟩) (fun z => ⟨((hW j).2 z).symm, za_rel A hW hr⟩)⟩)⟩)
theorem i_vc_entries {k : Nat} {u : SX} {v : SY} (I : i_Rel k u v) (hk : k + 5 ≤ 2560) (v1 : Int32) : wpX_entries (fun r => wpY_entries (fun r' => r' = r ∧ i_Rel (k + 5) u v) v v1) u v1 := by
  obtain ⟨m, g, V, T, W, Z, A, rfl, rfl, hW, hr⟩ := I
  unfold wpX_entries wpY_entries
  dsimp only
  rcases ov_ix v1 with h | ⟨j, hj, rfl⟩
  · exact xa_path_f h (br_t rfl (ya_bad_f h (br_f (by decide) ⟨rfl, za_rel A hW hr⟩)))
  · have c : (nI j).toNatClampNeg = j := nI_clamp (by omega)
    have vj : vp_in (nI j) 85 := vp_in_nI hj (by decide)
    rw [c]
    refine xa_path_t hj (br_f (by decide) ⟨vj, br_c (fun z => xa_ce hj (ya_bad_t hj (br_t rfl ⟨vj, br_t z ?_⟩))) (fun z => ya_bad_t hj (br_t rfl ⟨vj, br_f z ⟨rfl, za_rel A hW hr⟩⟩))⟩)
    have i := ya_en (post := fun r' => r' = nI (ov_k (ov_eP T j) 85) ∧ i_Rel (k + 5) (m, ov_top g, V, T, W) (m, g, V, T, Z, A)) (m := m) (g := g) (V := V) (Z := Z) (I := A) hj ⟨rfl, za_rel A hW hr⟩ 85 1 (by omega) (by omega) (by omega)
    rw [ov_e1] at i
    exact ⟨85, i⟩
theorem i_vc_total {k : Nat} {u : SX} {v : SY} (I : i_Rel k u v) (hk : k + 5 ≤ 2560) : wpX_total (fun r => wpY_total (fun r' => r' = r ∧ i_Rel (k + 5) u v) v) u := by
  obtain ⟨m, g, V, T, W, Z, A, rfl, rfl, hW, hr⟩ := I
  exact xa_total (ya_total ⟨rfl, za_rel A hW hr⟩)
end
