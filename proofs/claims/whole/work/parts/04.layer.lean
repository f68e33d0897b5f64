/-! the layers: the one side holds a directory at each layer's root, the other nothing -/
def ov_top (g : Nat → Int32) : Nat → Int32 := fun j => if j = 0 ∨ j = 85 ∨ j = 170 then 2 else g j
theorem ov_top_r {g : Nat → Int32} {l : Nat} (h : l < 3) : ov_top g (85 * l) = 2 := if_pos (by omega)
theorem ov_top_p {g : Nat → Int32} {l p : Nat} (h : l < 3) (h1 : 1 ≤ p) (h2 : p < 85) : ov_top g (85 * l + p) = g (85 * l + p) := if_neg (by omega)
theorem ov_top_u {g : Nat → Int32} {l p : Nat} {x : Int32} (h : l < 3) (h1 : 1 ≤ p) (h2 : p < 85) : upd (ov_top g) (85 * l + p) x = ov_top (upd g (85 * l + p) x) := by
  funext j
  by_cases hj : j = 85 * l + p
  · subst hj
    rw [pk_us, ov_top_p h h1 h2, pk_us]
  · rw [pk_un hj]
    unfold ov_top
    rw [pk_un hj]
theorem ov_top_0 : upd (upd (upd (fun _ => 0) 0 2) 85 2) 170 2 = ov_top (fun _ => 0) := by
  funext j
  unfold ov_top upd
  by_cases h1 : j = 170
  · rw [if_pos h1, if_pos (by omega)]
  · rw [if_neg h1]
    by_cases h2 : j = 85
    · rw [if_pos h2, if_pos (by omega)]
    · rw [if_neg h2]
      by_cases h3 : j = 0
      · rw [if_pos h3, if_pos (by omega)]
      · rw [if_neg h3, if_neg (by omega)]
def ov_rng (x : Int32) : Prop := x = 0 ∨ x = 1 ∨ x = 2 ∨ x = 3 ∨ x = 4
theorem ov_rng_of {x : Int32} (h1 : ¬ x < 1) (h4 : ¬ 4 < x) : ov_rng x := by
  obtain ⟨j, hj, rfl⟩ := nI_of (x := x) (fun z => h1 (Int32.lt_trans z (by decide)))
  have a := mt (nI_lt (a := j) (b := 1)) (fun q => h1 (q (by decide)))
  have b := mt (nI_lt (a := 4) (b := j)) (fun q => h4 (q hj))
  have c : j = 1 ∨ j = 2 ∨ j = 3 ∨ j = 4 := by omega
  rcases c with rfl | rfl | rfl | rfl
  · exact Or.inr (Or.inl rfl)
  · exact Or.inr (Or.inr (Or.inl rfl))
  · exact Or.inr (Or.inr (Or.inr (Or.inl rfl)))
  · exact Or.inr (Or.inr (Or.inr (Or.inr rfl)))
theorem ov_rng_u {g : Nat → Int32} {k : Nat} {x : Int32} (h : ∀ j, ov_rng (g j)) (hx : ov_rng x) : ∀ j, ov_rng (upd g k x j) := by
  intro j
  by_cases hj : j = k
  · subst hj
    rw [pk_us]
    exact hx
  · rw [pk_un hj]
    exact h j
/-- a cover: a file, a closed directory or a hole -/
def ov_cv (x : Int32) : Prop := x = 1 ∨ x = 3 ∨ x = 4
/-- whether something above u in the layer l hides: k steps up at most -/
def ov_h (g : Nat → Int32) (l : Nat) : Nat → Nat → Prop
  | 0, _ => False
  | k + 1, u => 0 < u ∧ ((0 < (u - 1) / 4 ∧ ov_cv (g (85 * l + (u - 1) / 4))) ∨ ov_h g l k ((u - 1) / 4))
