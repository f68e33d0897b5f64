/-! the layers: the one side holds a directory at each layer's root, the other nothing -/
def ov_top (g : Nat → Int32) : Nat → Int32 := fun j => if j = 0 ∨ j = 85 ∨ j = 170 then 2 else g j
theorem ov_top_r {g : Nat → Int32} {l : Nat} (h : l < 3) : ov_top g (85 * l) = 2 := if_pos (by omega)
theorem ov_top_p {g : Nat → Int32} {l p : Nat} (h : l < 3) (h1 : 1 ≤ p) (h2 : p < 85) : ov_top g (85 * l + p) = g (85 * l + p) := if_neg (by omega)
theorem ov_top_u {g : Nat → Int32} {l p : Nat} {x : Int32} (h : l < 3) (h1 : 1 ≤ p) (h2 : p < 85) : upd (ov_top g) (85 * l + p) x = ov_top (upd g (85 * l + p) x) := by
  funext j
  by_cases hj : j = 85 * l + p
  · subst hj
    rw [pk_us, ov_top_p h h1 h2, pk_us]
  · rw [pk_un hj]
    unfold ov_top
    rw [pk_un hj]
theorem ov_top_0 : upd (upd (upd (fun _ => 0) 0 2) 85 2) 170 2 = ov_top (fun _ => 0) := by
  funext j
  unfold ov_top upd
  by_cases h1 : j = 170
  · rw [if_pos h1, if_pos (by omega)]
  · rw [if_neg h1]
    by_cases h2 : j = 85
    · rw [if_pos h2, if_pos (by omega)]
    · rw [if_neg h2]
      by_cases h3 : j = 0
      · rw [if_pos h3, if_pos (by omega)]
      · rw [if_neg h3, if_neg (by omega)]
def ov_rng (x : Int32) : Prop := x = 0 ∨ x = 1 ∨ x = 2 ∨ x = 3 ∨ x = 4
theorem ov_rng_of {x : Int32} (h1 : ¬ x < 1) (h4 : ¬ 4 < x) : ov_rng x := by
  obtain ⟨j, hj, rfl⟩ := nI_of (x := x) (fun z => h1 (Int32.lt_trans z (by decide)))
  have a := mt (nI_lt (a := j) (b := 1)) (fun q => h1 (q (by decide)))
  have b := mt (nI_lt (a := 4) (b := j)) (fun q => h4 (q hj))
  have c : j = 1 ∨ j = 2 ∨ j = 3 ∨ j = 4 := by omega
  rcases c with rfl | rfl | rfl | rfl
  · exact Or.inr (Or.inl rfl)
  · exact Or.inr (Or.inr (Or.inl rfl))
  · exact Or.inr (Or.inr (Or.inr (Or.inl rfl)))
  · exact Or.inr (Or.inr (Or.inr (Or.inr rfl)))
theorem ov_rng_u {g : Nat → Int32} {k : Nat} {x : Int32} (h : ∀ j, ov_rng (g j)) (hx : ov_rng x) : ∀ j, ov_rng (upd g k x j) := by
  intro j
  by_cases hj : j = k
  · subst hj
    rw [pk_us]
    exact hx
  · rw [pk_un hj]
    exact h j
/-- a cover: a file, a closed directory or a hole -/
def ov_cv (x : Int32) : Prop := x = 1 ∨ x = 3 ∨ x = 4
/-- whether something above u in the layer l hides: k steps up at most -/
def ov_h (g : Nat → Int32) (l : Nat) : Nat → Nat → Prop
  | 0, _ => False
  | k + 1, u => 0 < u ∧ ((0 < (u - 1) / 4 ∧ ov_cv (g (85 * l + (u - 1) / 4))) ∨ ov_h g l k ((u - 1) / 4))
theorem ov_h_s (g : Nat → Int32) (l k u : Nat) : ov_h g l (k + 1) u ↔ 0 < u ∧ ((0 < (u - 1) / 4 ∧ ov_cv (g (85 * l + (u - 1) / 4))) ∨ ov_h g l k ((u - 1) / 4)) := Iff.rfl
theorem ov_h_0 (g : Nat → Int32) (l k : Nat) : ¬ ov_h g l k 0 := by
  cases k with
  | zero => exact fun z => z
  | succ k => exact fun z => absurd z.1 (by omega)
theorem ov_h_y {g : Nat → Int32} {l k u : Nat} (h : 0 < u) (h1 : 0 < (u - 1) / 4) (h2 : ov_cv (g (85 * l + (u - 1) / 4))) : ov_h g l (k + 1) u := ⟨h, Or.inl ⟨h1, h2⟩⟩
theorem ov_h_n {g : Nat → Int32} {l k u : Nat} (h : 0 < u) (h1 : ¬ (0 < (u - 1) / 4 ∧ ov_cv (g (85 * l + (u - 1) / 4)))) : ov_h g l (k + 1) u ↔ ov_h g l k ((u - 1) / 4) :=
  ⟨fun z => z.2.elim (fun q => absurd q h1) (fun q => q), fun z => ⟨h, Or.inr z⟩⟩
/-- whether u lies under f, k steps at most -/
def ov_u (f : Nat) : Nat → Nat → Prop
  | 0, _ => False
  | k + 1, u => 0 < u ∧ ((u - 1) / 4 = f ∨ ov_u f k ((u - 1) / 4))
theorem ov_u_0 (f k : Nat) : ¬ ov_u f k 0 := by
  cases k with
  | zero => exact fun z => z
  | succ k => exact fun z => absurd z.1 (by omega)
theorem ov_u_y {f k u : Nat} (h : 0 < u) (h1 : (u - 1) / 4 = f) : ov_u f (k + 1) u := ⟨h, Or.inl h1⟩
theorem ov_u_n {f k u : Nat} (h : 0 < u) (h1 : ¬ (u - 1) / 4 = f) : ov_u f (k + 1) u ↔ ov_u f k ((u - 1) / 4) :=
  ⟨fun z => z.2.elim (fun q => absurd q h1) (fun q => q), fun z => ⟨h, Or.inr z⟩⟩
theorem ov_u_3 (f u : Nat) : ov_u f 3 u ↔ (0 < u ∧ ((u - 1) / 4 = f ∨ (0 < (u - 1) / 4 ∧ (((u - 1) / 4 - 1) / 4 = f ∨ (0 < ((u - 1) / 4 - 1) / 4 ∧ ((((u - 1) / 4 - 1) / 4 - 1) / 4 = f ∨ False)))))) := Iff.rfl
theorem ov_u_c {f t s : Nat} (hf : 1 ≤ f) (ht : t < 85) (hs : s < 85) (h : t ≠ f) : ov_u f 3 t ↔ ov_c f s t ≠ 86 := by
  rw [ov_u_3]
  have e := ov_c_cases f s t
  constructor
  · intro z q
    rw [q] at e
    rcases z with ⟨h0, z | ⟨h2, z | ⟨h3, z | z⟩⟩⟩
    · omega
    · omega
    · omega
    · exact z
  · intro z
    by_cases h1 : (t - 1) / 4 = f
    · exact ⟨by omega, Or.inl h1⟩
    · exact ⟨by omega, Or.inr ⟨by omega, Or.inl (by omega)⟩⟩
/-- an image as the reference writes it -/
def ov_v (c : Nat) : Int32 := if c = 86 then -1 else nI c
theorem ov_v_n : ov_v 86 = -1 := if_pos rfl
theorem ov_v_c {c : Nat} (h : c ≠ 86) : ov_v c = nI c := if_neg h
