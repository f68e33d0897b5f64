/-! the component's walks, each against the pure side -/
section
variable {m : Int32} {L V T W : Nat → Int32}
theorem ov_ix (x : Int32) : (x < 0 ∨ (85 : Int32) ≤ x) ∨ ∃ j : Nat, j < 85 ∧ x = nI j := by
  rcases pk_ix x (n := 85) (by decide) with h | h | h
  · exact Or.inl (Or.inl h)
  · exact Or.inl (Or.inr h)
  · exact Or.inr h
theorem xa_below_t {post : Int32 → Prop} {j : Nat} (h1 : 1 ≤ j) (h2 : j < 85) (k : post 1) : wpX_isBelowRoot post (nI j) :=
  br_f (nI_nle h1 (by omega)) (br_f (nI_ge (b := 85) h2 (by decide)) k)
theorem xa_below_f {post : Int32 → Prop} {x : Int32} (h : x ≤ 0 ∨ (85 : Int32) ≤ x) (k : post 0) : wpX_isBelowRoot post x :=
  br_c (fun _ => k) (fun n0 => br_c (fun _ => k) (fun n85 => h.elim (fun a => absurd a n0) (fun b => absurd b n85)))
theorem xa_path_t {post : Int32 → Prop} {j : Nat} (h2 : j < 85) (k : post 1) : wpX_isPath post (nI j) :=
  br_f (nI_pos (by omega)) (br_f (nI_ge (b := 85) h2 (by decide)) k)
theorem xa_path_f {post : Int32 → Prop} {x : Int32} (h : x < 0 ∨ (85 : Int32) ≤ x) (k : post 0) : wpX_isPath post x :=
  br_c (fun _ => k) (fun n0 => br_c (fun _ => k) (fun n85 => h.elim (fun a => absurd a n0) (fun b => absurd b n85)))
theorem xa_par {post : Int32 → Prop} {j : Nat} (h1 : 1 ≤ j) (h2 : j < 2 ^ 31) (k : post (nI ((j - 1) / 4))) : wpX_parentOf post (nI j) := by
  unfold wpX_parentOf
  rw [ov_par h1 h2]
  exact ⟨by decide, k⟩
theorem xa_first {post : Int32 → Prop} {j : Nat} (k : post (nI (4 * j + 1))) : wpX_firstBelow post (nI j) := by
  unfold wpX_firstBelow
  rw [ov_4m, nI_1]
  exact k
theorem xa_any_t {post : Int32 → Prop} {x : Int32} (h : x = 2 ∨ x = 3) (k : post 1) : wpX_isAnyDirectory post x :=
  br_c (fun _ => k) (fun n2 => br_c (fun _ => k) (fun n3 => h.elim (fun a => absurd a n2) (fun b => absurd b n3)))
theorem xa_any_f {post : Int32 → Prop} {x : Int32} (h2 : ¬ x = 2) (h3 : ¬ x = 3) (k : post 0) : wpX_isAnyDirectory post x :=
  br_f h2 (br_f h3 k)
theorem xa_put {post : SX → Prop} {j : Nat} (hj : j < 85) {s v : Int32} (k : post (m, L, V, upd T j s, upd W j v)) : wpX_put post (m, L, V, T, W) (nI j) s v := by
  have c : (nI j).toNatClampNeg = j := nI_clamp (by omega)
  unfold wpX_put
  dsimp only
  rw [c]
  exact ⟨vp_in_nI hj (by decide), nm_e ⟨vp_in_nI hj (by decide), nm_e k⟩⟩
/-- something may be put there -/
def ov_vac (m : Int32) (T : Nat → Int32) (j : Nat) : Prop := ¬ m = 0 ∧ 1 ≤ j ∧ T j = 0 ∧ T ((j - 1) / 4) = 2
/-- something is there, and it is not the root -/
def ov_tak (m : Int32) (T : Nat → Int32) (j : Nat) : Prop := ¬ m = 0 ∧ 1 ≤ j ∧ ¬ T j = 0
theorem xa_vac_o {post : Int32 → Prop} {x : Int32} (h : x < 0 ∨ (85 : Int32) ≤ x) (k : post 0) : wpX_isVacant post (m, L, V, T, W) x := by
  unfold wpX_isVacant
  exact br_c (fun _ => k) (fun _ => xa_below_f (h.elim (fun a => Or.inl (Int32.le_of_lt a)) Or.inr) (br_t rfl k))
theorem xa_vac {post : Int32 → Prop} {j : Nat} (hj : j < 85) (k1 : ov_vac m T j → post 1) (k0 : ¬ ov_vac m T j → post 0) : wpX_isVacant post (m, L, V, T, W) (nI j) := by
  have c : (nI j).toNatClampNeg = j := nI_clamp (by omega)
  have c2 : (nI ((j - 1) / 4)).toNatClampNeg = (j - 1) / 4 := nI_clamp (by omega)
  unfold wpX_isVacant
  dsimp only
  rw [c]
  refine br_c (fun z => k0 (fun q => q.1 z)) (fun z => ?_)
  by_cases h : 1 ≤ j
  · refine xa_below_t h hj (br_f (by decide) ⟨vp_in_nI hj (by decide), br_c (fun y => xa_par h (by omega) ?_) (fun y => k0 (fun q => y q.2.2.1))⟩)
    rw [c2]
    exact ⟨vp_in_nI (by omega) (by decide), br_c (fun w => k1 ⟨z, h, y, w⟩) (fun w => k0 (fun q => w q.2.2.2))⟩
  · have e : j = 0 := by omega
    subst e
    exact xa_below_f (Or.inl (by decide)) (br_t rfl (k0 (fun q => absurd q.2.1 (by decide))))
theorem xa_tak_o {post : Int32 → Prop} {x : Int32} (h : x < 0 ∨ (85 : Int32) ≤ x) (k : post 0) : wpX_isTaken post (m, L, V, T, W) x := by
  unfold wpX_isTaken
  exact br_c (fun _ => k) (fun _ => xa_below_f (h.elim (fun a => Or.inl (Int32.le_of_lt a)) Or.inr) (br_t rfl k))
theorem xa_tak {post : Int32 → Prop} {j : Nat} (hj : j < 85) (k1 : ov_tak m T j → post 1) (k0 : ¬ ov_tak m T j → post 0) : wpX_isTaken post (m, L, V, T, W) (nI j) := by
  have c : (nI j).toNatClampNeg = j := nI_clamp (by omega)
  unfold wpX_isTaken
  dsimp only
  rw [c]
  refine br_c (fun z => k0 (fun q => q.1 z)) (fun z => ?_)
  by_cases h : 1 ≤ j
  · exact xa_below_t h hj (br_f (by decide) ⟨vp_in_nI hj (by decide), br_c (fun y => k0 (fun q => q.2.2 y)) (fun y => k1 ⟨z, h, y⟩)⟩)
  · have e : j = 0 := by omega
    subst e
    exact xa_below_f (Or.inl (by decide)) (br_t rfl (k0 (fun q => absurd q.2.1 (by decide))))
theorem xa_cr {post : Int32 → Prop} {a w : Nat} (ha : a < 2 ^ 20) (hw : w < 2 ^ 20) (hp : post (nI (ov_n T a (min w (85 - a))))) : ∀ n k, min w (85 - a) < n + k → k ≤ min w (85 - a) → wX_countRow_5 post (nI a) (nI w) m L V T W n (nI (ov_n T a k)) (nI (a + k)) := by
  intro n
  induction n with
  | zero => intro k h1 h2; omega
  | succ n ih =>
    intro k h1 h2
    have fin : a + w ≤ a + k ∨ 85 ≤ a + k → post (nI (ov_n T a k)) := fun h => by
      have e : k = min w (85 - a) := by omega
      rw [e]
      exact hp
    have c : (nI (a + k)).toNatClampNeg = a + k := nI_clamp (by omega)
    refine pk_le (a + w) (a + k) (fun h => fin (Or.inl h)) (fun h => pk_le 85 (a + k) (fun h' => fin (Or.inr h')) (fun h' => ⟨vp_in_nI h' (by decide), ?_⟩)) (nI_add a w)
    have i := ih (k + 1) (by omega) (by omega)
    refine br_c (fun z => ?_) (fun z => ?_)
    · rw [c] at z
      rw [ov_n_0 z] at i
      exact nm_r (nI_1 (a + k)) i
    · rw [c] at z
      rw [ov_n_1 z] at i
      exact nm_r (nI_1 _) (nm_r (nI_1 (a + k)) i)
theorem xa_row {post : Int32 → Prop} {a w : Nat} (ha : a < 2 ^ 20) (hw : w < 2 ^ 20) (hp : post (nI (ov_n T a (min w (85 - a))))) : wpX_countRow post (m, L, V, T, W) (nI a) (nI w) := by
  unfold wpX_countRow
  exact ⟨min w (85 - a) + 1, xa_cr ha hw hp _ 0 (by omega) (by omega)⟩
theorem xa_ce {post : Int32 → Prop} {f : Nat} (hf : f < 85) (hp : post (nI (ov_k (ov_eP T f) 85))) : wpX_countEntries post (m, L, V, T, W) (nI f) := by
  rw [ov_e_eq] at hp
  unfold wpX_countEntries
  dsimp only
  exact xa_first (xa_row (w := 4) (by omega) (by decide) hp)
theorem ov_t1 (T : Nat → Int32) : ov_k (ov_tP T) 1 = 0 := ov_k_f (p := 0) (ov_tP_f (fun q => absurd q.1 (by decide)))
theorem ov_e1 (T : Nat → Int32) (f : Nat) : ov_k (ov_eP T f) 1 = 0 := ov_k_f (p := 0) (ov_eP_f (fun q => absurd q.1 (by decide)))
theorem ov_b1 (T : Nat → Int32) (f t : Nat) : ov_k (ov_bP T f t) 1 = 0 := ov_k_f (p := 0) (ov_bP_f (fun q => absurd q.1 (by decide)))
theorem xa_tl {post : Int32 → Prop} (hp : post (nI (ov_k (ov_tP T) 85))) : ∀ n p, 85 < n + p → 1 ≤ p → p ≤ 85 → wX_total_4 post m L V T W n (nI (ov_k (ov_tP T) p)) (nI p) := by
  intro n
  induction n with
  | zero => intro p h1 h2 h3; omega
  | succ n ih =>
    intro p h1 h2 h3
    have c : (nI p).toNatClampNeg = p := nI_clamp (by omega)
    refine pk_le 85 p (fun h => ?_) (fun h => ⟨vp_in_nI h (by decide), ?_⟩)
    · have e : p = 85 := by omega
      rw [e]
      exact hp
    · have i := ih (p + 1) (by omega) (by omega) (by omega)
      refine br_c (fun z => ?_) (fun z => ?_)
      · rw [c] at z
        rw [ov_k_f (ov_tP_f (fun q => q.2 z))] at i
        exact nm_r (nI_1 p) i
      · rw [c] at z
        rw [ov_k_t (ov_tP_t ⟨h2, z⟩)] at i
        exact nm_r (nI_1 _) (nm_r (nI_1 p) i)
theorem xa_total {post : Int32 → Prop} (hp : post (nI (ov_k (ov_tP T) 85))) : wpX_total post (m, L, V, T, W) := by
  have i := xa_tl (m := m) (L := L) (V := V) (W := W) hp 85 1 (by omega) (by omega) (by omega)
  rw [ov_t1] at i
  unfold wpX_total
  exact ⟨85, i⟩
theorem xa_un {post : Int32 → Prop} {f : Nat} (hf : f < 85) : ∀ k n u, k ≤ 3 → k < n → u < 85 → (ov_u f k u → post 1) → (¬ ov_u f k u → post 0) → wX_isUnder_4 post (nI f) n (nI u) (nI (3 - k)) := by
  intro k
  induction k with
  | zero =>
    intro n u h1 h2 h3 k1 k0
    obtain ⟨n, rfl⟩ : ∃ n', n = n' + 1 := ⟨n - 1, by omega⟩
    exact br_t (show (3 : Int32) ≤ nI (3 - 0) from by decide) (k0 (fun z => z))
  | succ k ih =>
    intro n u h1 h2 h3 k1 k0
    obtain ⟨n, rfl⟩ : ∃ n', n = n' + 1 := ⟨n - 1, by omega⟩
    refine br_f (nI_ge (a := 3 - (k + 1)) (b := 3) (by omega) (by decide)) (pk_le u 0 (fun h => ?_) (fun h => ?_))
    · have e : u = 0 := by omega
      rw [e] at k0
      exact k0 (ov_u_0 f _)
    · refine xa_par (by omega) (by omega) ?_
      refine pk_eq ((u - 1) / 4) f (fun e => k1 (ov_u_y h e)) (fun e => ?_)
      exact nm_r ((nI_1 _).trans (congrArg nI (by omega))) (ih n ((u - 1) / 4) (by omega) (by omega) (by omega) (fun z => k1 ((ov_u_n h e).mpr z)) (fun z => k0 (fun q => z ((ov_u_n h e).mp q))))
theorem xa_under {post : Int32 → Prop} {f u : Nat} (hf : f < 85) (hu : u < 85) (k1 : ov_u f 3 u → post 1) (k0 : ¬ ov_u f 3 u → post 0) : wpX_isUnder post (nI u) (nI f) := by
  unfold wpX_isUnder
  exact ⟨4, xa_un hf 3 4 u (by omega) (by omega) hu k1 k0⟩
end
