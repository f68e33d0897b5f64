/-! the component's walks: covers, what fits, what is carried -/
section
variable {m : Int32} {g V T W : Nat → Int32}
theorem ov_cell (l q : Nat) : nI l * 85 + nI q = nI (85 * l + q) := by
  rw [ov_85l, nI_add]
theorem ov_cell2 (l q : Nat) : 85 * nI l + nI q = nI (85 * l + q) := by
  rw [ov_l85, nI_add]
theorem xa_cv {post : Int32 → Prop} {l : Nat} (hl : l < 3) : ∀ k n u, k ≤ 3 → k < n → u < 85 → (ov_h g l k u → post 1) → (¬ ov_h g l k u → post 0) → wX_isCovered_5 post (nI l) m (ov_top g) V T W n (nI u) (nI (3 - k)) := by
  intro k
  induction k with
  | zero =>
    intro n u h1 h2 h3 k1 k0
    obtain ⟨n, rfl⟩ : ∃ n', n = n' + 1 := ⟨n - 1, by omega⟩
    exact br_t (show (3 : Int32) ≤ nI (3 - 0) from by decide) (k0 (fun z => z))
  | succ k ih =>
    intro n u h1 h2 h3 k1 k0
    obtain ⟨n, rfl⟩ : ∃ n', n = n' + 1 := ⟨n - 1, by omega⟩
    refine br_f (nI_ge (a := 3 - (k + 1)) (b := 3) (by omega) (by decide)) (pk_le u 0 (fun h => ?_) (fun h => ?_))
    · have e : u = 0 := by omega
      rw [e] at k0
      exact k0 (ov_h_0 g l _)
    · refine xa_par (by omega) (by omega) ?_
      have e := ov_cell l ((u - 1) / 4)
      have c : (nI (85 * l + (u - 1) / 4)).toNatClampNeg = 85 * l + (u - 1) / 4 := nI_clamp (by omega)
      refine ⟨by rw [e]; exact vp_in_nI (by omega) (by decide), nm_r (by rw [e, c]) ?_⟩
      by_cases z : 0 < (u - 1) / 4 ∧ ov_cv (g (85 * l + (u - 1) / 4))
      · rw [ov_top_p hl z.1 (by omega)]
        have y := k1 (ov_h_y h z.1 z.2)
        exact br_c (fun _ => y) (fun n1 => br_c (fun _ => y) (fun n3 => br_c (fun _ => y) (fun n4 => absurd z.2 (fun q => q.elim n1 (fun q => q.elim n3 n4)))))
      · have nc : ¬ ov_cv (ov_top g (85 * l + (u - 1) / 4)) := by
          by_cases y : 0 < (u - 1) / 4
          · rw [ov_top_p hl y (by omega)]
            exact fun q => z ⟨y, q⟩
          · rw [show (u - 1) / 4 = 0 by omega, Nat.add_zero, ov_top_r hl]
            exact fun q => q.elim (by decide) (fun q => q.elim (by decide) (by decide))
        refine br_f (fun q => nc (Or.inl q)) (br_f (fun q => nc (Or.inr (Or.inl q))) (br_f (fun q => nc (Or.inr (Or.inr q))) ?_))
        exact nm_r ((nI_1 _).trans (congrArg nI (by omega))) (ih n ((u - 1) / 4) (by omega) (by omega) (by omega) (fun q => k1 ((ov_h_n h z).mpr q)) (fun q => k0 (fun y => q ((ov_h_n h z).mp y))))
theorem xa_cover {post : Int32 → Prop} {l u : Nat} (hl : l < 3) (hu : u < 85) (k1 : ov_h g l 3 u → post 1) (k0 : ¬ ov_h g l 3 u → post 0) : wpX_isCovered post (m, ov_top g, V, T, W) (nI l) (nI u) := by
  unfold wpX_isCovered
  exact ⟨4, xa_cv hl 3 4 u (by omega) (by omega) hu k1 k0⟩
end
section
variable {m : Int32} {L V T W : Nat → Int32}
theorem xa_f36 {post : Int32 → Prop} {J : Int32 → Int32 → Int32 → Int32 → Prop} {s t w i : Nat} (k : J (nI (4 * s + 1)) (nI (4 * t + 1)) (nI (w * 4)) (nI (i + 1))) : wX_fits_36 post J (nI s) (nI t) (nI w) (nI i) m L V T W := by
  unfold wX_fits_36
  exact xa_first (xa_first (nm_r (ov_m4 w) (nm_r (nI_1 i) k)))
theorem xa_fs {post : Int32 → Prop} {s t w i n : Nat} (hs : s < 2 ^ 20) (ht : t < 2 ^ 20) (hw : w < 2 ^ 20) (hi : i < 3) (k : (t < 85 ∨ ov_n T s (min w (85 - s)) = 0) → wX_fits_11 post m L V T W n (nI (4 * s + 1)) (nI (4 * t + 1)) (nI (w * 4)) (nI (i + 1))) (k0 : ¬ t < 85 → ¬ ov_n T s (min w (85 - s)) = 0 → post 0) : wX_fits_11 post m L V T W (n + 1) (nI s) (nI t) (nI w) (nI i) := by
  have le := ov_n_le T s (min w (85 - s))
  refine br_f (nI_ge (b := 3) hi (by decide)) (pk_lt t 85 (fun h => xa_f36 (k (Or.inl h))) (fun h => ?_))
  refine xa_row hs hw ?_
  exact pk_eq (ov_n T s (min w (85 - s))) 0 (fun z => xa_f36 (k (Or.inr z))) (fun z => k0 (by omega) z)
theorem xa_fits {post : Int32 → Prop} {f t : Nat} (hf : 1 ≤ f) (hf2 : f < 85) (ht : t < 85) (k1 : ov_k (ov_bP T f t) 85 = 0 → post 1) (k0 : ¬ ov_k (ov_bP T f t) 85 = 0 → post 0) : wpX_fits post (m, L, V, T, W) (nI f) (nI t) := by
  rw [ov_b_eq T hf ht] at k1 k0
  unfold wpX_fits
  refine ⟨4, ?_⟩
  refine xa_fs (w := 1) (i := 0) (by omega) (by omega) (by decide) (by decide) (fun _ => ?_) (fun z => absurd ht z)
  refine xa_fs (w := 4) (i := 1) (by omega) (by omega) (by decide) (by decide) (fun h1 => ?_) (fun z1 z2 => k0 ?_)
  · have e1 : 4 * (4 * f + 1) + 1 = 16 * f + 5 := by omega
    have e2 : 4 * (4 * t + 1) + 1 = 16 * t + 5 := by omega
    refine xa_fs (w := 16) (i := 2) (by omega) (by omega) (by decide) (by decide) (fun h2 => ?_) (fun z1 z2 => k0 ?_)
    · refine br_t (by decide) (k1 ?_)
      rw [e1, e2] at h2
      split <;> split <;> omega
    · rw [e1] at z2
      rw [if_neg (show ¬ t < 5 by omega)]
      omega
  · rw [if_neg (show ¬ t < 21 by omega)]
    omega
theorem xa_cy {post : Int32 → SX → Prop} {a b w : Nat} (ha : a < 2 ^ 20) (hb : b < 2 ^ 20) (hw : w < 2 ^ 20) {s0 : ov_S} (hp : post (nI (ov_xr a b (min w (min (85 - a) (85 - b))) s0).2.2) (m, L, V, (ov_xr a b (min w (min (85 - a) (85 - b))) s0).1, (ov_xr a b (min w (min (85 - a) (85 - b))) s0).2.1)) : ∀ n k, min w (min (85 - a) (85 - b)) < n + k → k ≤ min w (min (85 - a) (85 - b)) → wX_carryRow_6 post (nI a) (nI b) (nI w) n (nI (ov_xr a b k s0).2.2) (nI k) m L V (ov_xr a b k s0).1 (ov_xr a b k s0).2.1 := by
  intro n
  induction n with
  | zero => intro k h1 h2; omega
  | succ n ih =>
    intro k h1 h2
    have fin : w ≤ k ∨ 85 ≤ a + k ∨ 85 ≤ b + k → post (nI (ov_xr a b k s0).2.2) (m, L, V, (ov_xr a b k s0).1, (ov_xr a b k s0).2.1) := fun h => by
      have e : k = min w (min (85 - a) (85 - b)) := by omega
      rw [e]
      exact hp
    have i := ih (k + 1)
    rw [ov_xr_s] at i
    generalize ov_xr a b k s0 = s at fin i
    obtain ⟨T, W, c⟩ := s
    refine pk_le w k (fun h => fin (Or.inl h)) (fun h => pk_le 85 (a + k) (fun h' => fin (Or.inr (Or.inl h'))) (fun h' => pk_le 85 (b + k) (fun q => fin (Or.inr (Or.inr q))) (fun q => ?_) rfl (nI_add b k)) rfl (nI_add a k))
    have ca : (nI (a + k)).toNatClampNeg = a + k := nI_clamp (by omega)
    rw [nI_add a k, nI_add b k, ca]
    refine ⟨vp_in_nI h' (by decide), br_c (fun z => ?_) (fun z => ?_)⟩
    · have j := i (by omega) (by omega)
      rw [ov_x_0 (s := (T, W, c)) z] at j
      exact nm_r (nI_1 k) j
    · have j := i (by omega) (by omega)
      rw [ov_x_1 (s := (T, W, c)) z] at j
      refine ⟨vp_in_nI h' (by decide), vp_in_nI h' (by decide), xa_put q ?_⟩
      refine xa_put h' ?_
      exact nm_r (nI_1 c) (nm_r (nI_1 k) j)
theorem xa_cw {post : Int32 → SX → Prop} {a b w : Nat} (ha : a < 2 ^ 20) (hb : b < 2 ^ 20) (hw : w < 2 ^ 20) (hp : post (nI (ov_xr a b (min w (min (85 - a) (85 - b))) (T, W, 0)).2.2) (m, L, V, (ov_xr a b (min w (min (85 - a) (85 - b))) (T, W, 0)).1, (ov_xr a b (min w (min (85 - a) (85 - b))) (T, W, 0)).2.1)) : wpX_carryRow post (m, L, V, T, W) (nI a) (nI b) (nI w) := by
  unfold wpX_carryRow
  exact ⟨min w (min (85 - a) (85 - b)) + 1, xa_cy ha hb hw hp _ 0 (by omega) (by omega)⟩
theorem xa_ct {post : Int32 → SX → Prop} {a b w i n : Nat} (ha : a < 2 ^ 20) (hb : b < 2 ^ 20) (hw : w < 2 ^ 20) (hi : i < 3) (s : ov_S) (k : wX_carry_14 post n (nI (4 * a + 1)) (nI (4 * b + 1)) (nI (w * 4)) (nI (ov_xr a b (min w (min (85 - a) (85 - b))) s).2.2) (nI (i + 1)) m L V (ov_xr a b (min w (min (85 - a) (85 - b))) s).1 (ov_xr a b (min w (min (85 - a) (85 - b))) s).2.1) : wX_carry_14 post (n + 1) (nI a) (nI b) (nI w) (nI s.2.2) (nI i) m L V s.1 s.2.1 := by
  obtain ⟨T, W, c⟩ := s
  have e : ov_xr a b (min w (min (85 - a) (85 - b))) (T, W, c) = ov_ad c (ov_xr a b (min w (min (85 - a) (85 - b))) (T, W, 0)) := ov_xr_ad c a b (T, W, 0) _
  rw [e] at k
  refine br_f (nI_ge (b := 3) hi (by decide)) (xa_cw ha hb hw ?_)
  exact nm_r (nI_add _ _) (xa_first (xa_first (nm_r (ov_m4 w) (nm_r (nI_1 i) k))))
/-- all that is carried, as one state -/
def ov_mx (f t : Nat) (s : ov_S) : ov_S := ov_xr (16 * f + 5) (16 * t + 5) (min 16 (min (85 - (16 * f + 5)) (85 - (16 * t + 5)))) (ov_xr (4 * f + 1) (4 * t + 1) (min 4 (min (85 - (4 * f + 1)) (85 - (4 * t + 1)))) (ov_xr f t 1 s))
theorem xa_carry {post : Int32 → SX → Prop} {f t : Nat} (hf2 : f < 85) (ht : t < 85) (k : post (nI (ov_mx f t (T, W, 0)).2.2) (m, L, V, (ov_mx f t (T, W, 0)).1, (ov_mx f t (T, W, 0)).2.1)) : wpX_carry post (m, L, V, T, W) (nI f) (nI t) := by
  unfold wpX_carry
  refine ⟨4, ?_⟩
  refine xa_ct (w := 1) (i := 0) (by omega) (by omega) (by decide) (by decide) (T, W, 0) ?_
  rw [show min 1 (min (85 - f) (85 - t)) = 1 by omega]
  refine xa_ct (w := 4) (i := 1) (by omega) (by omega) (by decide) (by decide) _ ?_
  refine xa_ct (w := 16) (i := 2) (by omega) (by omega) (by decide) (by decide) _ ?_
  rw [show 4 * (4 * f + 1) + 1 = 16 * f + 5 by omega, show 4 * (4 * t + 1) + 1 = 16 * t + 5 by omega]
  exact br_t (by decide) k
end
