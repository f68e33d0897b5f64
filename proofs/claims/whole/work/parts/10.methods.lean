/-! the methods, each side against one condition -/
section
variable {m : Int32} {g L V T W Z I : Nat → Int32}
/-- the parent is a directory of the layer -/
def ov_dir (g : Nat → Int32) (l p : Nat) : Prop := (p - 1) / 4 = 0 ∨ g (85 * l + (p - 1) / 4) = 2 ∨ g (85 * l + (p - 1) / 4) = 3
theorem ov_dir_top {l p : Nat} (hl : l < 3) (hp : p < 85) : (ov_top g (85 * l + (p - 1) / 4) = 2 ∨ ov_top g (85 * l + (p - 1) / 4) = 3) ↔ ov_dir g l p := by
  by_cases z : (p - 1) / 4 = 0
  · rw [z, Nat.add_zero, ov_top_r hl]
    exact ⟨fun _ => Or.inl z, fun _ => Or.inl rfl⟩
  · rw [ov_top_p hl (by omega) (by omega)]
    exact ⟨fun q => Or.inr q, fun q => q.elim (fun a => absurd a z) (fun b => b)⟩
theorem xa_fill_in {post : Int32 → SX → Prop} {l p : Nat} {v3 v4 : Int32} (hl : l < 3) (h1 : 1 ≤ p) (hp : p < 85) (s1 : ¬ v3 < 1) (s4 : v3 ≤ 4) (k1 : g (85 * l + p) = 0 → ov_dir g l p → post 0 (0, ov_top (upd g (85 * l + p) v3), upd V (85 * l + p) v4, T, W)) (k0 : ¬ (g (85 * l + p) = 0 ∧ ov_dir g l p) → post (-1) (0, ov_top g, V, T, W)) : wpX_fill post (0, ov_top g, V, T, W) (nI l) (nI p) v3 v4 := by
  have c : (nI (85 * l + p)).toNatClampNeg = 85 * l + p := nI_clamp (by omega)
  have c2 : (nI (85 * l + (p - 1) / 4)).toNatClampNeg = 85 * l + (p - 1) / 4 := nI_clamp (by omega)
  have e2 := ov_cell l ((p - 1) / 4)
  unfold wpX_fill
  refine br_t rfl (br_f (nI_pos (by omega)) (br_f (nI_ge (b := 3) hl (by decide)) (xa_below_t h1 hp (br_f (by decide) (br_f s1 (br_t s4 (nm_r (ov_cell l p) (xa_par h1 (by omega) ?_))))))))
  rw [e2, c2, c]
  refine ⟨vp_in_nI (by omega) (by decide), nm_e ⟨ov_c255 hl hp, ?_⟩⟩
  rw [ov_top_p hl h1 hp]
  refine br_c (fun z => ?_) (fun z => k0 (fun q => z q.1))
  by_cases d : ov_dir g l p
  · refine xa_any_t ((ov_dir_top hl hp).mpr d) (br_f (by decide) ⟨ov_c255 hl hp, nm_r (ov_top_u hl h1 hp) ⟨ov_c255 hl hp, nm_e (k1 z d)⟩⟩)
  · have d2 : ¬ (ov_top g (85 * l + (p - 1) / 4) = 2 ∨ ov_top g (85 * l + (p - 1) / 4) = 3) := fun q => d ((ov_dir_top hl hp).mp q)
    exact xa_any_f (fun q => d2 (Or.inl q)) (fun q => d2 (Or.inr q)) (br_t rfl (k0 (fun q => d q.2)))
theorem ya_fill_in {post : Int32 → SY → Prop} {l p : Nat} {v3 v4 : Int32} (hl : l < 3) (h1 : 1 ≤ p) (hp : p < 85) (s1 : ¬ v3 < 1) (s4 : v3 ≤ 4) (k1 : g (85 * l + p) = 0 → ov_dir g l p → post 0 (0, upd g (85 * l + p) v3, upd V (85 * l + p) v4, T, Z, I)) (k0 : ¬ (g (85 * l + p) = 0 ∧ ov_dir g l p) → post (-1) (0, g, V, T, Z, I)) : wpY_fill post (0, g, V, T, Z, I) (nI l) (nI p) v3 v4 := by
  have c : (nI (85 * l + p)).toNatClampNeg = 85 * l + p := nI_clamp (by omega)
  have c2 : (nI (85 * l + (p - 1) / 4)).toNatClampNeg = 85 * l + (p - 1) / 4 := nI_clamp (by omega)
  have e := ov_cell2 l p
  have e2 := ov_cell2 l ((p - 1) / 4)
  unfold wpY_fill
  refine br_t rfl (br_f (nI_pos (by omega)) (br_f (nI_nlt (a := 2) (by omega) (by decide)) (br_f (nI_nlt (b := 1) h1 (by omega)) (ya_bad_t hp (br_t rfl (br_f s1 (br_t s4 (ya_par h1 (by omega) ?_))))))))
  rw [e, c]
  refine ⟨ov_c255 hl hp, br_c (fun z => ?_) (fun z => k0 (fun q => z q.1))⟩
  unfold wpY_layerDirectory
  dsimp only
  rw [e2, c2]
  have yes : ov_dir g l p → vp_in (nI (85 * l + p)) 255 ∧ ∀ a : Nat → Int32, a = upd g (85 * l + p) v3 → (vp_in (nI (85 * l + p)) 255 ∧ ∀ b : Nat → Int32, b = upd V (85 * l + p) v4 → post 0 (0, a, b, T, Z, I)) := fun d => ⟨ov_c255 hl hp, nm_e ⟨ov_c255 hl hp, nm_e (k1 z d)⟩⟩
  refine ⟨vp_in_nI (by omega) (by decide), nm_e ?_⟩
  refine pk_eq ((p - 1) / 4) 0 (fun y => br_f (by decide) (yes (Or.inl y))) (fun y => ?_)
  refine br_c (fun y2 => br_f (by decide) (yes (Or.inr (Or.inl y2)))) (fun y2 => br_c (fun y3 => br_f (by decide) (yes (Or.inr (Or.inr y3)))) (fun y3 => ?_))
  exact br_t rfl (k0 (fun q => q.2.elim y (fun q => q.elim y2 y3)))
theorem xa_make_o {post : Int32 → SX → Prop} {x v : Int32} (h : x < 0 ∨ (85 : Int32) ≤ x) (k : post (-1) (m, L, V, T, W)) : wpX_make post (m, L, V, T, W) x v := by
  unfold wpX_make
  exact xa_vac_o h (br_t rfl k)
theorem xa_make {post : Int32 → SX → Prop} {j : Nat} {v : Int32} (hj : j < 85) (k1 : ov_vac m T j → post 0 (m, L, V, upd T j 1, upd W j v)) (k0 : ¬ ov_vac m T j → post (-1) (m, L, V, T, W)) : wpX_make post (m, L, V, T, W) (nI j) v := by
  unfold wpX_make
  exact xa_vac hj (fun q => br_f (by decide) (xa_put hj (k1 q))) (fun q => br_t rfl (k0 q))
theorem xa_mdir_o {post : Int32 → SX → Prop} {x : Int32} (h : x < 0 ∨ (85 : Int32) ≤ x) (k : post (-1) (m, L, V, T, W)) : wpX_makeDir post (m, L, V, T, W) x := by
  unfold wpX_makeDir
  exact xa_vac_o h (br_t rfl k)
theorem xa_mdir {post : Int32 → SX → Prop} {j : Nat} (hj : j < 85) (k1 : ov_vac m T j → post 0 (m, L, V, upd T j 2, upd W j 0)) (k0 : ¬ ov_vac m T j → post (-1) (m, L, V, T, W)) : wpX_makeDir post (m, L, V, T, W) (nI j) := by
  unfold wpX_makeDir
  exact xa_vac hj (fun q => br_f (by decide) (xa_put hj (k1 q))) (fun q => br_t rfl (k0 q))
theorem ya_make_o {post : Int32 → SY → Prop} {x v : Int32} (h : x < 0 ∨ (85 : Int32) ≤ x) (k : post (-1) (m, g, V, T, Z, I)) : wpY_make post (m, g, V, T, Z, I) x v := by
  unfold wpY_make
  exact ya_vac_o h (br_t rfl k)
theorem ya_make {post : Int32 → SY → Prop} {j : Nat} {v : Int32} (hj : j < 85) (k1 : ov_vac m T j → post 0 (m, g, V, upd T j 1, upd Z j v, I)) (k0 : ¬ ov_vac m T j → post (-1) (m, g, V, T, Z, I)) : wpY_make post (m, g, V, T, Z, I) (nI j) v := by
  have c : (nI j).toNatClampNeg = j := nI_clamp (by omega)
  unfold wpY_make
  dsimp only
  rw [c]
  exact ya_vac hj (fun q => br_f (by decide) ⟨vp_in_nI hj (by decide), nm_e ⟨vp_in_nI hj (by decide), nm_e (k1 q)⟩⟩) (fun q => br_t rfl (k0 q))
theorem ya_mdir_o {post : Int32 → SY → Prop} {x : Int32} (h : x < 0 ∨ (85 : Int32) ≤ x) (k : post (-1) (m, g, V, T, Z, I)) : wpY_makeDir post (m, g, V, T, Z, I) x := by
  unfold wpY_makeDir
  exact ya_vac_o h (br_t rfl k)
theorem ya_mdir {post : Int32 → SY → Prop} {j : Nat} (hj : j < 85) (k1 : ov_vac m T j → post 0 (m, g, V, upd T j 2, Z, I)) (k0 : ¬ ov_vac m T j → post (-1) (m, g, V, T, Z, I)) : wpY_makeDir post (m, g, V, T, Z, I) (nI j) := by
  have c : (nI j).toNatClampNeg = j := nI_clamp (by omega)
  unfold wpY_makeDir
  dsimp only
  rw [c]
  exact ya_vac hj (fun q => br_f (by decide) ⟨vp_in_nI hj (by decide), nm_e (k1 q)⟩) (fun q => br_t rfl (k0 q))
theorem xa_rem_o {post : Int32 → SX → Prop} {x : Int32} (h : x < 0 ∨ (85 : Int32) ≤ x) (k : post (-1) (m, L, V, T, W)) : wpX_remove post (m, L, V, T, W) x := by
  unfold wpX_remove
  exact xa_tak_o h (br_t rfl k)
theorem xa_rem {post : Int32 → SX → Prop} {j : Nat} (hj : j < 85) (k1 : ov_tak m T j → ov_k (ov_eP T j) 85 = 0 → post 0 (m, L, V, upd T j 0, upd W j 0)) (k0 : ¬ (ov_tak m T j ∧ ov_k (ov_eP T j) 85 = 0) → post (-1) (m, L, V, T, W)) : wpX_remove post (m, L, V, T, W) (nI j) := by
  unfold wpX_remove
  have le := ov_k_le (ov_eP T j) 85
  refine xa_tak hj (fun q => br_f (by decide) (xa_ce hj ?_)) (fun q => br_t rfl (k0 (fun y => q y.1)))
  exact pk_eq (ov_k (ov_eP T j) 85) 0 (fun z => xa_put hj (k1 q z)) (fun z => k0 (fun y => z y.2))
theorem ov_lt1 {x : Int32} (h : x < 0) : x < 1 := Int32.lt_trans h (by decide)
theorem ya_rem_o {post : Int32 → SY → Prop} {x : Int32} (h : x < 0 ∨ (85 : Int32) ≤ x) (k : post (-1) (m, g, V, T, Z, I)) : wpY_remove post (m, g, V, T, Z, I) x := by
  unfold wpY_remove
  exact br_c (fun _ => k) (fun _ => br_c (fun _ => k) (fun _ => ya_bad_f h (br_f (by decide) k)))
theorem ya_rem {post : Int32 → SY → Prop} {j : Nat} (hj : j < 85) (k1 : ov_tak m T j → ov_k (ov_eP T j) 85 = 0 → post 0 (m, g, V, upd T j 0, Z, I)) (k0 : ¬ (ov_tak m T j ∧ ov_k (ov_eP T j) 85 = 0) → post (-1) (m, g, V, T, Z, I)) : wpY_remove post (m, g, V, T, Z, I) (nI j) := by
  have c : (nI j).toNatClampNeg = j := nI_clamp (by omega)
  unfold wpY_remove
  dsimp only
  rw [c]
  refine br_c (fun z => k0 (fun q => q.1.1 z)) (fun z => ?_)
  refine pk_lt j 1 (fun h => k0 (fun q => absurd q.1.2.1 (by omega))) (fun h => ?_)
  refine ya_bad_t hj (br_t rfl ⟨vp_in_nI hj (by decide), br_c (fun y => k0 (fun q => q.1.2.2 y)) (fun y => ?_)⟩)
  exact ⟨85, ya_rm hj (k1 ⟨z, h, y⟩) (fun q => k0 (fun w => q w.2)) 85 1 (by omega) (by omega) (by omega) (ov_e1 T j)⟩
theorem xa_move {post : Int32 → SX → Prop} {f t : Nat} (hf : f < 85) (ht : t < 85) (k1 : ov_tak m T f → ov_vac m T t → ¬ ov_u f 3 t → ov_k (ov_bP T f t) 85 = 0 → post (nI (ov_mx f t (T, W, 0)).2.2) (m, L, V, (ov_mx f t (T, W, 0)).1, (ov_mx f t (T, W, 0)).2.1)) (k0 : ¬ (ov_tak m T f ∧ ov_vac m T t ∧ ¬ ov_u f 3 t ∧ ov_k (ov_bP T f t) 85 = 0) → post (-1) (m, L, V, T, W)) : wpX_move post (m, L, V, T, W) (nI f) (nI t) := by
  unfold wpX_move
  refine xa_tak hf (fun q1 => br_f (by decide) ?_) (fun q1 => br_t rfl (k0 (fun y => q1 y.1)))
  refine xa_vac ht (fun q2 => br_f (by decide) ?_) (fun q2 => br_t rfl (k0 (fun y => q2 y.2.1)))
  refine xa_under hf ht (fun q3 => br_f (by decide) (k0 (fun y => y.2.2.1 q3))) (fun q3 => br_t rfl ?_)
  refine xa_fits q1.2.1 hf ht (fun q4 => br_f (by decide) ?_) (fun q4 => br_t rfl (k0 (fun y => q4 y.2.2.2)))
  exact xa_carry hf ht (k1 q1 q2 q3 q4)
theorem ya_move {post : Int32 → SY → Prop} {f t : Nat} (hf : f < 85) (ht : t < 85) (k1 : ov_tak m T f → ov_vac m T t → ¬ ov_u f 3 t → ov_k (ov_bP T f t) 85 = 0 → ∀ A, post (nI (ov_yl f t 85 (T, Z, 0)).2.2) (m, g, V, (ov_yl f t 85 (T, Z, 0)).1, (ov_yl f t 85 (T, Z, 0)).2.1, A)) (k0 : ¬ (ov_tak m T f ∧ ov_vac m T t ∧ ¬ ov_u f 3 t ∧ ov_k (ov_bP T f t) 85 = 0) → ∀ A, post (-1) (m, g, V, T, Z, A)) : wpY_move post (m, g, V, T, Z, I) (nI f) (nI t) := by
  have c : (nI f).toNatClampNeg = f := nI_clamp (by omega)
  have c2 : (nI t).toNatClampNeg = t := nI_clamp (by omega)
  unfold wpY_move
  dsimp only
  rw [c, c2]
  refine br_c (fun z => k0 (fun q => q.1.1 z) I) (fun z => ?_)
  refine pk_lt f 1 (fun h => k0 (fun q => absurd q.1.2.1 (by omega)) I) (fun h => ?_)
  refine ya_bad_t hf (br_t rfl ⟨vp_in_nI hf (by decide), br_c (fun y => k0 (fun q => q.1.2.2 y) I) (fun y => ?_)⟩)
  refine ya_vac ht (fun q2 => br_f (by decide) ?_) (fun q2 => br_t rfl (k0 (fun y => q2 y.2.1) I))
  have ne : t ≠ f := fun e => y (by rw [← e]; exact q2.2.2.1)
  have uc := ov_u_c (f := f) (t := t) (s := t) h ht ht ne
  refine ya_follow h hf ht (fun A hA => ?_)
  have le := ov_c_le (f := f) (p := t) ht
  have i0 : ov_yl f t 1 (T, Z, 0) = (T, Z, 0) := ov_yl_f (p := 0) (fun q => absurd q.1 (by decide))
  refine ⟨vp_in_nI ht (by decide), ?_⟩
  dsimp only
  rw [hA t ht]
  by_cases u : ov_c f t t = 86
  · rw [u, ov_v_n]
    have nu : ¬ ov_u f 3 t := fun q => uc.mp q u
    refine br_t (by decide) ⟨85, ya_m57 ht hA (fun q4 => ?_) (fun q4 => k0 (fun w => q4 w.2.2.2) A) 85 1 (by omega) (by omega) (by omega) (ov_b1 T f t)⟩
    have r := ya_m96 (m := m) (g := g) (V := V) (s0 := (T, Z, 0)) ht hA (k1 ⟨z, h, y⟩ q2 nu q4 A) 85 1 (by omega) (by omega) (by omega)
    rw [i0] at r
    exact ⟨85, r⟩
  · exact br_f (ov_vneg u le) (k0 (fun w => w.2.2.1 (uc.mpr u)) A)
theorem xa_move_o1 {post : Int32 → SX → Prop} {x y : Int32} (h : x < 0 ∨ (85 : Int32) ≤ x) (k : post (-1) (m, L, V, T, W)) : wpX_move post (m, L, V, T, W) x y := by
  unfold wpX_move
  exact xa_tak_o h (br_t rfl k)
theorem xa_move_o2 {post : Int32 → SX → Prop} {f : Nat} {y : Int32} (hf : f < 85) (h : y < 0 ∨ (85 : Int32) ≤ y) (k : post (-1) (m, L, V, T, W)) : wpX_move post (m, L, V, T, W) (nI f) y := by
  unfold wpX_move
  exact xa_tak hf (fun _ => br_f (by decide) (xa_vac_o h (br_t rfl k))) (fun _ => br_t rfl k)
theorem ya_move_o1 {post : Int32 → SY → Prop} {x y : Int32} (h : x < 0 ∨ (85 : Int32) ≤ x) (k : post (-1) (m, g, V, T, Z, I)) : wpY_move post (m, g, V, T, Z, I) x y := by
  unfold wpY_move
  exact br_c (fun _ => k) (fun _ => br_c (fun _ => k) (fun _ => ya_bad_f h (br_f (by decide) k)))
theorem ya_move_o2 {post : Int32 → SY → Prop} {f : Nat} {y : Int32} (hf : f < 85) (h : y < 0 ∨ (85 : Int32) ≤ y) (k : post (-1) (m, g, V, T, Z, I)) : wpY_move post (m, g, V, T, Z, I) (nI f) y := by
  unfold wpY_move
  exact br_c (fun _ => k) (fun _ => br_c (fun _ => k) (fun _ => ya_bad_t hf (br_t rfl ⟨vp_in_nI hf (by decide), br_c (fun _ => k) (fun _ => ya_vac_o h (br_t rfl k))⟩)))
end
