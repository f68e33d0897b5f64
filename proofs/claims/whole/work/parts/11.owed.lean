/-! what is owed -/
/-- the same mounted flag, layers (but for the roots), values and tree; a file's value the same, other values 0 on the one side -/
def i_Rel (k : Nat) (u : SX) (v : SY) : Prop := ∃ (m : Int32) (g V T W Z I : Nat → Int32), u = (m, ov_top g, V, T, W) ∧ v = (m, g, V, T, Z, I) ∧ ov_W T W Z ∧ ∀ j, ov_rng (g j)
theorem i_up {k : Nat} {u : SX} {v : SY} (h : i_Rel k u v) : i_Rel (k + 5) u v := h
theorem za_rel {k : Nat} {m : Int32} {g V T W Z : Nat → Int32} (I : Nat → Int32) (hW : ov_W T W Z) (hr : ∀ j, ov_rng (g j)) : i_Rel k (m, ov_top g, V, T, W) (m, g, V, T, Z, I) := ⟨m, g, V, T, W, Z, I, rfl, rfl, hW, hr⟩
theorem i_vc0 : wpX_init (fun u => wpY_init (fun v => i_Rel 0 u v)) := by
  have e0 : ((0 : Int32) * 85 + 0).toNatClampNeg = 0 := by decide
  have e1 : ((1 : Int32) * 85 + 0).toNatClampNeg = 85 := by decide
  have e2 : ((2 : Int32) * 85 + 0).toNatClampNeg = 170 := by decide
  have z : i_Rel 0 (0, upd (upd (upd (fun _ => 0) 0 2) 85 2) 170 2, (fun _ => 0), (fun _ => 0), (fun _ => 0)) (0, (fun _ => 0), (fun _ => 0), (fun _ => 0), (fun _ => 0), (fun _ => 0)) := by
    rw [ov_top_0]
    exact za_rel _ (fun j => ⟨fun q => absurd q (by decide), fun _ => rfl⟩) (fun j => Or.inl rfl)
  refine ⟨4, br_f (by decide) ⟨vp_in_iff.mpr (by decide), nm_r (e' := upd (fun _ => 0) 0 2) (by rw [e0]) (nm_r (e' := 1) (by decide) (br_f (by decide) ⟨vp_in_iff.mpr (by decide), nm_r (e' := upd (upd (fun _ => 0) 0 2) 85 2) (by rw [e1]) (nm_r (e' := 2) (by decide) (br_f (by decide) ⟨vp_in_iff.mpr (by decide), nm_r (e' := upd (upd (upd (fun _ => 0) 0 2) 85 2) 170 2) (by rw [e2]) (nm_r (e' := 3) (by decide) (br_t (by decide) z))⟩))⟩))⟩⟩
theorem i_vc_fill {k : Nat} {u : SX} {v : SY} (I : i_Rel k u v) (hk : k + 5 ≤ 2560) (v1 : Int32) (v2 : Int32) (v3 : Int32) (v4 : Int32) : wpX_fill (fun r u' => wpY_fill (fun r' v' => r' = r ∧ i_Rel (k + 5) u' v') v v1 v2 v3 v4) u v1 v2 v3 v4 := by
  obtain ⟨m, g, V, T, W, Z, A, rfl, rfl, hW, hr⟩ := I
  have J : ((-1 : Int32) = -1 ∧ i_Rel (k + 5) (m, ov_top g, V, T, W) (m, g, V, T, Z, A)) := ⟨rfl, za_rel A hW hr⟩
  by_cases hm : m = 0
  · subst hm
    by_cases l0 : v1 < 0
    · exact br_t rfl (br_t l0 (br_t rfl (br_t l0 J)))
    · obtain ⟨l, hl, rfl⟩ := nI_of l0
      by_cases l3 : l < 3
      · have x3 : ¬ (3 : Int32) ≤ nI l := nI_ge (b := 3) l3 (by decide)
        have y2 : ¬ (2 : Int32) < nI l := nI_nlt (a := 2) (by omega) (by decide)
        have no : ∀ x : Int32, x ≤ 0 ∨ (85 : Int32) ≤ x → wpX_fill (fun r u' => wpY_fill (fun r' v' => r' = r ∧ i_Rel (k + 5) u' v') (0, g, V, T, Z, A) (nI l) x v3 v4) (0, ov_top g, V, T, W) (nI l) x v3 v4 := fun x h => by
          refine br_t rfl (br_f l0 (br_f x3 (xa_below_f h (br_t rfl (br_t rfl (br_f l0 (br_f y2 (br_c (fun _ => J) (fun q => ya_bad_f ?_ (br_f (by decide) J))))))))))
          refine h.elim (fun a => ?_) Or.inr
          exact absurd (Int32.lt_of_le_of_lt a (by decide)) q
        rcases ov_ix v2 with h | ⟨p, hp, rfl⟩
        · exact no v2 (h.elim (fun a => Or.inl (Int32.le_of_lt a)) Or.inr)
        · by_cases p1 : 1 ≤ p
          · by_cases s1 : v3 < 1
            · exact br_t rfl (br_f l0 (br_f x3 (xa_below_t p1 hp (br_f (by decide) (br_t s1 (br_t rfl (br_f l0 (br_f y2 (br_f (nI_nlt (b := 1) p1 (by omega)) (ya_bad_t hp (br_t rfl (br_t s1 J))))))))))))
            · by_cases s4 : v3 ≤ 4
              · have hx : ov_rng v3 := ov_rng_of s1 (Int32.not_lt.mpr s4)
                refine xa_fill_in l3 p1 hp s1 s4 (fun a b => ya_fill_in l3 p1 hp s1 s4 (fun _ _ => ⟨rfl, za_rel A hW (ov_rng_u hr hx)⟩) (fun z => absurd ⟨a, b⟩ z)) (fun z => ya_fill_in l3 p1 hp s1 s4 (fun a b => absurd ⟨a, b⟩ z) (fun _ => J))
              · exact br_t rfl (br_f l0 (br_f x3 (xa_below_t p1 hp (br_f (by decide) (br_f s1 (br_f s4 (br_t rfl (br_f l0 (br_f y2 (br_f (nI_nlt (b := 1) p1 (by omega)) (ya_bad_t hp (br_t rfl (br_f s1 (br_f s4 J))))))))))))))
          · have e : p = 0 := by omega
            subst e
            exact no (nI 0) (Or.inl (by decide))
      · have x3 : (3 : Int32) ≤ nI l := nI_le (a := 3) (by omega) hl
        have y2 : (2 : Int32) < nI l := nI_lt (a := 2) (by omega) hl
        exact br_t rfl (br_f l0 (br_t x3 (br_t rfl (br_f l0 (br_t y2 J)))))
  · exact br_f hm (br_f hm J)
theorem i_vc_mount {k : Nat} {u : SX} {v : SY} (I : i_Rel k u v) (hk : k + 5 ≤ 2560) : wpX_mount (fun r u' => wpY_mount (fun r' v' => r' = r ∧ i_Rel (k + 5) u' v') v) u := by
  obtain ⟨m, g, V, T, W, Z, A, rfl, rfl, hW, hr⟩ := I
  by_cases hm : m = 0
  · obtain ⟨T1, W1, Z1, hW1, hX, hY⟩ := za_loop (m := 1) (V := V) (I := A) hr 84 1 (by omega) (by omega) _ _ _ (ov_W_other hW 0 (s := 2) (by decide))
    refine br_t hm (xa_put (j := 0) (by decide) ⟨85, hX _ ?_⟩)
    exact br_t hm (nm_e ⟨85, hY _ ⟨rfl, za_rel A hW1 hr⟩⟩)
  · exact br_f hm (br_f hm ⟨rfl, za_rel A hW hr⟩)
theorem i_vc_make {k : Nat} {u : SX} {v : SY} (I : i_Rel k u v) (hk : k + 5 ≤ 2560) (v1 : Int32) (v2 : Int32) : wpX_make (fun r u' => wpY_make (fun r' v' => r' = r ∧ i_Rel (k + 5) u' v') v v1 v2) u v1 v2 := by
  obtain ⟨m, g, V, T, W, Z, A, rfl, rfl, hW, hr⟩ := I
  rcases ov_ix v1 with h | ⟨j, hj, rfl⟩
  · exact xa_make_o h (ya_make_o h ⟨rfl, za_rel A hW hr⟩)
  · exact xa_make hj (fun q => ya_make hj (fun _ => ⟨rfl, za_rel A (ov_W_file hW j v2) hr⟩) (fun z => absurd q z)) (fun q => ya_make hj (fun z => absurd z q) (fun _ => ⟨rfl, za_rel A hW hr⟩))
theorem i_vc_makeDir {k : Nat} {u : SX} {v : SY} (I : i_Rel k u v) (hk : k + 5 ≤ 2560) (v1 : Int32) : wpX_makeDir (fun r u' => wpY_makeDir (fun r' v' => r' = r ∧ i_Rel (k + 5) u' v') v v1) u v1 := by
  obtain ⟨m, g, V, T, W, Z, A, rfl, rfl, hW, hr⟩ := I
  rcases ov_ix v1 with h | ⟨j, hj, rfl⟩
  · exact xa_mdir_o h (ya_mdir_o h ⟨rfl, za_rel A hW hr⟩)
  · exact xa_mdir hj (fun q => ya_mdir hj (fun _ => ⟨rfl, za_rel A (ov_W_other hW j (by decide)) hr⟩) (fun z => absurd q z)) (fun q => ya_mdir hj (fun z => absurd z q) (fun _ => ⟨rfl, za_rel A hW hr⟩))
theorem i_vc_write {k : Nat} {u : SX} {v : SY} (I : i_Rel k u v) (hk : k + 5 ≤ 2560) (v1 : Int32) (v2 : Int32) : wpX_write (fun r u' => wpY_write (fun r' v' => r' = r ∧ i_Rel (k + 5) u' v') v v1 v2) u v1 v2 := by
  obtain ⟨m, g, V, T, W, Z, A, rfl, rfl, hW, hr⟩ := I
  by_cases hm : m = 0
  · exact br_t hm (br_t hm ⟨rfl, za_rel A hW hr⟩)
  · rcases ov_ix v1 with h | ⟨j, hj, rfl⟩
    · exact br_f hm (xa_path_f h (br_t rfl (br_f hm (ya_bad_f h (br_f (by decide) ⟨rfl, za_rel A hW hr⟩)))))
    · have c : (nI j).toNatClampNeg = j := nI_clamp (by omega)
      have vj : vp_in (nI j) 85 := vp_in_nI hj (by decide)
      unfold wpX_write wpY_write
      dsimp only
      rw [c]
      by_cases t : T j = 1
      · exact br_f hm (xa_path_t hj (br_f (by decide) ⟨vj, br_t t ⟨vj, nm_e ⟨vj, nm_e (br_f hm (ya_bad_t hj (br_t rfl ⟨vj, br_t t ⟨vj, nm_e ⟨vj, nm_e ⟨(hW j).1 t, za_rel A (ov_W_write hW j v2 t) hr⟩⟩⟩⟩)))⟩⟩⟩))
      · exact br_f hm (xa_path_t hj (br_f (by decide) ⟨vj, br_f t (br_f hm (ya_bad_t hj (br_t rfl ⟨vj, br_f t ⟨rfl, za_rel A hW hr⟩⟩)))⟩))
theorem i_vc_remove {k : Nat} {u : SX} {v : SY} (I : i_Rel k u v) (hk : k + 5 ≤ 2560) (v1 : Int32) : wpX_remove (fun r u' => wpY_remove (fun r' v' => r' = r ∧ i_Rel (k + 5) u' v') v v1) u v1 := by
  obtain ⟨m, g, V, T, W, Z, A, rfl, rfl, hW, hr⟩ := I
  rcases ov_ix v1 with h | ⟨j, hj, rfl⟩
  · exact xa_rem_o h (ya_rem_o h ⟨rfl, za_rel A hW hr⟩)
  · exact xa_rem hj (fun a b => ya_rem hj (fun _ _ => ⟨rfl, za_rel A (ov_W_other hW j (by decide)) hr⟩) (fun z => absurd ⟨a, b⟩ z)) (fun z => ya_rem hj (fun a b => absurd ⟨a, b⟩ z) (fun _ => ⟨rfl, za_rel A hW hr⟩))
theorem i_vc_move {k : Nat} {u : SX} {v : SY} (I : i_Rel k u v) (hk : k + 5 ≤ 2560) (v1 : Int32) (v2 : Int32) : wpX_move (fun r u' => wpY_move (fun r' v' => r' = r ∧ i_Rel (k + 5) u' v') v v1 v2) u v1 v2 := by
  obtain ⟨m, g, V, T, W, Z, A, rfl, rfl, hW, hr⟩ := I
  rcases ov_ix v1 with h | ⟨f, hf, rfl⟩
  · exact xa_move_o1 h (ya_move_o1 h ⟨rfl, za_rel A hW hr⟩)
  · rcases ov_ix v2 with h | ⟨t, ht, rfl⟩
    · exact xa_move_o2 hf h (ya_move_o2 hf h ⟨rfl, za_rel A hW hr⟩)
    · refine xa_move hf ht (fun a b c d => ya_move hf ht (fun _ _ _ _ B => ?_) (fun z => absurd ⟨a, b, c, d⟩ z)) (fun z => ya_move hf ht (fun a b c d => absurd ⟨a, b, c, d⟩ z) (fun _ B => ⟨rfl, za_rel B hW hr⟩))
      have R0 : ov_R (T, W, 0) (T, Z, 0) := ⟨rfl, rfl, hW⟩
      have R := ov_R_r (ov_R_r (ov_R_r R0 f t 1) (4 * f + 1) (4 * t + 1) (min 4 (min (85 - (4 * f + 1)) (85 - (4 * t + 1))))) (16 * f + 5) (16 * t + 5) (min 16 (min (85 - (16 * f + 5)) (85 - (16 * t + 5))))
      rw [← ov_yl_eq a.2.1 hf ht] at R
      refine ⟨congrArg nI R.2.1.symm, ?_⟩
      have e : (ov_yl f t 85 (T, Z, 0)).1 = (ov_mx f t (T, W, 0)).1 := R.1.symm
      rw [e]
      exact za_rel B R.2.2 hr
theorem i_vc_press {k : Nat} {u : SX} {v : SY} (I : i_Rel k u v) (hk : k + 5 ≤ 2560) : wpX_press (fun r => wpY_press (fun r' => r' = r ∧ i_Rel (k + 5) u v) v) u := by
  obtain ⟨m, g, V, T, W, Z, A, rfl, rfl, hW, hr⟩ := I
  by_cases hm : m = 0
  · exact br_t hm (br_t hm ⟨rfl, za_rel A hW hr⟩)
  · exact br_f hm (br_f hm ⟨rfl, za_rel A hW hr⟩)
theorem i_vc_sort {k : Nat} {u : SX} {v : SY} (I : i_Rel k u v) (hk : k + 5 ≤ 2560) (v1 : Int32) : wpX_sort (fun r => wpY_sort (fun r' => r' = r ∧ i_Rel (k + 5) u v) v v1) u v1 := by
  obtain ⟨m, g, V, T, W, Z, A, rfl, rfl, hW, hr⟩ := I
  unfold wpX_sort wpY_sort
  dsimp only
  rcases ov_ix v1 with h | ⟨j, hj, rfl⟩
  · exact xa_path_f h (br_t rfl (ya_bad_f h (br_f (by decide) ⟨rfl, za_rel A hW hr⟩)))
  · exact xa_path_t hj (br_f (by decide) ⟨vp_in_nI hj (by decide), ya_bad_t hj (br_t rfl ⟨vp_in_nI hj (by decide), rfl, za_rel A hW hr⟩)⟩)
theorem i_vc_value {k : Nat} {u : SX} {v : SY} (I : i_Rel k u v) (hk : k + 5 ≤ 2560) (v1 : Int32) : wpX_value (fun r => wpY_value (fun r' => r' = r ∧ i_Rel (k + 5) u v) v v1) u v1 := by
  obtain ⟨m, g, V, T, W, Z, A, rfl, rfl, hW, hr⟩ := I
  unfold wpX_value wpY_value
  dsimp only
  rcases ov_ix v1 with h | ⟨j, hj, rfl⟩
  · exact xa_path_f h (br_t rfl (ya_bad_f h (br_f (by decide) ⟨rfl, za_rel A hW hr⟩)))
  · have c : (nI j).toNatClampNeg = j := nI_clamp (by omega)
    have vj : vp_in (nI j) 85 := vp_in_nI hj (by decide)
    rw [c]
    exact xa_path_t hj (br_f (by decide) ⟨vj, ya_bad_t hj (br_t rfl ⟨vj, br_c (fun z => ⟨vj, (hW j).1 z, za_rel A hW hr⟩) (fun z => ⟨((hW j).2 z).symm, za_rel A hW hr⟩)⟩)⟩)
theorem i_vc_entries {k : Nat} {u : SX} {v : SY} (I : i_Rel k u v) (hk : k + 5 ≤ 2560) (v1 : Int32) : wpX_entries (fun r => wpY_entries (fun r' => r' = r ∧ i_Rel (k + 5) u v) v v1) u v1 := by
  obtain ⟨m, g, V, T, W, Z, A, rfl, rfl, hW, hr⟩ := I
  unfold wpX_entries wpY_entries
  dsimp only
  rcases ov_ix v1 with h | ⟨j, hj, rfl⟩
  · exact xa_path_f h (br_t rfl (ya_bad_f h (br_f (by decide) ⟨rfl, za_rel A hW hr⟩)))
  · have c : (nI j).toNatClampNeg = j := nI_clamp (by omega)
    have vj : vp_in (nI j) 85 := vp_in_nI hj (by decide)
    rw [c]
    refine xa_path_t hj (br_f (by decide) ⟨vj, br_c (fun z => xa_ce hj (ya_bad_t hj (br_t rfl ⟨vj, br_t z ?_⟩))) (fun z => ya_bad_t hj (br_t rfl ⟨vj, br_f z ⟨rfl, za_rel A hW hr⟩⟩))⟩)
    have i := ya_en (post := fun r' => r' = nI (ov_k (ov_eP T j) 85) ∧ i_Rel (k + 5) (m, ov_top g, V, T, W) (m, g, V, T, Z, A)) (m := m) (g := g) (V := V) (Z := Z) (I := A) hj ⟨rfl, za_rel A hW hr⟩ 85 1 (by omega) (by omega) (by omega)
    rw [ov_e1] at i
    exact ⟨85, i⟩
theorem i_vc_total {k : Nat} {u : SX} {v : SY} (I : i_Rel k u v) (hk : k + 5 ≤ 2560) : wpX_total (fun r => wpY_total (fun r' => r' = r ∧ i_Rel (k + 5) u v) v) u := by
  obtain ⟨m, g, V, T, W, Z, A, rfl, rfl, hW, hr⟩ := I
  exact xa_total (ya_total ⟨rfl, za_rel A hW hr⟩)
