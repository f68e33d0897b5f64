/-! mounting, both sides in one step -/
section
variable {m : Int32} {g V T W Z I : Nat → Int32}
theorem ov_top_c {l p : Nat} (hl : l < 3) (h1 : 1 ≤ p) (hp : p < 85) {s : Int32} (hs : g (85 * l + p) = s) : ov_top g (nI (85 * l + p)).toNatClampNeg = s := by
  rw [nI_clamp (by omega), ov_top_p hl h1 hp, hs]
theorem ov_g_c {l p : Nat} (hl : l < 3) (hp : p < 85) {s : Int32} (hs : g (85 * l + p) = s) : g (85 * nI l + nI p).toNatClampNeg = s := by
  rw [ov_cell2, nI_clamp (by omega), hs]
theorem ov_c255 {l p : Nat} (hl : l < 3) (hp : p < 85) : vp_in (nI (85 * l + p)) 255 := vp_in_nI (by omega) (by decide)
theorem xa_m0 {post : SX → Prop} {p l n : Nat} (h1 : 1 ≤ p) (hp : p < 85) (hl : l < 3) (hs : g (85 * l + p) = 0) (k1 : ov_h g l 3 p → post (m, ov_top g, V, T, W)) (k0 : ¬ ov_h g l 3 p → wX_mountPath_2 post (nI p) m (ov_top g) V T W n (nI l + (-1))) : wX_mountPath_2 post (nI p) m (ov_top g) V T W (n + 1) (nI l) :=
  br_f (nI_pos (by omega)) (nm_r (ov_cell l p) ⟨ov_c255 hl hp, nm_r (ov_top_c hl h1 hp hs) (br_f (by decide) (xa_any_f (by decide) (by decide) (br_t rfl (br_f (by decide) (xa_cover hl hp (fun q => br_f (by decide) (k1 q)) (fun q => br_t rfl (nm_e (k0 q))))))))⟩)
theorem xa_m1 {post : SX → Prop} {p l n : Nat} (h1 : 1 ≤ p) (hp : p < 85) (hl : l < 3) (hs : g (85 * l + p) = 1) (k : post (m, ov_top g, V, upd T p 1, upd W p (V (85 * l + p)))) : wX_mountPath_2 post (nI p) m (ov_top g) V T W (n + 1) (nI l) := by
  refine br_f (nI_pos (by omega)) (nm_r (ov_cell l p) ⟨ov_c255 hl hp, nm_r (ov_top_c hl h1 hp hs) (br_t rfl ⟨ov_c255 hl hp, ?_⟩)⟩)
  rw [nI_clamp (by omega)]
  exact xa_put hp k
theorem xa_m23 {post : SX → Prop} {p l n : Nat} (h1 : 1 ≤ p) (hp : p < 85) (hl : l < 3) {s : Int32} (h : s = 2 ∨ s = 3) (hs : g (85 * l + p) = s) (k : post (m, ov_top g, V, upd T p 2, upd W p 0)) : wX_mountPath_2 post (nI p) m (ov_top g) V T W (n + 1) (nI l) :=
  br_f (nI_pos (by omega)) (nm_r (ov_cell l p) ⟨ov_c255 hl hp, nm_r (ov_top_c hl h1 hp hs) (br_f (fun z => h.elim (fun q => absurd (z.symm.trans q) (by decide)) (fun q => absurd (z.symm.trans q) (by decide))) (xa_any_t h (br_f (by decide) (xa_put hp k))))⟩)
theorem xa_m4 {post : SX → Prop} {p l n : Nat} (h1 : 1 ≤ p) (hp : p < 85) (hl : l < 3) (hs : g (85 * l + p) = 4) (k : post (m, ov_top g, V, T, W)) : wX_mountPath_2 post (nI p) m (ov_top g) V T W (n + 1) (nI l) :=
  br_f (nI_pos (by omega)) (nm_r (ov_cell l p) ⟨ov_c255 hl hp, nm_r (ov_top_c hl h1 hp hs) (br_f (by decide) (xa_any_f (by decide) (by decide) (br_t rfl (br_t rfl k))))⟩)
theorem ov_c255' {l p : Nat} (hl : l < 3) (hp : p < 85) : vp_in (85 * nI l + nI p) 255 := by
  rw [ov_cell2]
  exact ov_c255 hl hp
theorem ya_m0 {post : SY → Prop} {p l n : Nat} (hp : p < 85) (hl : l < 3) (hs : g (85 * l + p) = 0) (k1 : ov_h g l 3 p → post (m, g, V, T, Z, I)) (k0 : ¬ ov_h g l 3 p → wY_merge_16 post (nI p) m n (nI l + (-1)) g V T Z I) : wY_merge_16 post (nI p) m (n + 1) (nI l) g V T Z I :=
  br_f (nI_pos (by omega)) ⟨ov_c255' hl hp, nm_r (ov_g_c hl hp hs) (br_f (by decide) (br_f (by decide) (br_f (by decide) (br_t rfl (ya_hidden hl hp (fun q => br_f (by decide) (k1 q)) (fun q => br_t rfl (nm_e (k0 q))))))))⟩
theorem ya_m1 {post : SY → Prop} {p l n : Nat} (hp : p < 85) (hl : l < 3) (hs : g (85 * l + p) = 1) (k : post (m, g, V, upd T p 1, upd Z p (V (85 * l + p)), I)) : wY_merge_16 post (nI p) m (n + 1) (nI l) g V T Z I := by
  have c : (nI p).toNatClampNeg = p := nI_clamp (by omega)
  refine br_f (nI_pos (by omega)) ⟨ov_c255' hl hp, nm_r (ov_g_c hl hp hs) (br_t rfl ⟨vp_in_nI hp (by decide), nm_r (e' := upd T p 1) (by rw [c]) ⟨ov_c255' hl hp, vp_in_nI hp (by decide), nm_r (e' := upd Z p (V (85 * l + p))) ?_ ?_⟩⟩)⟩
  · rw [c, ov_cell2, nI_clamp (by omega)]
  · exact br_f (by decide) (br_f (by decide) (br_f (by decide) k))
theorem ya_m23 {post : SY → Prop} {p l n : Nat} (hp : p < 85) (hl : l < 3) {s : Int32} (h : s = 2 ∨ s = 3) (hs : g (85 * l + p) = s) (k : post (m, g, V, upd T p 2, Z, I)) : wY_merge_16 post (nI p) m (n + 1) (nI l) g V T Z I := by
  have c : (nI p).toNatClampNeg = p := nI_clamp (by omega)
  have n1 : ¬ s = 1 := fun z => h.elim (fun q => absurd (z.symm.trans q) (by decide)) (fun q => absurd (z.symm.trans q) (by decide))
  have n0 : ¬ s = 0 := fun z => h.elim (fun q => absurd (z.symm.trans q) (by decide)) (fun q => absurd (z.symm.trans q) (by decide))
  have e : wY_merge_71 post (wY_merge_16 post (nI p) m n) (nI p) (nI l) s m g V T Z I := by
    unfold wY_merge_71
    rw [c]
    exact ⟨vp_in_nI hp (by decide), nm_e (br_f n0 k)⟩
  exact br_f (nI_pos (by omega)) ⟨ov_c255' hl hp, nm_r (ov_g_c hl hp hs) (br_f n1 (br_c (fun _ => e) (fun n2 => br_c (fun _ => e) (fun n3 => h.elim (fun q => absurd q n2) (fun q => absurd q n3)))))⟩
theorem ya_m4 {post : SY → Prop} {p l n : Nat} (hp : p < 85) (hl : l < 3) (hs : g (85 * l + p) = 4) (k : post (m, g, V, T, Z, I)) : wY_merge_16 post (nI p) m (n + 1) (nI l) g V T Z I :=
  br_f (nI_pos (by omega)) ⟨ov_c255' hl hp, nm_r (ov_g_c hl hp hs) (br_f (by decide) (br_f (by decide) (br_f (by decide) (br_f (by decide) k))))⟩
theorem za_path {p : Nat} (h1 : 1 ≤ p) (hp : p < 85) (hr : ∀ j, ov_rng (g j)) (hW : ov_W T W Z) : ∀ l, l ≤ 3 → ∃ T1 W1 Z1, ov_W T1 W1 Z1 ∧ (∀ (post : SX → Prop) n, l < n → post (m, ov_top g, V, T1, W1) → wX_mountPath_2 post (nI p) m (ov_top g) V T W n (nI l + (-1))) ∧ (∀ (post : SY → Prop) n, l < n → post (m, g, V, T1, Z1, I) → wY_merge_16 post (nI p) m n (nI l + (-1)) g V T Z I) := by
  intro l
  induction l with
  | zero =>
    intro _
    refine ⟨T, W, Z, hW, fun post n hn k => ?_, fun post n hn k => ?_⟩
    · obtain ⟨n, rfl⟩ : ∃ n', n = n' + 1 := ⟨n - 1, by omega⟩
      exact br_t (by decide) k
    · obtain ⟨n, rfl⟩ : ∃ n', n = n' + 1 := ⟨n - 1, by omega⟩
      exact br_t (by decide) k
  | succ l ih =>
    intro hl
    rw [pk_m1]
    have fu : ∀ n, l + 1 < n → ∃ n', n = n' + 1 ∧ l < n' := fun n hn => ⟨n - 1, by omega, by omega⟩
    have hl3 : l < 3 := by omega
    rcases hr (85 * l + p) with hs | hs | hs | hs | hs
    · by_cases q : ov_h g l 3 p
      · refine ⟨T, W, Z, hW, fun post n hn k => ?_, fun post n hn k => ?_⟩
        · obtain ⟨n, rfl, ha⟩ := fu n hn
          exact xa_m0 h1 hp hl3 hs (fun _ => k) (fun z => absurd q z)
        · obtain ⟨n, rfl, ha⟩ := fu n hn
          exact ya_m0 hp hl3 hs (fun _ => k) (fun z => absurd q z)
      · obtain ⟨T1, W1, Z1, h, hX, hY⟩ := ih (by omega)
        refine ⟨T1, W1, Z1, h, fun post n hn k => ?_, fun post n hn k => ?_⟩
        · obtain ⟨n, rfl, ha⟩ := fu n hn
          exact xa_m0 h1 hp hl3 hs (fun z => absurd z q) (fun _ => hX post n ha k)
        · obtain ⟨n, rfl, ha⟩ := fu n hn
          exact ya_m0 hp hl3 hs (fun z => absurd z q) (fun _ => hY post n ha k)
    · refine ⟨upd T p 1, upd W p (V (85 * l + p)), upd Z p (V (85 * l + p)), ov_W_file hW p _, fun post n hn k => ?_, fun post n hn k => ?_⟩
      · obtain ⟨n, rfl, ha⟩ := fu n hn
        exact xa_m1 h1 hp hl3 hs k
      · obtain ⟨n, rfl, ha⟩ := fu n hn
        exact ya_m1 hp hl3 hs k
    · refine ⟨upd T p 2, upd W p 0, Z, ov_W_other hW p (by decide), fun post n hn k => ?_, fun post n hn k => ?_⟩
      · obtain ⟨n, rfl, ha⟩ := fu n hn
        exact xa_m23 h1 hp hl3 (Or.inl rfl) hs k
      · obtain ⟨n, rfl, ha⟩ := fu n hn
        exact ya_m23 hp hl3 (Or.inl rfl) hs k
    · refine ⟨upd T p 2, upd W p 0, Z, ov_W_other hW p (by decide), fun post n hn k => ?_, fun post n hn k => ?_⟩
      · obtain ⟨n, rfl, ha⟩ := fu n hn
        exact xa_m23 h1 hp hl3 (Or.inr rfl) hs k
      · obtain ⟨n, rfl, ha⟩ := fu n hn
        exact ya_m23 hp hl3 (Or.inr rfl) hs k
    · refine ⟨T, W, Z, hW, fun post n hn k => ?_, fun post n hn k => ?_⟩
      · obtain ⟨n, rfl, ha⟩ := fu n hn
        exact xa_m4 h1 hp hl3 hs k
      · obtain ⟨n, rfl, ha⟩ := fu n hn
        exact ya_m4 hp hl3 hs k
theorem za_loop (hr : ∀ j, ov_rng (g j)) : ∀ d p, p + d = 85 → 1 ≤ p → ∀ T W Z, ov_W T W Z → ∃ T1 W1 Z1, ov_W T1 W1 Z1 ∧ (∀ post : Int32 → SX → Prop, post (nI (ov_k (ov_tP T1) 85)) (m, ov_top g, V, T1, W1) → wX_mount_23 post (d + 1) (nI p) m (ov_top g) V T W) ∧ (∀ post : Int32 → SY → Prop, post (nI (ov_k (ov_tP T1) 85)) (m, g, V, T1, Z1, I) → wY_mount_23 post (d + 1) (nI p) m g V T Z I) := by
  intro d
  induction d with
  | zero =>
    intro p h0 h1 T W Z hW
    have e : p = 85 := by omega
    subst e
    exact ⟨T, W, Z, hW, fun post k => br_t (by decide) (xa_total k), fun post k => br_t (by decide) (ya_total k)⟩
  | succ d ih =>
    intro p h0 h1 T W Z hW
    have hp : p < 85 := by omega
    have c2 : (nI ((p - 1) / 4)).toNatClampNeg = (p - 1) / 4 := nI_clamp (by omega)
    have n85 : ¬ (85 : Int32) ≤ nI p := nI_ge (b := 85) hp (by decide)
    by_cases z : T ((p - 1) / 4) = 2
    · obtain ⟨T1, W1, Z1, hW1, hX1, hY1⟩ := za_path (m := m) (V := V) (I := I) h1 hp hr hW 3 (by omega)
      obtain ⟨T2, W2, Z2, hW2, hX2, hY2⟩ := ih (p + 1) (by omega) (by omega) T1 W1 Z1 hW1
      refine ⟨T2, W2, Z2, hW2, fun post k => ?_, fun post k => ?_⟩
      · refine br_f n85 (xa_par h1 (by omega) ⟨vp_in_nI (by omega) (by decide), br_t (by rw [c2]; exact z) ?_⟩)
        exact ⟨4, hX1 _ 4 (by omega) (nm_r (nI_1 p) (hX2 post k))⟩
      · refine br_f n85 ?_
        unfold wpY_merge
        refine ya_par h1 (by omega) ⟨vp_in_nI (by omega) (by decide), br_t (by rw [c2]; exact z) ?_⟩
        exact ⟨4, hY1 _ 4 (by omega) (nm_r (nI_1 p) (hY2 post k))⟩
    · obtain ⟨T2, W2, Z2, hW2, hX2, hY2⟩ := ih (p + 1) (by omega) (by omega) T W Z hW
      refine ⟨T2, W2, Z2, hW2, fun post k => ?_, fun post k => ?_⟩
      · refine br_f n85 (xa_par h1 (by omega) ⟨vp_in_nI (by omega) (by decide), br_f (by rw [c2]; exact z) ?_⟩)
        exact nm_r (nI_1 p) (hX2 post k)
      · refine br_f n85 ?_
        unfold wpY_merge
        refine ya_par h1 (by omega) ⟨vp_in_nI (by omega) (by decide), br_f (by rw [c2]; exact z) ?_⟩
        exact nm_r (nI_1 p) (hY2 post k)
end
