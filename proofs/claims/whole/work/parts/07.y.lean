/-! the reference's walks, each against the pure side -/
section
variable {m : Int32} {g V T Z I : Nat → Int32}
theorem ya_bad_t {post : Int32 → Prop} {j : Nat} (h2 : j < 85) (k : post 0) : wpY_bad post (nI j) :=
  br_f (nI_pos (by omega)) (br_t (nI_le (b := 84) (by omega) (by decide)) k)
theorem ya_bad_f {post : Int32 → Prop} {x : Int32} (h : x < 0 ∨ (85 : Int32) ≤ x) (k : post 1) : wpY_bad post x :=
  br_c (fun _ => k) (fun n0 => br_c (fun a => h.elim (fun b => absurd b n0) (fun b => absurd (Int32.le_trans b a) (by decide))) (fun _ => k))
theorem ya_par {post : Int32 → Prop} {j : Nat} (h1 : 1 ≤ j) (h2 : j < 2 ^ 31) (k : post (nI ((j - 1) / 4))) : wpY_parent post (nI j) := by
  unfold wpY_parent
  rw [ov_par h1 h2]
  exact ⟨by decide, k⟩
theorem ya_vac_o {post : Int32 → Prop} {x : Int32} (h : x < 0 ∨ (85 : Int32) ≤ x) (k : post 0) : wpY_canMake post (m, g, V, T, Z, I) x := by
  unfold wpY_canMake
  exact br_c (fun _ => k) (fun _ => br_c (fun _ => k) (fun _ => ya_bad_f h (br_f (by decide) k)))
theorem ya_vac {post : Int32 → Prop} {j : Nat} (hj : j < 85) (k1 : ov_vac m T j → post 1) (k0 : ¬ ov_vac m T j → post 0) : wpY_canMake post (m, g, V, T, Z, I) (nI j) := by
  have c : (nI j).toNatClampNeg = j := nI_clamp (by omega)
  have c2 : (nI ((j - 1) / 4)).toNatClampNeg = (j - 1) / 4 := nI_clamp (by omega)
  unfold wpY_canMake
  dsimp only
  rw [c]
  refine br_c (fun z => k0 (fun q => q.1 z)) (fun z => ?_)
  refine pk_le j 0 (fun h => k0 (fun q => absurd q.2.1 (by omega))) (fun h => ?_)
  refine ya_bad_t hj (br_t rfl ⟨vp_in_nI hj (by decide), br_c (fun y => ya_par h (by omega) ?_) (fun y => k0 (fun q => y q.2.2.1))⟩)
  rw [c2]
  exact ⟨vp_in_nI (by omega) (by decide), br_c (fun w => k1 ⟨z, h, y, w⟩) (fun w => k0 (fun q => w q.2.2.2))⟩
theorem ya_tl {post : Int32 → Prop} (hp : post (nI (ov_k (ov_tP T) 85))) : ∀ n p, 85 < n + p → 1 ≤ p → p ≤ 85 → wY_total_4 post m g V T Z I n (nI (ov_k (ov_tP T) p)) (nI p) := by
  intro n
  induction n with
  | zero => intro p h1 h2 h3; omega
  | succ n ih =>
    intro p h1 h2 h3
    have c : (nI p).toNatClampNeg = p := nI_clamp (by omega)
    refine pk_le 85 p (fun h => ?_) (fun h => ⟨vp_in_nI h (by decide), ?_⟩)
    · have e : p = 85 := by omega
      rw [e]
      exact hp
    · have i := ih (p + 1) (by omega) (by omega) (by omega)
      refine br_c (fun z => ?_) (fun z => ?_)
      · rw [c] at z
        rw [ov_k_f (ov_tP_f (fun q => q.2 z))] at i
        exact nm_r (nI_1 p) i
      · rw [c] at z
        rw [ov_k_t (ov_tP_t ⟨h2, z⟩)] at i
        exact nm_r (nI_1 _) (nm_r (nI_1 p) i)
theorem ya_total {post : Int32 → Prop} (hp : post (nI (ov_k (ov_tP T) 85))) : wpY_total post (m, g, V, T, Z, I) := by
  have i := ya_tl (m := m) (g := g) (V := V) (Z := Z) (I := I) hp 85 1 (by omega) (by omega) (by omega)
  rw [ov_t1] at i
  unfold wpY_total
  exact ⟨85, i⟩
theorem ya_en {post : Int32 → Prop} {f : Nat} (hf : f < 85) (hp : post (nI (ov_k (ov_eP T f) 85))) : ∀ n p, 85 < n + p → 1 ≤ p → p ≤ 85 → wY_entries_23 post (nI f) m g V T Z I n (nI (ov_k (ov_eP T f) p)) (nI p) := by
  intro n
  induction n with
  | zero => intro p h1 h2 h3; omega
  | succ n ih =>
    intro p h1 h2 h3
    have c : (nI p).toNatClampNeg = p := nI_clamp (by omega)
    refine pk_le 85 p (fun h => ?_) (fun h => ⟨vp_in_nI h (by decide), ?_⟩)
    · have e : p = 85 := by omega
      rw [e]
      exact hp
    · have i := ih (p + 1) (by omega) (by omega) (by omega)
      refine br_c (fun z => ?_) (fun z => ?_)
      · rw [c] at z
        rw [ov_k_f (ov_eP_f (fun q => q.2.1 z))] at i
        exact nm_r (nI_1 p) i
      · rw [c] at z
        refine ya_par h2 (by omega) (pk_eq ((p - 1) / 4) f (fun y => ?_) (fun y => ?_))
        · rw [ov_k_t (ov_eP_t ⟨h2, z, y⟩)] at i
          exact nm_r (nI_1 _) (nm_r (nI_1 p) i)
        · rw [ov_k_f (ov_eP_f (fun q => y q.2.2))] at i
          exact nm_r (nI_1 p) i
theorem ya_rm {post : Int32 → SY → Prop} {f : Nat} (hf : f < 85) (k1 : ov_k (ov_eP T f) 85 = 0 → post 0 (m, g, V, upd T f 0, Z, I)) (k0 : ¬ ov_k (ov_eP T f) 85 = 0 → post (-1) (m, g, V, T, Z, I)) : ∀ n p, 85 < n + p → 1 ≤ p → p ≤ 85 → ov_k (ov_eP T f) p = 0 → wY_remove_32 post (nI f) m g V T Z I n (nI p) := by
  intro n
  induction n with
  | zero => intro p h1 h2 h3; omega
  | succ n ih =>
    intro p h1 h2 h3 h0
    have c : (nI p).toNatClampNeg = p := nI_clamp (by omega)
    have c2 : (nI f).toNatClampNeg = f := nI_clamp (by omega)
    refine pk_le 85 p (fun h => ?_) (fun h => ⟨vp_in_nI h (by decide), ?_⟩)
    · have e : p = 85 := by omega
      rw [e] at h0
      exact ⟨vp_in_nI hf (by decide), nm_r (by rw [c2]) (k1 h0)⟩
    · have i := ih (p + 1) (by omega) (by omega) (by omega)
      refine br_c (fun z => ?_) (fun z => ?_)
      · rw [c] at z
        rw [ov_k_f (ov_eP_f (fun q => q.2.1 z))] at i
        exact nm_r (nI_1 p) (i h0)
      · rw [c] at z
        refine ya_par h2 (by omega) (pk_eq ((p - 1) / 4) f (fun y => ?_) (fun y => ?_))
        · have e := ov_k_t (ov_eP_t ⟨h2, z, y⟩)
          have mo := ov_k_mono (P := ov_eP T f) (a := p + 1) (85 - (p + 1))
          rw [show p + 1 + (85 - (p + 1)) = 85 by omega] at mo
          exact k0 (by omega)
        · rw [ov_k_f (ov_eP_f (fun q => y q.2.2))] at i
          exact nm_r (nI_1 p) (i h0)
theorem ya_hd {post : Int32 → Prop} {l : Nat} (hl : l < 3) : ∀ k n u, k < n → u < 85 → (k = 0 → u = 0) → (k = 1 → u < 5) → (k = 2 → u < 21) → (ov_h g l k u → post 1) → (¬ ov_h g l k u → post 0) → wY_hidden_2 post (nI l) m g V T Z I n (nI u) := by
  intro k
  induction k with
  | zero =>
    intro n u h2 h3 b0 b1 b2 k1 k0
    obtain ⟨n, rfl⟩ : ∃ n', n = n' + 1 := ⟨n - 1, by omega⟩
    rw [b0 rfl]
    exact br_t (by decide) (k0 (fun z => z))
  | succ k ih =>
    intro n u h2 h3 b0 b1 b2 k1 k0
    obtain ⟨n, rfl⟩ : ∃ n', n = n' + 1 := ⟨n - 1, by omega⟩
    refine pk_le u 0 (fun h => ?_) (fun h => ?_)
    · have e : u = 0 := by omega
      rw [e] at k0
      exact k0 (ov_h_0 g l _)
    · refine ya_par (by omega) (by omega) ?_
      have e := ov_cell2 l ((u - 1) / 4)
      have c : (nI (85 * l + (u - 1) / 4)).toNatClampNeg = 85 * l + (u - 1) / 4 := nI_clamp (by omega)
      have nx : ¬ (0 < (u - 1) / 4 ∧ ov_cv (g (85 * l + (u - 1) / 4))) → wY_hidden_2 post (nI l) m g V T Z I n (nI ((u - 1) / 4)) := fun z => ih n ((u - 1) / 4) (by omega) (by omega) (by omega) (by omega) (by omega) (fun q => k1 ((ov_h_n h z).mpr q)) (fun q => k0 (fun y => q ((ov_h_n h z).mp y)))
      refine ⟨by rw [e]; exact vp_in_nI (by omega) (by decide), nm_r (by rw [e, c]) ?_⟩
      refine pk_le ((u - 1) / 4) 0 (fun y => nx (fun q => absurd q.1 (by omega))) (fun y => ?_)
      refine br_c (fun z => k1 (ov_h_y h y (Or.inl z))) (fun z1 => br_c (fun z => k1 (ov_h_y h y (Or.inr (Or.inl z)))) (fun z3 => br_c (fun z => k1 (ov_h_y h y (Or.inr (Or.inr z)))) (fun z4 => ?_)))
      exact nx (fun q => q.2.elim z1 (fun q => q.elim z3 z4))
theorem ya_hidden {post : Int32 → Prop} {l u : Nat} (hl : l < 3) (hu : u < 85) (k1 : ov_h g l 3 u → post 1) (k0 : ¬ ov_h g l 3 u → post 0) : wpY_hidden post (m, g, V, T, Z, I) (nI l) (nI u) := by
  unfold wpY_hidden
  exact ⟨4, ya_hd hl 3 4 u (by omega) hu (by omega) (by omega) (by omega) k1 k0⟩
end
