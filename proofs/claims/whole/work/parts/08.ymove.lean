/-! the reference's move: the images, what would fall out, the one loop -/
section
variable {m : Int32} {g V T Z I : Nat → Int32}
theorem ov_v85 {c : Nat} (h : c ≤ 86) : ov_v c = 85 ↔ c = 85 := by
  by_cases e : c = 86
  · subst e
    rw [ov_v_n]
    exact ⟨fun z => absurd z (by decide), fun z => absurd z (by decide)⟩
  · rw [ov_v_c e]
    exact nI_eq (b := 85) (by omega) (by decide)
theorem ov_vneg {c : Nat} (h : c ≠ 86) (h2 : c ≤ 86) : ¬ ov_v c < 0 := by
  rw [ov_v_c h]
  exact nI_pos (by omega)
def ov_I (f t p : Nat) (A : Nat → Int32) : Prop := ∀ j, j < p → A j = ov_v (ov_c f t j)
theorem ov_I_s {f t p : Nat} {A B : Nat → Int32} (h : ov_I f t p A) (h1 : ∀ j, j < p → B j = A j) (h2 : B p = ov_v (ov_c f t p)) : ov_I f t (p + 1) B := by
  intro j hj
  by_cases e : j = p
  · rw [e]
    exact h2
  · rw [h1 j (by omega)]
    exact h j (by omega)
theorem ov_rem4 {a : Nat} (h : a < 2 ^ 31) : nI a - nI a / 4 * 4 = nI (a % 4) := pk_rem (d := 4) h (by decide) (by decide)
theorem ov_val {c p : Nat} (h : 1 ≤ p) (h2 : p < 2 ^ 31) : 4 * nI c + ((nI p - 1) - (nI p - 1) / 4 * 4) + 1 = nI (4 * c + (p - 1) % 4 + 1) := by
  rw [ov_sub1 h, ov_rem4 (by omega), ov_4m, nI_add, nI_1]
theorem ya_71a {post : SY → Prop} {J : Int32 → (Nat → Int32) → (Nat → Int32) → (Nat → Int32) → (Nat → Int32) → (Nat → Int32) → Prop} {x1 x2 : Int32} {p : Nat} {A : Nat → Int32} (hp : p < 85) (h : A p ≤ 84) (k : J (nI (p + 1)) g V T Z A) : wY_follow_71 post J x1 x2 (nI p) m g V T Z A := by
  have c : (nI p).toNatClampNeg = p := nI_clamp (by omega)
  unfold wY_follow_71
  rw [c]
  exact ⟨vp_in_nI hp (by decide), br_t h (nm_r (nI_1 p) k)⟩
theorem ya_71b {post : SY → Prop} {J : Int32 → (Nat → Int32) → (Nat → Int32) → (Nat → Int32) → (Nat → Int32) → (Nat → Int32) → Prop} {x1 x2 : Int32} {p : Nat} {A : Nat → Int32} (hp : p < 85) (h : ¬ A p ≤ 84) (k : J (nI (p + 1)) g V T Z (upd A p 85)) : wY_follow_71 post J x1 x2 (nI p) m g V T Z A := by
  have c : (nI p).toNatClampNeg = p := nI_clamp (by omega)
  unfold wY_follow_71
  rw [c]
  exact ⟨vp_in_nI hp (by decide), br_f h ⟨vp_in_nI hp (by decide), nm_e (nm_r (nI_1 p) k)⟩⟩
theorem ya_fo {post : SY → Prop} {f t : Nat} (hf : 1 ≤ f) (hf2 : f < 85) (ht : t < 85) (k : ∀ A, ov_I f t 85 A → post (m, g, V, T, Z, A)) : ∀ n p A, 85 < n + p → p ≤ 85 → ov_I f t p A → wY_follow_2 post (nI f) (nI t) m n (nI p) g V T Z A := by
  intro n
  induction n with
  | zero => intro p A h1 h2; omega
  | succ n ih =>
    intro p A h1 h2 hI
    have c : (nI p).toNatClampNeg = p := nI_clamp (by omega)
    have lo : ∀ j, j < p → upd A p (-1) j = A j := fun j hj => pk_un (by omega)
    have lo2 : ∀ x j, j < p → upd (upd A p (-1)) p x j = A j := fun x j hj => (pk_un (by omega)).trans (lo j hj)
    have lo3 : ∀ x y j, j < p → upd (upd (upd A p (-1)) p x) p y j = A j := fun x y j hj => (pk_un (by omega)).trans (lo2 x j hj)
    refine pk_le 85 p (fun h => ?_) (fun h => ⟨vp_in_nI h (by decide), nm_r (e' := upd A p (-1)) (by rw [c]) ?_⟩)
    · have e : p = 85 := by omega
      rw [e] at hI
      exact k A hI
    · refine pk_eq p f (fun e => ⟨vp_in_nI h (by decide), nm_r (e' := upd (upd A p (-1)) p (nI t)) (by rw [c]) ?_⟩) (fun e => ?_)
      · refine ya_71a h (by rw [pk_us]; exact nI_le (b := 84) (by omega) (by decide)) (ih (p + 1) _ (by omega) (by omega) (ov_I_s hI (lo2 _) ?_))
        rw [pk_us, e, ov_c_0, ov_v_c (by omega)]
      · have no : ov_c f t p = 86 → wY_follow_71 post (wY_follow_2 post (nI f) (nI t) m n) (nI f) (nI t) (nI p) m g V T Z (upd A p (-1)) := fun z => by
          refine ya_71a h (by rw [pk_us]; decide) (ih (p + 1) _ (by omega) (by omega) (ov_I_s hI lo ?_))
          rw [pk_us, z, ov_v_n]
        refine pk_le p 0 (fun e0 => no ?_) (fun e0 => ?_)
        · have q := ov_c_cases f t p
          omega
        · have c2 : (nI ((p - 1) / 4)).toNatClampNeg = (p - 1) / 4 := nI_clamp (by omega)
          have eq : upd A p (-1) ((p - 1) / 4) = ov_v (ov_c f t ((p - 1) / 4)) := (lo _ (by omega)).trans (hI _ (by omega))
          have le := ov_c_le (f := f) (p := (p - 1) / 4) ht
          have s1 := fun hc => ov_c_s1 hf h e0 e ht (c := ov_c f t ((p - 1) / 4)) rfl hc
          have s0 := fun hc => ov_c_s0 hf h e0 e hc ht
          generalize ov_c f t ((p - 1) / 4) = d at eq le s1 s0
          refine ya_par e0 (by omega) ?_
          rw [c2, eq]
          refine ⟨vp_in_nI (by omega) (by decide), ?_⟩
          by_cases z : d = 86
          · rw [z, ov_v_n]
            exact br_t (by decide) (no (s0 z))
          · refine br_f (ov_vneg z le) (ya_par e0 (by omega) ?_)
            rw [c2, eq, ov_v_c z, ov_val e0 (by omega), c]
            have s2 := s1 z
            refine ⟨vp_in_nI (by omega) (by decide), by decide, vp_in_nI h (by decide), nm_e ?_⟩
            by_cases y : 84 < 4 * d + (p - 1) % 4 + 1
            · rw [if_pos y] at s2
              refine ya_71b h (by rw [pk_us]; exact nI_ge (a := 84) y (by omega)) (ih (p + 1) _ (by omega) (by omega) (ov_I_s hI (lo3 _ _) ?_))
              rw [pk_us, s2, ov_v_c (by decide)]
              rfl
            · rw [if_neg y] at s2
              refine ya_71a h (by rw [pk_us]; exact nI_le (b := 84) (by omega) (by decide)) (ih (p + 1) _ (by omega) (by omega) (ov_I_s hI (lo2 _) ?_))
              rw [pk_us, s2, ov_v_c (by omega)]
theorem ya_follow {post : SY → Prop} {f t : Nat} (hf : 1 ≤ f) (hf2 : f < 85) (ht : t < 85) (k : ∀ A, ov_I f t 85 A → post (m, g, V, T, Z, A)) : wpY_follow post (m, g, V, T, Z, I) (nI f) (nI t) := by
  unfold wpY_follow
  exact ⟨86, ya_fo hf hf2 ht k 86 0 I (by omega) (by omega) (fun j hj => absurd hj (by omega))⟩
theorem ya_m57 {post : Int32 → SY → Prop} {f t : Nat} (ht : t < 85) (hI : ov_I f t 85 I) (k1 : ov_k (ov_bP T f t) 85 = 0 → ∃ n, wY_move_96 post m n 0 1 g V T Z I) (k0 : ¬ ov_k (ov_bP T f t) 85 = 0 → post (-1) (m, g, V, T, Z, I)) : ∀ n p, 85 < n + p → 1 ≤ p → p ≤ 85 → ov_k (ov_bP T f t) p = 0 → wY_move_57 post m g V T Z I n (nI p) := by
  intro n
  induction n with
  | zero => intro p h1 h2 h3; omega
  | succ n ih =>
    intro p h1 h2 h3 h0
    have c : (nI p).toNatClampNeg = p := nI_clamp (by omega)
    refine pk_le 85 p (fun h => ?_) (fun h => ⟨vp_in_nI h (by decide), ?_⟩)
    · have e : p = 85 := by omega
      rw [e] at h0
      exact k1 h0
    · have i := ih (p + 1) (by omega) (by omega) (by omega)
      have v := ov_v85 (ov_c_le (f := f) (p := p) ht)
      rw [c, hI p h]
      refine br_c (fun z => ⟨vp_in_nI h (by decide), br_c (fun y => ?_) (fun y => ?_)⟩) (fun z => ?_)
      · rw [ov_k_f (ov_bP_f (fun q => q.2.2 y))] at i
        exact nm_r (nI_1 p) (i h0)
      · have e := ov_k_t (ov_bP_t ⟨h2, v.mp z, y⟩)
        have mo := ov_k_mono (P := ov_bP T f t) (a := p + 1) (85 - (p + 1))
        rw [show p + 1 + (85 - (p + 1)) = 85 by omega] at mo
        exact k0 (by omega)
      · rw [ov_k_f (ov_bP_f (fun q => z (v.mpr q.2.1)))] at i
        exact nm_r (nI_1 p) (i h0)
theorem ya_m96 {post : Int32 → SY → Prop} {f t : Nat} (ht : t < 85) (hI : ov_I f t 85 I) {s0 : ov_S} (hp : post (nI (ov_yl f t 85 s0).2.2) (m, g, V, (ov_yl f t 85 s0).1, (ov_yl f t 85 s0).2.1, I)) : ∀ n p, 85 < n + p → 1 ≤ p → p ≤ 85 → wY_move_96 post m n (nI (ov_yl f t p s0).2.2) (nI p) g V (ov_yl f t p s0).1 (ov_yl f t p s0).2.1 I := by
  intro n
  induction n with
  | zero => intro p h1 h2 h3; omega
  | succ n ih =>
    intro p h1 h2 h3
    have c : (nI p).toNatClampNeg = p := nI_clamp (by omega)
    refine pk_le 85 p (fun h => ?_) (fun h => ⟨vp_in_nI h (by decide), ?_⟩)
    · have e : p = 85 := by omega
      rw [e]
      exact hp
    · have i := ih (p + 1) (by omega) (by omega) (by omega)
      have le := ov_c_le (f := f) (p := p) ht
      have hj := hI p h
      rw [c, hj]
      by_cases z : ov_c f t p = 86
      · rw [ov_yl_f (by omega)] at i
        rw [z, ov_v_n]
        exact br_t (by decide) (nm_r (nI_1 p) i)
      · refine br_f (ov_vneg z le) ⟨vp_in_nI h (by decide), ?_⟩
        rw [ov_v_c z]
        by_cases y : ov_c f t p = 85
        · rw [ov_yl_f (by omega)] at i
          rw [y]
          exact br_t (by decide) (nm_r (nI_1 p) i)
        · have lt : ov_c f t p < 85 := by omega
          have cc : (nI (ov_c f t p)).toNatClampNeg = ov_c f t p := nI_clamp (by omega)
          rw [ov_yl_t h2 lt] at i
          refine br_f (nI_ge (b := 85) lt (by decide)) ⟨vp_in_nI h (by decide), ?_⟩
          generalize ov_yl f t p s0 = s at i
          obtain ⟨T, Z, d⟩ := s
          rw [cc]
          refine br_c (fun x => ?_) (fun x => ?_)
          · rw [ov_y_0 (s := (T, Z, d)) x] at i
            exact nm_r (nI_1 p) i
          · rw [ov_y_1 (s := (T, Z, d)) x] at i
            have v1 := vp_in_nI h (by decide : 85 < 2 ^ 31)
            have v2 := vp_in_nI lt (by decide : 85 < 2 ^ 31)
            exact ⟨v1, v1, v2, nm_e ⟨v1, v1, v2, nm_e ⟨v1, nm_e (nm_r (nI_1 d) (nm_r (nI_1 p) i))⟩⟩⟩
end
