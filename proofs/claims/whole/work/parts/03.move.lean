/-! who is below, who would fall out, and the rows of one move -/
def ov_eP (T : Nat → Int32) (f p : Nat) : Bool := decide (0 < p ∧ ¬ T p = 0 ∧ (p - 1) / 4 = f)
def ov_tP (T : Nat → Int32) (p : Nat) : Bool := decide (0 < p ∧ ¬ T p = 0)
def ov_bP (T : Nat → Int32) (f t p : Nat) : Bool := decide (0 < p ∧ ov_c f t p = 85 ∧ ¬ T p = 0)
theorem ov_eP_f {T : Nat → Int32} {f p : Nat} (h : ¬ (0 < p ∧ ¬ T p = 0 ∧ (p - 1) / 4 = f)) : ov_eP T f p = false := by
  unfold ov_eP
  exact decide_eq_false h
theorem ov_eP_t {T : Nat → Int32} {f p : Nat} (h : 0 < p ∧ ¬ T p = 0 ∧ (p - 1) / 4 = f) : ov_eP T f p = true := by
  unfold ov_eP
  exact decide_eq_true h
theorem ov_eP_i {T : Nat → Int32} {f p : Nat} (h : ov_eP T f p = true) : 0 < p ∧ ¬ T p = 0 ∧ (p - 1) / 4 = f := by
  unfold ov_eP at h
  exact of_decide_eq_true h
theorem ov_tP_f {T : Nat → Int32} {p : Nat} (h : ¬ (0 < p ∧ ¬ T p = 0)) : ov_tP T p = false := by
  unfold ov_tP
  exact decide_eq_false h
theorem ov_tP_t {T : Nat → Int32} {p : Nat} (h : 0 < p ∧ ¬ T p = 0) : ov_tP T p = true := by
  unfold ov_tP
  exact decide_eq_true h
theorem ov_bP_f {T : Nat → Int32} {f t p : Nat} (h : ¬ (0 < p ∧ ov_c f t p = 85 ∧ ¬ T p = 0)) : ov_bP T f t p = false := by
  unfold ov_bP
  exact decide_eq_false h
theorem ov_bP_t {T : Nat → Int32} {f t p : Nat} (h : 0 < p ∧ ov_c f t p = 85 ∧ ¬ T p = 0) : ov_bP T f t p = true := by
  unfold ov_bP
  exact decide_eq_true h
theorem ov_bP_i {T : Nat → Int32} {f t p : Nat} (h : ov_bP T f t p = true) : 0 < p ∧ ov_c f t p = 85 ∧ ¬ T p = 0 := by
  unfold ov_bP at h
  exact of_decide_eq_true h
theorem ov_e_eq (T : Nat → Int32) {f : Nat} : ov_k (ov_eP T f) 85 = ov_n T (4 * f + 1) (min 4 (85 - (4 * f + 1))) := by
  have e1 : ov_k (ov_eP T f) (min 85 (4 * f + 1)) = 0 := ov_k_to (a := 0) (by omega) (fun j _ h2 => ov_eP_f (fun q => absurd q.2.2 (by have := q.1; omega)))
  have e2 := ov_k_seg (P := ov_eP T f) (T := T) (a := 4 * f + 1) (w := 4) False (fun z => z.elim) (fun _ j h1 h2 h3 => ⟨fun q => (ov_eP_i q).2.1, fun q => ov_eP_t ⟨by omega, q, by omega⟩⟩)
  have e3 : ov_k (ov_eP T f) 85 = ov_k (ov_eP T f) (min 85 (4 * f + 1) + min 4 (85 - (4 * f + 1))) := ov_k_to (by omega) (fun j h1 h2 => ov_eP_f (fun q => absurd q.2.2 (by omega)))
  rw [e3, e2, e1, if_neg not_false, Nat.zero_add]
theorem ov_b_eq (T : Nat → Int32) {f t : Nat} (hf : 1 ≤ f) (ht : t < 85) : ov_k (ov_bP T f t) 85 = (if t < 21 then 0 else ov_n T (4 * f + 1) (min 4 (85 - (4 * f + 1)))) + (if t < 5 then 0 else ov_n T (16 * f + 5) (min 16 (85 - (16 * f + 5)))) := by
  have no : ∀ j, ov_c f t j ≠ 85 → ov_bP T f t j = false := fun j h => ov_bP_f (fun q => h q.2.1)
  have e1 : ov_k (ov_bP T f t) (min 85 (4 * f + 1)) = 0 := ov_k_to (a := 0) (by omega) (fun j _ h2 => no j (by
    have h := ov_c_cases f t j
    omega))
  have e2 := ov_k_seg (P := ov_bP T f t) (T := T) (a := 4 * f + 1) (w := 4) (t < 21) (fun z j h1 h2 _ => no j (by rw [ov_c_1 h1 (by omega) z]; omega)) (fun z j h1 h2 _ => ⟨fun q => (ov_bP_i q).2.2, fun q => ov_bP_t ⟨by omega, ov_c_1b h1 (by omega) z, q⟩⟩)
  have e3 : ov_k (ov_bP T f t) (min 85 (16 * f + 5)) = ov_k (ov_bP T f t) (min 85 (4 * f + 1) + min 4 (85 - (4 * f + 1))) := ov_k_to (by omega) (fun j h1 h2 => no j (by
    have h := ov_c_cases f t j
    omega))
  have e4 := ov_k_seg (P := ov_bP T f t) (T := T) (a := 16 * f + 5) (w := 16) (t < 5) (fun z j h1 h2 _ => no j (by rw [ov_c_2 h1 (by omega) z]; omega)) (fun z j h1 h2 _ => ⟨fun q => (ov_bP_i q).2.2, fun q => ov_bP_t ⟨by omega, ov_c_2b h1 (by omega) z, q⟩⟩)
  have e5 : ov_k (ov_bP T f t) 85 = ov_k (ov_bP T f t) (min 85 (16 * f + 5) + min 16 (85 - (16 * f + 5))) := ov_k_to (by omega) (fun j h1 h2 => no j (by
    have h := ov_c_cases f t j
    omega))
  rw [e5, e4, e3, e2, e1, Nat.zero_add]
/-- a file's value is the same on both sides; what is no file has the value 0 on the one side -/
def ov_W (T W Z : Nat → Int32) : Prop := ∀ j, (T j = 1 → Z j = W j) ∧ (¬ T j = 1 → W j = 0)
theorem ov_W_mv {T W Z : Nat → Int32} (h : ov_W T W Z) (p i : Nat) : ov_W (upd (upd T i (T p)) p 0) (upd (upd W i (W p)) p 0) (upd Z i (Z p)) := by
  intro j
  by_cases hp : j = p
  · subst hp
    rw [pk_us, pk_us]
    exact ⟨fun z => absurd z (by decide), fun _ => rfl⟩
  · rw [pk_un hp, pk_un hp]
    by_cases hi : j = i
    · subst hi
      rw [pk_us, pk_us, pk_us]
      exact h p
    · rw [pk_un hi, pk_un hi, pk_un hi]
      exact h j
theorem ov_W_file {T W Z : Nat → Int32} (h : ov_W T W Z) (p : Nat) (x : Int32) : ov_W (upd T p 1) (upd W p x) (upd Z p x) := by
  intro j
  by_cases hp : j = p
  · subst hp
    rw [pk_us, pk_us, pk_us]
    exact ⟨fun _ => rfl, fun z => absurd rfl z⟩
  · rw [pk_un hp, pk_un hp, pk_un hp]
    exact h j
theorem ov_W_other {T W Z : Nat → Int32} (h : ov_W T W Z) (p : Nat) {s : Int32} (hs : ¬ s = 1) : ov_W (upd T p s) (upd W p 0) Z := by
  intro j
  by_cases hp : j = p
  · subst hp
    rw [pk_us, pk_us]
    exact ⟨fun z => absurd z hs, fun _ => rfl⟩
  · rw [pk_un hp, pk_un hp]
    exact h j
theorem ov_W_write {T W Z : Nat → Int32} (h : ov_W T W Z) (p : Nat) (x : Int32) (hT : T p = 1) : ov_W T (upd W p x) (upd Z p x) := by
  intro j
  by_cases hp : j = p
  · subst hp
    rw [pk_us, pk_us]
    exact ⟨fun _ => rfl, fun z => absurd hT z⟩
  · rw [pk_un hp, pk_un hp]
    exact h j
def ov_x (p i : Nat) (s : ov_S) : ov_S := if s.1 p = 0 then s else (upd (upd s.1 i (s.1 p)) p 0, upd (upd s.2.1 i (s.2.1 p)) p 0, s.2.2 + 1)
def ov_y (p i : Nat) (s : ov_S) : ov_S := if s.1 p = 0 then s else (upd (upd s.1 i (s.1 p)) p 0, upd s.2.1 i (s.2.1 p), s.2.2 + 1)
theorem ov_x_0 {p i : Nat} {s : ov_S} (h : s.1 p = 0) : ov_x p i s = s := by
  unfold ov_x
  exact if_pos h
theorem ov_x_1 {p i : Nat} {s : ov_S} (h : ¬ s.1 p = 0) : ov_x p i s = (upd (upd s.1 i (s.1 p)) p 0, upd (upd s.2.1 i (s.2.1 p)) p 0, s.2.2 + 1) := by
  unfold ov_x
  exact if_neg h
theorem ov_y_0 {p i : Nat} {s : ov_S} (h : s.1 p = 0) : ov_y p i s = s := by
  unfold ov_y
  exact if_pos h
theorem ov_y_1 {p i : Nat} {s : ov_S} (h : ¬ s.1 p = 0) : ov_y p i s = (upd (upd s.1 i (s.1 p)) p 0, upd s.2.1 i (s.2.1 p), s.2.2 + 1) := by
  unfold ov_y
  exact if_neg h
def ov_xr (a b : Nat) : Nat → ov_S → ov_S
  | 0, s => s
  | k + 1, s => ov_x (a + k) (b + k) (ov_xr a b k s)
def ov_yr (a b : Nat) : Nat → ov_S → ov_S
  | 0, s => s
  | k + 1, s => ov_y (a + k) (b + k) (ov_yr a b k s)
theorem ov_xr_s (a b k : Nat) (s : ov_S) : ov_xr a b (k + 1) s = ov_x (a + k) (b + k) (ov_xr a b k s) := rfl
theorem ov_yr_s (a b k : Nat) (s : ov_S) : ov_yr a b (k + 1) s = ov_y (a + k) (b + k) (ov_yr a b k s) := rfl
def ov_R (x y : ov_S) : Prop := x.1 = y.1 ∧ x.2.2 = y.2.2 ∧ ov_W x.1 x.2.1 y.2.1
theorem ov_R_s {x y : ov_S} (h : ov_R x y) (p i : Nat) : ov_R (ov_x p i x) (ov_y p i y) := by
  obtain ⟨T, W, c⟩ := x
  obtain ⟨T2, Z, c2⟩ := y
  have h1 : T = T2 := h.1
  have h2 : c = c2 := h.2.1
  have h3 : ov_W T W Z := h.2.2
  subst h1 h2
  by_cases z : T p = 0
  · rw [ov_x_0 (s := (T, W, c)) z, ov_y_0 (s := (T, Z, c)) z]
    exact h
  · rw [ov_x_1 (s := (T, W, c)) z, ov_y_1 (s := (T, Z, c)) z]
    exact ⟨rfl, rfl, ov_W_mv h3 p i⟩
theorem ov_R_r {x y : ov_S} (h : ov_R x y) (a b : Nat) : ∀ k, ov_R (ov_xr a b k x) (ov_yr a b k y) := by
  intro k
  induction k with
  | zero => exact h
  | succ k ih => exact ov_R_s ih _ _
/-- the count of a row adds to the count before it -/
def ov_ad (c : Nat) (s : ov_S) : ov_S := (s.1, s.2.1, c + s.2.2)
theorem ov_x_ad (c p i : Nat) (s : ov_S) : ov_x p i (ov_ad c s) = ov_ad c (ov_x p i s) := by
  by_cases z : s.1 p = 0
  · rw [ov_x_0 z, ov_x_0 (s := ov_ad c s) z]
  · rw [ov_x_1 z, ov_x_1 (s := ov_ad c s) z]
    rfl
theorem ov_xr_ad (c a b : Nat) (s : ov_S) : ∀ k, ov_xr a b k (ov_ad c s) = ov_ad c (ov_xr a b k s) := by
  intro k
  induction k with
  | zero => rfl
  | succ k ih => rw [ov_xr_s, ov_xr_s, ih, ov_x_ad]
/-- the reference's one loop over all paths -/
def ov_yl (f t : Nat) : Nat → ov_S → ov_S
  | 0, s => s
  | p + 1, s => if 0 < p ∧ ov_c f t p < 85 then ov_y p (ov_c f t p) (ov_yl f t p s) else ov_yl f t p s
theorem ov_yl_s (f t p : Nat) (s : ov_S) : ov_yl f t (p + 1) s = if 0 < p ∧ ov_c f t p < 85 then ov_y p (ov_c f t p) (ov_yl f t p s) else ov_yl f t p s := rfl
theorem ov_yl_t {f t p : Nat} {s : ov_S} (h : 0 < p) (h2 : ov_c f t p < 85) : ov_yl f t (p + 1) s = ov_y p (ov_c f t p) (ov_yl f t p s) := by
  rw [ov_yl_s, if_pos ⟨h, h2⟩]
theorem ov_yl_f {f t p : Nat} {s : ov_S} (h : ¬ (0 < p ∧ ov_c f t p < 85)) : ov_yl f t (p + 1) s = ov_yl f t p s := by
  rw [ov_yl_s, if_neg h]
theorem ov_yl_skip {f t a : Nat} {s : ov_S} : ∀ k, (∀ j, a ≤ j → j < a + k → ¬ (0 < j ∧ ov_c f t j < 85)) → ov_yl f t (a + k) s = ov_yl f t a s := by
  intro k
  induction k with
  | zero => intro _; rfl
  | succ k ih =>
    intro h
    rw [← Nat.add_assoc, ov_yl_f (h (a + k) (by omega) (by omega))]
    exact ih (fun j h1 h2 => h j h1 (by omega))
theorem ov_yl_to {f t a b : Nat} {s : ov_S} (hab : a ≤ b) (h : ∀ j, a ≤ j → j < b → ¬ (0 < j ∧ ov_c f t j < 85)) : ov_yl f t b s = ov_yl f t a s := by
  obtain ⟨k, rfl⟩ : ∃ k, b = a + k := ⟨b - a, by omega⟩
  exact ov_yl_skip k h
theorem ov_yl_row {f t a b : Nat} {s : ov_S} (ha : 0 < a) : ∀ k, (∀ j, j < k → ov_c f t (a + j) = b + j ∧ b + j < 85) → ov_yl f t (a + k) s = ov_yr a b k (ov_yl f t a s) := by
  intro k
  induction k with
  | zero => intro _; rfl
  | succ k ih =>
    intro h
    have e := h k (by omega)
    rw [← Nat.add_assoc, ov_yl_t (by omega) (by rw [e.1]; exact e.2), e.1, ih (fun j hj => h j (by omega)), ov_yr_s]
theorem ov_yl_seg {f t a b w : Nat} {s : ov_S} (ha : 0 < a) (hb : b + w ≤ 85 ∨ 85 ≤ b) (hin : b < 85 → ∀ j, a ≤ j → j < a + w → ov_c f t j = b + (j - a)) (hout : ¬ b < 85 → ∀ j, a ≤ j → j < a + w → ov_c f t j = 85) : ov_yl f t (min 85 a + min w (85 - a)) s = ov_yr a b (min w (min (85 - a) (85 - b))) (ov_yl f t (min 85 a) s) := by
  by_cases h : a < 85
  · rw [show min 85 a = a by omega]
    by_cases z : b < 85
    · rw [show min w (min (85 - a) (85 - b)) = min w (85 - a) by omega]
      exact ov_yl_row ha _ (fun j hj => ⟨by rw [hin z (a + j) (by omega) (by omega)]; omega, by omega⟩)
    · rw [show min w (min (85 - a) (85 - b)) = 0 by omega]
      exact ov_yl_skip _ (fun j h1 h2 q => by have := hout z j h1 (by omega); omega)
  · rw [show min w (min (85 - a) (85 - b)) = 0 by omega, show min w (85 - a) = 0 by omega]
    rfl
theorem ov_yl_eq {f t : Nat} (hf : 1 ≤ f) (hf2 : f < 85) (ht : t < 85) (s : ov_S) : ov_yl f t 85 s = ov_yr (16 * f + 5) (16 * t + 5) (min 16 (min (85 - (16 * f + 5)) (85 - (16 * t + 5)))) (ov_yr (4 * f + 1) (4 * t + 1) (min 4 (min (85 - (4 * f + 1)) (85 - (4 * t + 1)))) (ov_yr f t 1 s)) := by
  have e0 : ov_yl f t f s = s := ov_yl_to (a := 0) (by omega) (fun j _ h2 q => by
    have h := ov_c_cases f t j
    have q2 := q.2
    omega)
  have e1 : ov_yl f t (f + 1) s = ov_yr f t 1 s := by
    rw [ov_yl_row (b := t) hf 1 (fun j hj => by
      have : j = 0 := by omega
      subst this
      exact ⟨ov_c_0 f t, ht⟩), e0]
  have e2 : ov_yl f t (min 85 (4 * f + 1)) s = ov_yl f t (f + 1) s := ov_yl_to (by omega) (fun j h1 h2 q => by
    have h := ov_c_cases f t j
    have q2 := q.2
    omega)
  have e3 := ov_yl_seg (f := f) (t := t) (a := 4 * f + 1) (b := 4 * t + 1) (w := 4) (s := s) (by omega) (by omega) (fun z j h1 h2 => ov_c_1 h1 (by omega) (by omega)) (fun z j h1 h2 => ov_c_1b h1 (by omega) (by omega))
  have e4 : ov_yl f t (min 85 (16 * f + 5)) s = ov_yl f t (min 85 (4 * f + 1) + min 4 (85 - (4 * f + 1))) s := ov_yl_to (by omega) (fun j h1 h2 q => by
    have h := ov_c_cases f t j
    have q2 := q.2
    omega)
  have e5 := ov_yl_seg (f := f) (t := t) (a := 16 * f + 5) (b := 16 * t + 5) (w := 16) (s := s) (by omega) (by omega) (fun z j h1 h2 => ov_c_2 h1 (by omega) (by omega)) (fun z j h1 h2 => ov_c_2b h1 (by omega) (by omega))
  have e6 : ov_yl f t 85 s = ov_yl f t (min 85 (16 * f + 5) + min 16 (85 - (16 * f + 5))) s := ov_yl_to (by omega) (fun j h1 h2 q => by
    have h := ov_c_cases f t j
    have q2 := q.2
    omega)
  rw [e6, e5, e4, e3, e2, e1]
