/-! counts, all, exists over n first naturals -/
def cb_cn (P : Nat → Bool) : Nat → Nat
  | 0 => 0
  | n + 1 => if P n then cb_cn P n + 1 else cb_cn P n
def cb_al (P : Nat → Bool) : Nat → Bool
  | 0 => true
  | n + 1 => cb_al P n && P n
def cb_ex (P : Nat → Bool) : Nat → Bool
  | 0 => false
  | n + 1 => cb_ex P n || P n
theorem cb_cn_t {P : Nat → Bool} {n : Nat} (h : P n = true) : cb_cn P (n + 1) = cb_cn P n + 1 := if_pos h
theorem cb_cn_f {P : Nat → Bool} {n : Nat} (h : ¬ P n = true) : cb_cn P (n + 1) = cb_cn P n := if_neg h
theorem cb_cn_le (P : Nat → Bool) (n : Nat) : cb_cn P n ≤ n := by
  induction n with
  | zero => exact Nat.le_refl _
  | succ n ih =>
    by_cases h : P n = true
    · rw [cb_cn_t h]; omega
    · rw [cb_cn_f h]; omega
theorem cb_cn_s (P : Nat → Bool) (n : Nat) : cb_cn P n ≤ cb_cn P (n + 1) := by
  by_cases h : P n = true
  · rw [cb_cn_t h]; omega
  · rw [cb_cn_f h]; omega
theorem cb_cn_mono (P : Nat → Bool) {m n : Nat} (h : m ≤ n) : cb_cn P m ≤ cb_cn P n := by
  induction n with
  | zero => have e : m = 0 := by omega
            rw [e]; exact Nat.le_refl _
  | succ n ih =>
    by_cases e : m = n + 1
    · rw [e]; exact Nat.le_refl _
    · exact Nat.le_trans (ih (by omega)) (cb_cn_s P n)
theorem cb_cn_lt (P : Nat → Bool) {x n : Nat} (h : x < n) (hx : P x = true) : cb_cn P x < cb_cn P n := by
  have h1 := cb_cn_mono P (show x + 1 ≤ n from h)
  rw [cb_cn_t hx] at h1
  omega
theorem cb_cn_uq (P : Nat → Bool) {x y : Nat} (hx : P x = true) (hy : P y = true) (e : cb_cn P x = cb_cn P y) : x = y := by
  rcases Nat.lt_trichotomy x y with h | h | h
  · have := cb_cn_lt P h hx; omega
  · exact h
  · have := cb_cn_lt P h hy; omega
theorem cb_cn_cg {P Q : Nat → Bool} {n : Nat} (h : ∀ x, x < n → P x = Q x) : cb_cn P n = cb_cn Q n := by
  induction n with
  | zero => rfl
  | succ n ih =>
    have e := ih (fun x hx => h x (by omega))
    have e2 := h n (by omega)
    show (if P n then cb_cn P n + 1 else cb_cn P n) = (if Q n then cb_cn Q n + 1 else cb_cn Q n)
    rw [e, e2]
theorem cb_cn_inv (P : Nat → Bool) {k n : Nat} (h : k < cb_cn P n) : ∃ x, x < n ∧ P x = true ∧ cb_cn P x = k := by
  induction n with
  | zero => exact absurd h (Nat.not_lt_zero _)
  | succ n ih =>
    by_cases hp : P n = true
    · rw [cb_cn_t hp] at h
      by_cases e : k = cb_cn P n
      · exact ⟨n, by omega, hp, e.symm⟩
      · obtain ⟨x, a, b, c⟩ := ih (by omega)
        exact ⟨x, by omega, b, c⟩
    · rw [cb_cn_f hp] at h
      obtain ⟨x, a, b, c⟩ := ih h
      exact ⟨x, by omega, b, c⟩
theorem cb_cn_sub {P Q : Nat → Bool} {n : Nat} (h : ∀ x, x < n → P x = true → Q x = true) : cb_cn P n ≤ cb_cn Q n := by
  induction n with
  | zero => exact Nat.le_refl _
  | succ n ih =>
    have e := ih (fun x hx => h x (by omega))
    by_cases hp : P n = true
    · rw [cb_cn_t hp, cb_cn_t (h n (by omega) hp)]; omega
    · rw [cb_cn_f hp]; exact Nat.le_trans e (cb_cn_s Q n)
theorem cb_cn_ssub {P Q : Nat → Bool} {n : Nat} (h : ∀ x, x < n → P x = true → Q x = true) (hx : ∃ x, x < n ∧ ¬ P x = true ∧ Q x = true) : cb_cn P n < cb_cn Q n := by
  induction n with
  | zero => obtain ⟨x, a, _⟩ := hx; omega
  | succ n ih =>
    obtain ⟨x, a, b, c⟩ := hx
    have h' : ∀ x, x < n → P x = true → Q x = true := fun x hx => h x (by omega)
    by_cases e : x = n
    · subst e
      rw [cb_cn_f b, cb_cn_t c]
      have := cb_cn_sub h'
      omega
    · have e2 := ih h' ⟨x, by omega, b, c⟩
      by_cases hp : P n = true
      · rw [cb_cn_t hp, cb_cn_t (h n (by omega) hp)]; omega
      · rw [cb_cn_f hp]; exact Nat.lt_of_lt_of_le e2 (cb_cn_s Q n)
theorem cb_cn_all {P : Nat → Bool} {n : Nat} (h : cb_cn P n = n) : ∀ x, x < n → P x = true := by
  induction n with
  | zero => intro x hx; omega
  | succ n ih =>
    have h1 := cb_cn_le P n
    by_cases hp : P n = true
    · rw [cb_cn_t hp] at h
      intro x hx
      by_cases e : x = n
      · rw [e]; exact hp
      · exact ih (by omega) x (by omega)
    · rw [cb_cn_f hp] at h; omega
theorem cb_al_iff (P : Nat → Bool) (n : Nat) : cb_al P n = true ↔ ∀ x, x < n → P x = true := by
  induction n with
  | zero => exact ⟨fun _ x hx => absurd hx (Nat.not_lt_zero _), fun _ => rfl⟩
  | succ n ih =>
    show (cb_al P n && P n) = true ↔ _
    rw [Bool.and_eq_true, ih]
    exact ⟨fun h x hx => if e : x = n then by rw [e]; exact h.2 else h.1 x (by omega), fun h => ⟨fun x hx => h x (by omega), h n (by omega)⟩⟩
theorem cb_ex_iff (P : Nat → Bool) (n : Nat) : cb_ex P n = true ↔ ∃ x, x < n ∧ P x = true := by
  induction n with
  | zero => exact ⟨fun h => Bool.noConfusion h, fun ⟨x, hx, _⟩ => absurd hx (Nat.not_lt_zero _)⟩
  | succ n ih =>
    show (cb_ex P n || P n) = true ↔ _
    rw [Bool.or_eq_true, ih]
    constructor
    · rintro (⟨x, a, b⟩ | h)
      · exact ⟨x, by omega, b⟩
      · exact ⟨n, by omega, h⟩
    · rintro ⟨x, a, b⟩
      by_cases e : x = n
      · exact Or.inr (e ▸ b)
      · exact Or.inl ⟨x, by omega, b⟩
/-! digits and answers -/
def cb_dg (D x i : Nat) : Nat := x / D ^ i % D
def cb_tm (L D x d : Nat) : Nat := cb_cn (fun i => cb_dg D x i == d) L
def cb_q (D g s i : Nat) : Bool := cb_dg D g i == cb_dg D s i
def cb_sm (D g s : Nat) (n : Nat) : Nat := cb_cn (cb_q D g s) n
def cb_mi (L D g s : Nat) : Nat → Nat
  | 0 => 0
  | d + 1 => cb_mi L D g s d + (if cb_tm L D s d ≤ cb_tm L D g d then cb_tm L D s d else cb_tm L D g d)
def cb_an (L D g s : Nat) : Nat := 10 * cb_sm D g s L + cb_mi L D g s D - cb_sm D g s L
def cb_ck (L D : Nat) : Bool := cb_al (fun g => cb_al (fun s => decide (cb_an L D g s < 45) && ((cb_an L D g s == 10 * L) == (g == s))) (D ^ L)) (D ^ L)
theorem cb_ck_1 : cb_al (fun l => cb_al (fun d => cb_ck (l + 1) (d + 1)) 2) 4 = true := by decide +kernel
theorem cb_ck_2 : cb_al (fun l => cb_ck (l + 1) 3) 3 = true := by decide +kernel
theorem cb_ck_3 : cb_ck 4 3 = true := by decide +kernel
theorem cb_ck_all {L D : Nat} (hL : 1 ≤ L) (hL4 : L ≤ 4) (hD : 1 ≤ D) (hD3 : D ≤ 3) : cb_ck L D = true := by
  by_cases h3 : D = 3
  · subst h3
    by_cases h4 : L = 4
    · subst h4; exact cb_ck_3
    · have h := (cb_al_iff _ _).mp cb_ck_2 (L - 1) (by omega)
      rw [show L - 1 + 1 = L from by omega] at h
      exact h
  · have h := (cb_al_iff _ _).mp ((cb_al_iff _ _).mp cb_ck_1 (L - 1) (by omega)) (D - 1) (by omega)
    rw [show L - 1 + 1 = L from by omega, show D - 1 + 1 = D from by omega] at h
    exact h
theorem cb_an_ck {L D : Nat} (hL : 1 ≤ L) (hL4 : L ≤ 4) (hD : 1 ≤ D) (hD3 : D ≤ 3) {g s : Nat} (hg : g < D ^ L) (hs : s < D ^ L) : cb_an L D g s < 45 ∧ (cb_an L D g s = 10 * L ↔ g = s) := by
  have h := (cb_al_iff _ _).mp ((cb_al_iff _ _).mp (cb_ck_all hL hL4 hD hD3) g hg) s hs
  rw [Bool.and_eq_true] at h
  refine ⟨of_decide_eq_true h.1, ?_⟩
  have h2 := eq_of_beq h.2
  rw [← beq_iff_eq (a := g), ← h2, beq_iff_eq]
theorem cb_pw {L D : Nat} (hL4 : L ≤ 4) (hD : 1 ≤ D) (hD3 : D ≤ 3) : 1 ≤ D ^ L ∧ D ^ L ≤ 81 := by
  have h : ∀ l, l < 5 → ∀ d, d < 3 → 1 ≤ (d + 1) ^ l ∧ (d + 1) ^ l ≤ 81 := by decide +kernel
  have h2 := h L (by omega) (D - 1) (by omega)
  rw [show D - 1 + 1 = D from by omega] at h2
  exact h2
theorem cb_rev {L : Nat} (hL4 : L ≤ 4) (f : Nat → Bool) : cb_cn (fun p => f (L - 1 - p)) L = cb_cn f L := by
  have h : L = 0 ∨ L = 1 ∨ L = 2 ∨ L = 3 ∨ L = 4 := by omega
  rcases h with rfl | rfl | rfl | rfl | rfl
  · rfl
  · rfl
  · by_cases h0 : f 0 = true <;> by_cases h1 : f 1 = true <;> simp [cb_cn, h0, h1]
  · by_cases h0 : f 0 = true <;> by_cases h1 : f 1 = true <;> by_cases h2 : f 2 = true <;> simp [cb_cn, h0, h1, h2]
  · by_cases h0 : f 0 = true <;> by_cases h1 : f 1 = true <;> by_cases h2 : f 2 = true <;> by_cases h3 : f 3 = true <;> simp [cb_cn, h0, h1, h2, h3]
