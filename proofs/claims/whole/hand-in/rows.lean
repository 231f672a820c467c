section
/-! rows pasted from kit/rows -/
theorem pk_us {f : Nat → Int32} {k : Nat} {x : Int32} : upd f k x k = x := if_pos rfl
theorem pk_un {f : Nat → Int32} {k j : Nat} {x : Int32} (h : j ≠ k) : upd f k x j = f j := if_neg h
theorem pk_sub {a b : Nat} (h : b ≤ a) : nI a - nI b = nI (a - b) := by
  obtain ⟨c, rfl⟩ : ∃ c, a = c + b := ⟨a - b, by omega⟩
  rw [← nI_add, Int32.add_sub_cancel, Nat.add_sub_cancel]
theorem pk_m1 (n : Nat) : nI (n + 1) + (-1) = nI n := by
  rw [← nI_1, Int32.add_assoc, show (1 : Int32) + (-1) = 0 from rfl, Int32.add_zero]
theorem pk_mul (a b : Nat) : nI a * nI b = nI (a * b) := (Int32.ofNat_mul a b).symm
theorem pk_div {a d : Nat} (ha : a < 2 ^ 31) (h0 : 0 < d) (hd : d < 2 ^ 31) : nI a / nI d = nI (a / d) := by
  apply Int32.toInt_inj.mp
  rw [lg_idiv_nonneg (by rw [nI_toInt ha]; omega) (by rw [nI_toInt hd]; omega), nI_toInt ha, nI_toInt hd, nI_toInt (Nat.lt_of_le_of_lt (Nat.div_le_self a d) ha)]
  first | rfl | exact (Int.natCast_ediv _ _).symm
theorem pk_rem {a d : Nat} (ha : a < 2 ^ 31) (h0 : 0 < d) (hd : d < 2 ^ 31) : nI a - nI a / nI d * nI d = nI (a % d) := by
  rw [pk_div ha h0 hd, pk_mul, pk_sub (Nat.div_mul_le_self a d)]
  exact congrArg nI (by have := Nat.div_add_mod' a d; omega)
theorem pk_le {x y : Int32} {A B : Prop} (a b : Nat) (f : a ≤ b → A) (g : b < a → B) (hx : x = nI a := by rfl) (hy : y = nI b := by rfl) (ha : a < 2 ^ 31 := by omega) (hb : b < 2 ^ 31 := by omega) : (x ≤ y → A) ∧ (¬ x ≤ y → B) := by
  subst hx hy
  rw [nI_leI ha hb]
  exact ⟨f, fun z => g (by omega)⟩
theorem pk_lt {x y : Int32} {A B : Prop} (a b : Nat) (f : a < b → A) (g : b ≤ a → B) (hx : x = nI a := by rfl) (hy : y = nI b := by rfl) (ha : a < 2 ^ 31 := by omega) (hb : b < 2 ^ 31 := by omega) : (x < y → A) ∧ (¬ x < y → B) := by
  subst hx hy
  rw [nI_ltI ha hb]
  exact ⟨f, fun z => g (by omega)⟩
theorem pk_eq {x y : Int32} {A B : Prop} (a b : Nat) (f : a = b → A) (g : a ≠ b → B) (hx : x = nI a := by rfl) (hy : y = nI b := by rfl) (ha : a < 2 ^ 31 := by omega) (hb : b < 2 ^ 31 := by omega) : (x = y → A) ∧ (¬ x = y → B) := by
  subst hx hy
  rw [nI_eq ha hb]
  exact ⟨f, g⟩
theorem pk_in {x : Int32} (n N : Nat) (h : n < N) (hx : x = nI n := by rfl) (hN : N < 2 ^ 31 := by omega) : vp_in x N := by
  subst hx
  exact vp_in_nI h hN
theorem pk_cl {x : Int32} (n : Nat) (hx : x = nI n := by rfl) (h : n < 2 ^ 31 := by omega) : x.toNatClampNeg = n := by
  subst hx
  exact nI_clamp h
theorem pk_tn {n : Nat} (h : n < 2 ^ 32) : (nI n).toBitVec.toNat = n := Nat.mod_eq_of_lt h
theorem pk_shl (a s : Int32) (k : Nat) (hs : (s.toBitVec.smod 32).toNat = k) : (a <<< s).toBitVec.toNat = a.toBitVec.toNat * 2 ^ k % 2 ^ 32 := by
  show (a.toBitVec <<< (s.toBitVec.smod 32).toNat).toNat = _
  rw [hs, BitVec.toNat_shiftLeft, Nat.shiftLeft_eq]
theorem pk_shlN {n : Nat} (s : Int32) (k : Nat) (hs : (s.toBitVec.smod 32).toNat = k) (h : n * 2 ^ k < 2 ^ 32) : nI n <<< s = nI (n * 2 ^ k) := by
  apply Int32.toBitVec_inj.mp
  apply BitVec.eq_of_toNat_eq
  have hn : n < 2 ^ 32 := Nat.lt_of_le_of_lt (Nat.le_mul_of_pos_right n (Nat.two_pow_pos k)) h
  rw [pk_shl _ _ k hs, pk_tn hn, pk_tn h, Nat.mod_eq_of_lt h]
theorem pk_shr (a s : Int32) (k : Nat) (hs : (s.toBitVec.smod 32).toNat = k) : (a >>> s).toInt = a.toInt >>> k := by
  show (a.toBitVec.sshiftRight (s.toBitVec.smod 32).toNat).toInt = _
  rw [hs, BitVec.toInt_sshiftRight]
  rfl
theorem pk_shrN {n : Nat} (h : n < 2 ^ 31) (s : Int32) (k : Nat) (hs : (s.toBitVec.smod 32).toNat = k) : nI n >>> s = nI (n / 2 ^ k) := by
  apply Int32.toInt_inj.mp
  have h2 : n / 2 ^ k ≤ n := Nat.div_le_self _ _
  rw [pk_shr _ _ k hs, nI_toInt h, nI_toInt (by omega), Int.shiftRight_eq_div_pow]
  rfl
def bt (x : Int32) (i : Nat) : Bool := x.toBitVec.getLsbD i
theorem b_ext {x y : Int32} (h : ∀ i, i < 32 → bt x i = bt y i) : x = y := Int32.toBitVec_inj.mp (BitVec.eq_of_getLsbD_eq (fun i hi => h i hi))
theorem b_or (x y : Int32) (i : Nat) : bt (x ||| y) i = (bt x i || bt y i) := by unfold bt; rw [Int32.toBitVec_or, BitVec.getLsbD_or]
theorem b_and (x y : Int32) (i : Nat) : bt (x &&& y) i = (bt x i && bt y i) := by unfold bt; rw [Int32.toBitVec_and, BitVec.getLsbD_and]
theorem b_xor (x y : Int32) (i : Nat) : bt (x ^^^ y) i = (bt x i ^^ bt y i) := by unfold bt; rw [Int32.toBitVec_xor, BitVec.getLsbD_xor]
theorem b_m1 : ∀ i, i < 32 → bt (-1) i = true := by decide +kernel
theorem s_l : ∀ n, n < 32 → ((nI n &&& 31).toBitVec.smod 32).toNat = n := by decide +kernel
theorem nx_and (a b : Nat) : nI a &&& nI b = nI (a &&& b) := by
  apply Int32.toBitVec_inj.1
  show BitVec.ofNat 32 a &&& BitVec.ofNat 32 b = BitVec.ofNat 32 (a &&& b)
  apply BitVec.eq_of_getLsbD_eq
  intro i hi
  simp [hi]
end
section
/-! counts, all, exists over n first naturals -/
def cb_cn (P : Nat → Bool) : Nat → Nat
  | 0 => 0
  | n + 1 => if P n then cb_cn P n + 1 else cb_cn P n
def cb_al (P : Nat → Bool) : Nat → Bool
  | 0 => true
  | n + 1 => cb_al P n && P n
def cb_ex (P : Nat → Bool) : Nat → Bool
  | 0 => false
  | n + 1 => cb_ex P n || P n
theorem cb_cn_t {P : Nat → Bool} {n : Nat} (h : P n = true) : cb_cn P (n + 1) = cb_cn P n + 1 := if_pos h
theorem cb_cn_f {P : Nat → Bool} {n : Nat} (h : ¬ P n = true) : cb_cn P (n + 1) = cb_cn P n := if_neg h
theorem cb_cn_le (P : Nat → Bool) (n : Nat) : cb_cn P n ≤ n := by
  induction n with
  | zero => exact Nat.le_refl _
  | succ n ih =>
    by_cases h : P n = true
    · rw [cb_cn_t h]; omega
    · rw [cb_cn_f h]; omega
theorem cb_cn_s (P : Nat → Bool) (n : Nat) : cb_cn P n ≤ cb_cn P (n + 1) := by
  by_cases h : P n = true
  · rw [cb_cn_t h]; omega
  · rw [cb_cn_f h]; omega
theorem cb_cn_mono (P : Nat → Bool) {m n : Nat} (h : m ≤ n) : cb_cn P m ≤ cb_cn P n := by
  induction n with
  | zero => have e : m = 0 := by omega
            rw [e]; exact Nat.le_refl _
  | succ n ih =>
    by_cases e : m = n + 1
    · rw [e]; exact Nat.le_refl _
    · exact Nat.le_trans (ih (by omega)) (cb_cn_s P n)
theorem cb_cn_lt (P : Nat → Bool) {x n : Nat} (h : x < n) (hx : P x = true) : cb_cn P x < cb_cn P n := by
  have h1 := cb_cn_mono P (show x + 1 ≤ n from h)
  rw [cb_cn_t hx] at h1
  omega
theorem cb_cn_uq (P : Nat → Bool) {x y : Nat} (hx : P x = true) (hy : P y = true) (e : cb_cn P x = cb_cn P y) : x = y := by
  rcases Nat.lt_trichotomy x y with h | h | h
  · have := cb_cn_lt P h hx; omega
  · exact h
  · have := cb_cn_lt P h hy; omega
theorem cb_cn_cg {P Q : Nat → Bool} {n : Nat} (h : ∀ x, x < n → P x = Q x) : cb_cn P n = cb_cn Q n := by
  induction n with
  | zero => rfl
  | succ n ih =>
    have e := ih (fun x hx => h x (by omega))
    have e2 := h n (by omega)
    show (if P n then cb_cn P n + 1 else cb_cn P n) = (if Q n then cb_cn Q n + 1 else cb_cn Q n)
    rw [e, e2]
theorem cb_cn_inv (P : Nat → Bool) {k n : Nat} (h : k < cb_cn P n) : ∃ x, x < n ∧ P x = true ∧ cb_cn P x = k := by
  induction n with
  | zero => exact absurd h (Nat.not_lt_zero _)
  | succ n ih =>
    by_cases hp : P n = true
    · rw [cb_cn_t hp] at h
      by_cases e : k = cb_cn P n
      · exact ⟨n, by omega, hp, e.symm⟩
      · obtain ⟨x, a, b, c⟩ := ih (by omega)
        exact ⟨x, by omega, b, c⟩
    · rw [cb_cn_f hp] at h
      obtain ⟨x, a, b, c⟩ := ih h
      exact ⟨x, by omega, b, c⟩
theorem cb_cn_sub {P Q : Nat → Bool} {n : Nat} (h : ∀ x, x < n → P x = true → Q x = true) : cb_cn P n ≤ cb_cn Q n := by
  induction n with
  | zero => exact Nat.le_refl _
  | succ n ih =>
    have e := ih (fun x hx => h x (by omega))
    by_cases hp : P n = true
    · rw [cb_cn_t hp, cb_cn_t (h n (by omega) hp)]; omega
    · rw [cb_cn_f hp]; exact Nat.le_trans e (cb_cn_s Q n)
theorem cb_cn_ssub {P Q : Nat → Bool} {n : Nat} (h : ∀ x, x < n → P x = true → Q x = true) (hx : ∃ x, x < n ∧ ¬ P x = true ∧ Q x = true) : cb_cn P n < cb_cn Q n := by
  induction n with
  | zero => obtain ⟨x, a, _⟩ := hx; omega
  | succ n ih =>
    obtain ⟨x, a, b, c⟩ := hx
    have h' : ∀ x, x < n → P x = true → Q x = true := fun x hx => h x (by omega)
    by_cases e : x = n
    · subst e
      rw [cb_cn_f b, cb_cn_t c]
      have := cb_cn_sub h'
      omega
    · have e2 := ih h' ⟨x, by omega, b, c⟩
      by_cases hp : P n = true
      · rw [cb_cn_t hp, cb_cn_t (h n (by omega) hp)]; omega
      · rw [cb_cn_f hp]; exact Nat.lt_of_lt_of_le e2 (cb_cn_s Q n)
theorem cb_cn_all {P : Nat → Bool} {n : Nat} (h : cb_cn P n = n) : ∀ x, x < n → P x = true := by
  induction n with
  | zero => intro x hx; omega
  | succ n ih =>
    have h1 := cb_cn_le P n
    by_cases hp : P n = true
    · rw [cb_cn_t hp] at h
      intro x hx
      by_cases e : x = n
      · rw [e]; exact hp
      · exact ih (by omega) x (by omega)
    · rw [cb_cn_f hp] at h; omega
theorem cb_al_iff (P : Nat → Bool) (n : Nat) : cb_al P n = true ↔ ∀ x, x < n → P x = true := by
  induction n with
  | zero => exact ⟨fun _ x hx => absurd hx (Nat.not_lt_zero _), fun _ => rfl⟩
  | succ n ih =>
    show (cb_al P n && P n) = true ↔ _
    rw [Bool.and_eq_true, ih]
    exact ⟨fun h x hx => if e : x = n then by rw [e]; exact h.2 else h.1 x (by omega), fun h => ⟨fun x hx => h x (by omega), h n (by omega)⟩⟩
theorem cb_ex_iff (P : Nat → Bool) (n : Nat) : cb_ex P n = true ↔ ∃ x, x < n ∧ P x = true := by
  induction n with
  | zero => exact ⟨fun h => Bool.noConfusion h, fun ⟨x, hx, _⟩ => absurd hx (Nat.not_lt_zero _)⟩
  | succ n ih =>
    show (cb_ex P n || P n) = true ↔ _
    rw [Bool.or_eq_true, ih]
    constructor
    · rintro (⟨x, a, b⟩ | h)
      · exact ⟨x, by omega, b⟩
      · exact ⟨n, by omega, h⟩
    · rintro ⟨x, a, b⟩
      by_cases e : x = n
      · exact Or.inr (e ▸ b)
      · exact Or.inl ⟨x, by omega, b⟩
/-! digits and answers -/
def cb_dg (D x i : Nat) : Nat := x / D ^ i % D
def cb_tm (L D x d : Nat) : Nat := cb_cn (fun i => cb_dg D x i == d) L
def cb_q (D g s i : Nat) : Bool := cb_dg D g i == cb_dg D s i
def cb_sm (D g s : Nat) (n : Nat) : Nat := cb_cn (cb_q D g s) n
def cb_mi (L D g s : Nat) : Nat → Nat
  | 0 => 0
  | d + 1 => cb_mi L D g s d + (if cb_tm L D s d ≤ cb_tm L D g d then cb_tm L D s d else cb_tm L D g d)
def cb_an (L D g s : Nat) : Nat := 10 * cb_sm D g s L + cb_mi L D g s D - cb_sm D g s L
def cb_ck (L D : Nat) : Bool := cb_al (fun g => cb_al (fun s => decide (cb_an L D g s < 45) && ((cb_an L D g s == 10 * L) == (g == s))) (D ^ L)) (D ^ L)
theorem cb_ck_1 : cb_al (fun l => cb_al (fun d => cb_ck (l + 1) (d + 1)) 2) 4 = true := by decide +kernel
theorem cb_ck_2 : cb_al (fun l => cb_ck (l + 1) 3) 3 = true := by decide +kernel
theorem cb_ck_3 : cb_ck 4 3 = true := by decide +kernel
theorem cb_ck_all {L D : Nat} (hL : 1 ≤ L) (hL4 : L ≤ 4) (hD : 1 ≤ D) (hD3 : D ≤ 3) : cb_ck L D = true := by
  by_cases h3 : D = 3
  · subst h3
    by_cases h4 : L = 4
    · subst h4; exact cb_ck_3
    · have h := (cb_al_iff _ _).mp cb_ck_2 (L - 1) (by omega)
      rw [show L - 1 + 1 = L from by omega] at h
      exact h
  · have h := (cb_al_iff _ _).mp ((cb_al_iff _ _).mp cb_ck_1 (L - 1) (by omega)) (D - 1) (by omega)
    rw [show L - 1 + 1 = L from by omega, show D - 1 + 1 = D from by omega] at h
    exact h
theorem cb_an_ck {L D : Nat} (hL : 1 ≤ L) (hL4 : L ≤ 4) (hD : 1 ≤ D) (hD3 : D ≤ 3) {g s : Nat} (hg : g < D ^ L) (hs : s < D ^ L) : cb_an L D g s < 45 ∧ (cb_an L D g s = 10 * L ↔ g = s) := by
  have h := (cb_al_iff _ _).mp ((cb_al_iff _ _).mp (cb_ck_all hL hL4 hD hD3) g hg) s hs
  rw [Bool.and_eq_true] at h
  refine ⟨of_decide_eq_true h.1, ?_⟩
  have h2 := eq_of_beq h.2
  rw [← beq_iff_eq (a := g), ← h2, beq_iff_eq]
theorem cb_pw {L D : Nat} (hL4 : L ≤ 4) (hD : 1 ≤ D) (hD3 : D ≤ 3) : 1 ≤ D ^ L ∧ D ^ L ≤ 81 := by
  have h : ∀ l, l < 5 → ∀ d, d < 3 → 1 ≤ (d + 1) ^ l ∧ (d + 1) ^ l ≤ 81 := by decide +kernel
  have h2 := h L (by omega) (D - 1) (by omega)
  rw [show D - 1 + 1 = D from by omega] at h2
  exact h2
theorem cb_rev {L : Nat} (hL4 : L ≤ 4) (f : Nat → Bool) : cb_cn (fun p => f (L - 1 - p)) L = cb_cn f L := by
  have h : L = 0 ∨ L = 1 ∨ L = 2 ∨ L = 3 ∨ L = 4 := by omega
  rcases h with rfl | rfl | rfl | rfl | rfl
  · rfl
  · rfl
  · by_cases h0 : f 0 = true <;> by_cases h1 : f 1 = true <;> simp [cb_cn, h0, h1]
  · by_cases h0 : f 0 = true <;> by_cases h1 : f 1 = true <;> by_cases h2 : f 2 = true <;> simp [cb_cn, h0, h1, h2]
  · by_cases h0 : f 0 = true <;> by_cases h1 : f 1 = true <;> by_cases h2 : f 2 = true <;> by_cases h3 : f 3 = true <;> simp [cb_cn, h0, h1, h2, h3]
end
section
/-! sets of naturals below 8, as numbers -/
theorem cb_btN (n : Nat) {i : Nat} (hi : i < 32) : bt (nI n) i = n.testBit i := by
  show (BitVec.ofNat 32 n).getLsbD i = n.testBit i
  rw [BitVec.getLsbD_ofNat]
  simp [hi]
theorem cb_or (a b : Nat) : nI a ||| nI b = nI (a ||| b) := by
  apply b_ext
  intro i hi
  rw [b_or, cb_btN _ hi, cb_btN _ hi, cb_btN _ hi, Nat.testBit_or]
theorem cb_anN (a b : Nat) : nI a &&& (nI b ^^^ (-1)) = nI (a ^^^ (a &&& b)) := by
  apply b_ext
  intro i hi
  rw [b_and, b_xor, b_m1 i hi, cb_btN _ hi, cb_btN _ hi, cb_btN _ hi, Nat.testBit_xor, Nat.testBit_and]
  cases a.testBit i <;> cases b.testBit i <;> rfl
theorem cb_shl {k : Nat} (hk : k < 31) : (1 : Int32) <<< (nI k &&& 31) = nI (2 ^ k) := by
  have h := pk_shlN (n := 1) (nI k &&& 31) k (s_l k (by omega)) (by
    have : 2 ^ k < 2 ^ 32 := Nat.pow_lt_pow_right (by decide) (by omega)
    omega)
  rw [Nat.one_mul] at h
  exact h
theorem cb_bit {s k : Nat} (hs : s < 256) (hk : k < 31) : (nI s >>> (nI k &&& 31)) &&& 1 = nI (s / 2 ^ k % 2) := by
  rw [pk_shrN (by omega) (nI k &&& 31) k (s_l k (by omega))]
  show nI (s / 2 ^ k) &&& nI 1 = _
  rw [nx_and, Nat.and_one_is_mod]
theorem cb_bit1 {s k : Nat} (hs : s < 256) (hk : k < 31) : (nI s >>> (nI k &&& 31)) &&& 1 = 1 ↔ s.testBit k = true := by
  rw [cb_bit hs hk, Nat.testBit_eq_decide_div_mod_eq, decide_eq_true_iff]
  show nI _ = nI 1 ↔ _
  rw [nI_eq (by omega) (by omega)]
theorem cb_bit0 {s k : Nat} (hs : s < 256) (hk : k < 31) : (nI s >>> (nI k &&& 31)) &&& 1 = 0 ↔ ¬ s.testBit k = true := by
  rw [cb_bit hs hk, Nat.testBit_eq_decide_div_mod_eq, decide_eq_true_iff]
  show nI _ = nI 0 ↔ _
  rw [nI_eq (by omega) (by omega)]
  omega
/-- the set of the k below n with f k -/
def cb_mk (f : Nat → Bool) : Nat → Nat
  | 0 => 0
  | n + 1 => if f n then cb_mk f n ||| 2 ^ n else cb_mk f n
theorem cb_mk_t {f : Nat → Bool} {n : Nat} (h : f n = true) : cb_mk f (n + 1) = cb_mk f n ||| 2 ^ n := if_pos h
theorem cb_mk_f {f : Nat → Bool} {n : Nat} (h : ¬ f n = true) : cb_mk f (n + 1) = cb_mk f n := if_neg h
theorem cb_mk_bit (f : Nat → Bool) (n k : Nat) : (cb_mk f n).testBit k = (decide (k < n) && f k) := by
  induction n with
  | zero => simp [cb_mk]
  | succ n ih =>
    by_cases h : f n = true
    · rw [cb_mk_t h, Nat.testBit_or, ih, Nat.testBit_two_pow]
      by_cases e : n = k
      · subst e; simp [h]
      · have : decide (k < n) = decide (k < n + 1) := decide_eq_decide.mpr (by omega)
        simp [e, this]
    · rw [cb_mk_f h, ih]
      by_cases e : n = k
      · subst e
        have h' : f n = false := Bool.eq_false_iff.mpr h
        rw [h', Bool.and_false, Bool.and_false]
      · have : decide (k < n) = decide (k < n + 1) := decide_eq_decide.mpr (by omega)
        rw [this]
theorem cb_mk_lt (f : Nat → Bool) (n : Nat) : cb_mk f n < 2 ^ n := by
  apply Nat.lt_pow_two_of_testBit
  intro i hi
  rw [cb_mk_bit, decide_eq_false (by omega), Bool.false_and]
theorem cb_bit_lt {s M k : Nat} (hs : s < 2 ^ M) (h : s.testBit k = true) : k < M := by
  rcases Nat.lt_or_ge k M with h1 | h1
  · exact h1
  · rw [Nat.testBit_lt_two_pow (Nat.lt_of_lt_of_le hs (Nat.pow_le_pow_right (by decide) h1))] at h
    exact absurd h (by decide)
theorem cb_p8 {M : Nat} (h : M ≤ 8) : 2 ^ M ≤ 256 := Nat.pow_le_pow_right (n := 2) (by decide) h
theorem cb_full {M k : Nat} : (2 ^ M - 1).testBit k = decide (k < M) := Nat.testBit_two_pow_sub_one M k
theorem cb_nz {s M : Nat} (hs : s < 2 ^ M) (h : s ≠ 0) : ∃ k, k < M ∧ s.testBit k = true := by
  obtain ⟨k, hk⟩ := Nat.exists_testBit_of_ne_zero h
  exact ⟨k, cb_bit_lt hs hk, hk⟩
end
section
/-! the class: its tables, its answers, its possible codes -/
def cb_Sz (L D C : Nat) : Prop := 1 ≤ L ∧ L ≤ 4 ∧ 1 ≤ D ∧ D ≤ 3 ∧ C = D ^ L ∧ 1 ≤ C ∧ C ≤ 81
def cb_St (L D C : Nat) (da ta : Nat → Int32) : Prop := (∀ x p, x < C → p < L → da (x * 4 + p) = nI (cb_dg D x (L - 1 - p))) ∧ (∀ x d, x < C → d < D → ta (x * 3 + d) = nI (cb_tm L D x d))
def cb_ft (L D T : Nat) (ga aa : Nat → Int32) (e : Int32) (x : Nat) : Bool := cb_al (fun i => decide (nI i = e) || decide (nI (cb_an L D (ga i).toNatClampNeg x) = aa i)) T
def cb_To (C T : Nat) (ga : Nat → Int32) : Prop := T ≤ 8 ∧ ∀ i, i < T → ∃ q, q < C ∧ ga i = nI q
def cb_Po (n : Nat) (P : Nat → Bool) (pc ip : Nat → Int32) : Prop := (∀ y, y < n → P y = true → pc (cb_cn P y) = nI y) ∧ (∀ y, y < n → ip y = if P y = true then 1 else 0)
theorem cb_i3 (a b : Nat) : nI a * 3 + nI b = nI (a * 3 + b) := by
  show nI a * nI 3 + nI b = _
  rw [pk_mul, nI_add]
theorem cb_i4 (a b : Nat) : nI a * 4 + nI b = nI (a * 4 + b) := by
  show nI a * nI 4 + nI b = _
  rw [pk_mul, nI_add]
theorem cb_i8 (a b : Nat) : nI a * 8 + nI b = nI (a * 8 + b) := by
  show nI a * nI 8 + nI b = _
  rw [pk_mul, nI_add]
theorem cb_i10 (a b : Nat) : 10 * nI a + nI b = nI (10 * a + b) := by
  show nI 10 * nI a + nI b = _
  rw [pk_mul, nI_add]
theorem cb_tm_le (L D x d : Nat) : cb_tm L D x d ≤ L := cb_cn_le _ _
theorem cb_anI (m a : Nat) : 10 * nI m + (nI a - nI m) = nI (10 * m + a - m) := by
  rw [← pk_sub (by omega), ← cb_i10]
  grind
theorem cb_pow {b e : Nat} {post : Int32 → Prop} (he : e < 2 ^ 31) (hp : post (nI (b ^ e))) : ∀ d i, i + d = e → wX_power_4 post (nI b) (nI e) (d + 1) (nI (b ^ i)) (nI i) := by
  intro d
  induction d with
  | zero =>
    intro i hi
    have e1 : i = e := by omega
    subst e1
    exact br_t (nI_le (Nat.le_refl _) he) hp
  | succ d ih =>
    intro i hi
    exact br_f (nI_ge (by omega) he) (nm_r ((pk_mul _ _).trans (congrArg nI (Nat.pow_succ (n := b) (m := i)).symm)) (nm_r (nI_1 _) (ih (i + 1) (by omega))))
section
variable {fl fd fc ft fp : Int32} {da ta tg tA pc ip ps re sc ns : Nat → Int32}
theorem cb_xa54 {L D C g s m : Nat} {post : Int32 → Prop} (hz : cb_Sz L D C) (hs : cb_St L D C da ta) (hg : g < C) (hh : s < C) (hp : post (10 * nI m + (nI (cb_mi L D g s D) - nI m))) : ∀ e d, d + e = D → wX_answerTo_54 post (nI g) (nI s) (nI m) (nI L) (nI D) fc ft fp da ta tg tA pc ip ps re sc ns (e + 1) (nI (cb_mi L D g s d)) (nI d) := by
  obtain ⟨h1, h2, h3, h4, h5, h6, h7⟩ := hz
  intro e
  induction e with
  | zero =>
    intro d hd
    have e1 : d = D := by omega
    subst e1
    exact br_t (nI_le (Nat.le_refl _) (by omega)) hp
  | succ e ih =>
    intro d hd
    have t1 := cb_tm_le L D g d
    have t2 := cb_tm_le L D s d
    refine br_f (nI_ge (by omega) (by omega)) ⟨pk_in _ 243 (by omega) (cb_i3 g d), nm_r (e' := nI (cb_tm L D g d)) ?_ ⟨pk_in _ 243 (by omega) (cb_i3 s d), nm_r (e' := nI (cb_tm L D s d)) ?_ ?_⟩⟩
    · rw [cb_i3, nI_clamp (by omega)]; exact hs.2 g d hg (by omega)
    · rw [cb_i3, nI_clamp (by omega)]; exact hs.2 s d hh (by omega)
    · refine pk_le (cb_tm L D s d) (cb_tm L D g d) (fun h => nm_r (nI_add _ _) (nm_r (nI_1 _) ?_)) (fun h => nm_r (nI_add _ _) (nm_r (nI_1 _) ?_))
      · have e1 : cb_mi L D g s (d + 1) = cb_mi L D g s d + cb_tm L D s d := by
          show cb_mi L D g s d + (if _ then _ else _) = _
          rw [if_pos h]
        rw [← e1]
        exact ih (d + 1) (by omega)
      · have e1 : cb_mi L D g s (d + 1) = cb_mi L D g s d + cb_tm L D g d := by
          show cb_mi L D g s d + (if _ then _ else _) = _
          rw [if_neg (by omega)]
        rw [← e1]
        exact ih (d + 1) (by omega)
theorem cb_xa5 {L D C g s : Nat} {post : Int32 → Prop} (hz : cb_Sz L D C) (hs : cb_St L D C da ta) (hg : g < C) (hh : s < C) (hp : post (nI (cb_an L D g s))) : ∀ e p, p + e = L → wX_answerTo_5 post (nI g) (nI s) (nI L) (nI D) fc ft fp da ta tg tA pc ip ps re sc ns (e + 1) (nI (cb_cn (fun p => cb_q D g s (L - 1 - p)) p)) (nI p) := by
  have hz' := hz
  obtain ⟨h1, h2, h3, h4, h5, h6, h7⟩ := hz
  intro e
  induction e with
  | zero =>
    intro p hd
    have e1 : p = L := by omega
    subst e1
    rw [cb_rev h2 (cb_q D g s)]
    refine br_t (nI_le (Nat.le_refl _) (by omega)) ⟨D + 1, ?_⟩
    refine cb_xa54 hz' hs hg hh ?_ D 0 (by omega)
    rw [cb_anI]
    exact hp
  | succ e ih =>
    intro p hd
    refine br_f (nI_ge (by omega) (by omega)) ⟨pk_in _ 324 (by omega) (cb_i4 g p), pk_in _ 324 (by omega) (cb_i4 s p), ?_⟩
    rw [cb_i4, cb_i4, nI_clamp (by omega), nI_clamp (by omega), hs.1 g p hg (by omega), hs.1 s p hh (by omega)]
    have b1 : cb_dg D g (L - 1 - p) < D := Nat.mod_lt _ (by omega)
    have b2 : cb_dg D s (L - 1 - p) < D := Nat.mod_lt _ (by omega)
    refine pk_eq (cb_dg D g (L - 1 - p)) (cb_dg D s (L - 1 - p)) (fun h => nm_r (nI_1 _) (nm_r (nI_1 _) ?_)) (fun h => nm_r (nI_1 _) ?_)
    · rw [← cb_cn_t (P := fun p => cb_q D g s (L - 1 - p)) (n := p) (by simp [cb_q, h])]
      exact ih (p + 1) (by omega)
    · rw [← cb_cn_f (P := fun p => cb_q D g s (L - 1 - p)) (n := p) (by simp [cb_q, h])]
      exact ih (p + 1) (by omega)
theorem cb_xans {L D C g s : Nat} {post : Int32 → Prop} (hz : cb_Sz L D C) (hs : cb_St L D C da ta) (hg : g < C) (hh : s < C) (hp : post (nI (cb_an L D g s))) : wpX_answerTo post (nI L, nI D, fc, ft, fp, da, ta, tg, tA, pc, ip, ps, re, sc, ns) (nI g) (nI s) :=
  ⟨L + 1, cb_xa5 hz hs hg hh hp L 0 (by omega)⟩
theorem cb_xfits {L D C T x r : Nat} {post : Int32 → Prop} (hz : cb_Sz L D C) (hs : cb_St L D C da ta) (ht : cb_To C T tg) (hx : x < C) (hr : r < T) (ha : nI (cb_an L D (tg r).toNatClampNeg x) = tA r → post 1) (hb : ¬ nI (cb_an L D (tg r).toNatClampNeg x) = tA r → post 0) : wpX_fits post (nI L, nI D, fc, nI T, fp, da, ta, tg, tA, pc, ip, ps, re, sc, ns) (nI x) (nI r) := by
  obtain ⟨q, hq, eq⟩ := ht.2 r hr
  have h7 := hz.2.2.2.2.2.2
  have h8 := ht.1
  have er : (nI r).toNatClampNeg = r := nI_clamp (by omega)
  have eq2 : (tg r).toNatClampNeg = q := by rw [eq]; exact nI_clamp (by omega)
  rw [eq2] at ha hb
  refine ⟨pk_in r 8 (by omega), ?_⟩
  rw [er, eq]
  exact cb_xans hz hs hq hx ⟨pk_in r 8 (by omega), br_c ha hb⟩
theorem cb_xf2 {L D C T x : Nat} {e : Int32} {post : Int32 → Prop} (hz : cb_Sz L D C) (hs : cb_St L D C da ta) (ht : cb_To C T tg) (hx : x < C) (hp : post (if cb_ft L D T tg tA e x = true then 1 else 0)) : ∀ d i, i + d = T → (∀ j, j < i → (decide (nI j = e) || decide (nI (cb_an L D (tg j).toNatClampNeg x) = tA j)) = true) → wX_fitsAllBut_2 post (nI x) e (nI L) (nI D) fc (nI T) fp da ta tg tA pc ip ps re sc ns (d + 1) (nI i) := by
  have h8 := ht.1
  intro d
  induction d with
  | zero =>
    intro i hi hj
    have e1 : i = T := by omega
    subst e1
    have hc : cb_ft L D i tg tA e x = true := (cb_al_iff _ _).mpr hj
    rw [if_pos hc] at hp
    exact br_t (nI_le (Nat.le_refl _) (by omega)) hp
  | succ d ih =>
    intro i hi hj
    refine br_f (nI_ge (by omega) (by omega)) (br_c (fun h => nm_r (nI_1 _) (ih (i + 1) (by omega) ?_)) (fun h => cb_xfits hz hs ht hx (show i < T by omega) (fun h2 => br_f (by decide) (nm_r (nI_1 _) (ih (i + 1) (by omega) ?_))) (fun h2 => br_t rfl ?_)))
    · intro j hj2
      by_cases e1 : j = i
      · subst e1; simp [h]
      · exact hj j (by omega)
    · intro j hj2
      by_cases e1 : j = i
      · subst e1; simp [h2]
      · exact hj j (by omega)
    · have hf : ¬ cb_ft L D T tg tA e x = true := by
        intro hc
        have := (cb_al_iff _ _).mp hc i (by omega)
        simp [h, h2] at this
      rw [if_neg hf] at hp
      exact hp
theorem cb_xfab {L D C T x : Nat} {e : Int32} {post : Int32 → Prop} (hz : cb_Sz L D C) (hs : cb_St L D C da ta) (ht : cb_To C T tg) (hx : x < C) (hp : post (if cb_ft L D T tg tA e x = true then 1 else 0)) : wpX_fitsAllBut post (nI L, nI D, fc, nI T, fp, da, ta, tg, tA, pc, ip, ps, re, sc, ns) (nI x) e :=
  ⟨T + 1, cb_xf2 hz hs ht hx hp T 0 (by omega) (fun j hj => absurd hj (Nat.not_lt_zero _))⟩
theorem cb_nb0 : vp_nar .boolean 0 = 0 := by decide
theorem cb_nb1 : vp_nar .boolean 1 = 1 := by decide
theorem cb_xfp7 {L D C T : Nat} {P : Nat → Bool} {post : SX → Prop} (hz : cb_Sz L D C) (hs : cb_St L D C da ta) (ht : cb_To C T tg) (hP : P = cb_ft L D T tg tA 8) (hp : ∀ pc ip, cb_Po C P pc ip → post (nI L, nI D, nI C, nI T, nI (cb_cn P C), da, ta, tg, tA, pc, ip, ps, re, sc, ns)) : ∀ d x pc ip, x + d = C → cb_Po x P pc ip → wX_findPossible_7 post (nI L) (nI D) (nI C) (nI T) (d + 1) (nI x) (nI (cb_cn P x)) da ta tg tA pc ip ps re sc ns := by
  have h7 := hz.2.2.2.2.2.2
  intro d
  induction d with
  | zero =>
    intro x pc ip hx hi
    have e1 : x = C := by omega
    subst e1
    exact br_t (nI_le (Nat.le_refl _) (by omega)) (hp pc ip hi)
  | succ d ih =>
    intro x pc ip hx hi
    have ex : (nI x).toNatClampNeg = x := nI_clamp (by omega)
    have c1 := cb_cn_le P x
    have ec : (nI (cb_cn P x)).toNatClampNeg = cb_cn P x := nI_clamp (by omega)
    refine br_f (nI_ge (by omega) (by omega)) (cb_xfab hz hs ht (show x < C by omega) ?_)
    rw [← hP, ex]
    by_cases hq : P x = true
    · rw [if_pos hq, cb_nb1]
      refine ⟨pk_in x 81 (by omega), nm_e ⟨pk_in x 81 (by omega), br_f ?_ ⟨pk_in (cb_cn P x) 81 (by omega), ?_⟩⟩⟩
      · rw [pk_us]; decide
      rw [ec]
      refine nm_e (nm_r (nI_1 _) (nm_r (nI_1 _) ?_))
      rw [← cb_cn_t hq]
      refine ih (x + 1) _ _ (by omega) ⟨?_, ?_⟩
      · intro y hy hy2
        by_cases e1 : y = x
        · subst e1; exact pk_us
        · rw [pk_un (by have := cb_cn_lt P (show y < x by omega) hy2; omega)]; exact hi.1 y (by omega) hy2
      · intro y hy
        by_cases e1 : y = x
        · subst e1; rw [if_pos hq]; exact pk_us
        · rw [pk_un e1]; exact hi.2 y (by omega)
    · rw [if_neg hq, cb_nb0]
      refine ⟨pk_in x 81 (by omega), nm_e ⟨pk_in x 81 (by omega), br_t pk_us (nm_r (nI_1 _) ?_)⟩⟩
      rw [← cb_cn_f hq]
      refine ih (x + 1) _ _ (by omega) ⟨?_, ?_⟩
      · intro y hy hy2
        by_cases e1 : y = x
        · subst e1; exact absurd hy2 hq
        · exact hi.1 y (by omega) hy2
      · intro y hy
        by_cases e1 : y = x
        · subst e1; rw [if_neg hq]; exact pk_us
        · rw [pk_un e1]; exact hi.2 y (by omega)
theorem cb_xfp {L D C T : Nat} {P : Nat → Bool} {post : SX → Prop} (hz : cb_Sz L D C) (hs : cb_St L D C da ta) (ht : cb_To C T tg) (hP : P = cb_ft L D T tg tA 8) (hp : ∀ pc ip, cb_Po C P pc ip → post (nI L, nI D, nI C, nI T, nI (cb_cn P C), da, ta, tg, tA, pc, ip, ps, re, sc, ns)) : wpX_findPossible post (nI L, nI D, nI C, nI T, fp, da, ta, tg, tA, pc, ip, ps, re, sc, ns) :=
  ⟨C + 1, cb_xfp7 hz hs ht hP hp C 0 pc ip (by omega) ⟨fun y hy => absurd hy (Nat.not_lt_zero _), fun y hy => absurd hy (Nat.not_lt_zero _)⟩⟩
end
end
section
/-! the class: its making -/
abbrev cb_J10 : Type := Int32 → (Nat → Int32) → (Nat → Int32) → (Nat → Int32) → (Nat → Int32) → (Nat → Int32) → (Nat → Int32) → (Nat → Int32) → (Nat → Int32) → (Nat → Int32) → (Nat → Int32) → Prop
def cb_Wi (L D x j : Nat) (da ta : Nat → Int32) : Prop := cb_St L D x da ta ∧ (∀ i, i < j → da (x * 4 + (L - 1 - i)) = nI (cb_dg D x i)) ∧ (∀ d, d < D → ta (x * 3 + d) = nI (cb_cn (fun i => cb_dg D x i == d) j)) ∧ ∀ m, (x + 1) * 3 ≤ m → ta m = 0
def cb_Cl (p : Int32) (n l : Nat) : Prop := 1 ≤ l ∧ l ≤ n ∧ ((1 ≤ p ∧ p ≤ nI n ∧ p = nI l) ∨ (1 ≤ p ∧ ¬ p ≤ nI n ∧ l = n) ∨ (¬ 1 ≤ p ∧ l = 1))
theorem cb_Cl_ex (p : Int32) {n : Nat} (h1 : 1 ≤ n) (hn : n < 100) : ∃ l, cb_Cl p n l := by
  by_cases a : (1 : Int32) ≤ p
  · by_cases b : p ≤ nI n
    · have h0 : ¬ p < 0 := by
        intro c
        have := Int32.lt_of_lt_of_le c (Int32.le_trans (show (0 : Int32) ≤ 1 by decide) a)
        exact Int32.lt_irrefl this
      obtain ⟨j, hj, e⟩ := nI_of h0
      have a2 : nI 1 ≤ nI j := e ▸ a
      have b2 : nI j ≤ nI n := e ▸ b
      rw [nI_leI (by omega) hj] at a2
      rw [nI_leI hj (by omega)] at b2
      exact ⟨j, a2, b2, Or.inl ⟨a, b, e⟩⟩
    · exact ⟨n, h1, Nat.le_refl _, Or.inr (Or.inl ⟨a, b, rfl⟩)⟩
  · exact ⟨1, Nat.le_refl _, h1, Or.inr (Or.inr ⟨a, rfl⟩)⟩
theorem cb_xcl {p : Int32} {n l : Nat} {post : Int32 → Prop} (h : cb_Cl p n l) (hp : post (nI l)) : wpX_clamp post p (nI n) := by
  obtain ⟨_, _, ⟨a, b, e⟩ | ⟨a, b, e⟩ | ⟨a, e⟩⟩ := h
  · rw [e] at a b ⊢; exact br_t a (br_t b hp)
  · subst e; exact br_t a (br_f b hp)
  · subst e; exact br_f a hp
section
variable {fl fd fc ft fp : Int32} {da ta tg tA pc ip ps re sc ns : Nat → Int32}
theorem cb_xw19 {L D C x : Nat} {post : SX → Prop} {J2 : cb_J10} (hz : cb_Sz L D C) (hx : x < C) (hJ : ∀ da ta, cb_Wi L D x L da ta → J2 (nI (x + 1)) da ta tg tA pc ip ps re sc ns) : ∀ i j da ta, j + i = L → cb_Wi L D x j da ta → wX_writeDigits_19 post J2 (nI x) (nI L) (nI D) fc ft fp (i + 1) (nI (x / D ^ j)) (nI i + (-1)) da ta tg tA pc ip ps re sc ns := by
  obtain ⟨h1, h2, h3, h4, h5, h6, h7⟩ := hz
  intro i
  induction i with
  | zero =>
    intro j da ta hj hi
    have e1 : j = L := by omega
    subst e1
    exact br_t (by decide) (nm_r (nI_1 _) (hJ da ta hi))
  | succ i ih =>
    intro j da ta hj hi
    rw [pk_m1]
    have hd0 : ¬ nI D = 0 := nI_ne0 (by omega) (by omega)
    have hq : x / D ^ j ≤ x := Nat.div_le_self _ _
    have hdg : cb_dg D x j < D := Nat.mod_lt _ (by omega)
    obtain ⟨i1, i2, i3, i4⟩ := hi
    refine br_f (nI_pos (by omega)) ⟨hd0, nm_r (e' := nI (cb_dg D x j)) (pk_rem (by omega) (by omega) (by omega)) ⟨hd0, nm_r (e' := nI (x / D ^ (j + 1))) ?_ ⟨pk_in (x * 4 + i) 324 (by omega) (cb_i4 x i), nm_r (e' := upd da (x * 4 + i) (nI (cb_dg D x j))) ?_ ⟨pk_in (x * 3 + cb_dg D x j) 243 (by omega) (cb_i3 _ _), pk_in (x * 3 + cb_dg D x j) 243 (by omega) (cb_i3 _ _), nm_r (e' := upd ta (x * 3 + cb_dg D x j) (nI (cb_cn (fun i => cb_dg D x i == cb_dg D x j) j + 1))) ?_ (nm_e (ih (j + 1) _ _ (by omega) ?_))⟩⟩⟩⟩
    · rw [pk_div (by omega) (by omega) (by omega), Nat.div_div_eq_div_mul, Nat.pow_succ]
    · rw [cb_i4, nI_clamp (by omega)]
    · rw [cb_i3, nI_clamp (by omega), i3 _ hdg, nI_1]
    · refine ⟨⟨?_, ?_⟩, ?_, ?_, ?_⟩
      · intro y p hy hp
        rw [pk_un (by omega)]; exact i1.1 y p hy hp
      · intro y d hy hd
        rw [pk_un (by omega)]; exact i1.2 y d hy hd
      · intro k hk
        by_cases e1 : k = j
        · subst e1
          rw [show L - 1 - k = i by omega]; exact pk_us
        · rw [pk_un (by omega)]; exact i2 k (by omega)
      · intro d hd
        by_cases e1 : d = cb_dg D x j
        · subst e1
          rw [pk_us, cb_cn_t (P := fun i => cb_dg D x i == cb_dg D x j) (n := j) (by simp)]
        · rw [pk_un (by omega), cb_cn_f (P := fun i => cb_dg D x i == d) (n := j) (by simp; omega)]
          exact i3 d hd
      · intro m hm
        rw [pk_un (by omega)]; exact i4 m hm
theorem cb_xw2 {L D C : Nat} {post : SX → Prop} (hz : cb_Sz L D C) (hp : ∀ da ta, cb_St L D C da ta → post (nI L, nI D, nI C, ft, fp, da, ta, tg, tA, pc, ip, ps, re, sc, ns)) : ∀ d x da ta, x + d = C → cb_St L D x da ta → (∀ m, x * 3 ≤ m → ta m = 0) → wX_writeDigits_2 post (nI L) (nI D) (nI C) ft fp (d + 1) (nI x) da ta tg tA pc ip ps re sc ns := by
  have hz' := hz
  obtain ⟨h1, h2, h3, h4, h5, h6, h7⟩ := hz
  intro d
  induction d with
  | zero =>
    intro x da ta hx hs h0
    have e1 : x = C := by omega
    subst e1
    exact br_t (nI_le (Nat.le_refl _) (by omega)) (hp da ta hs)
  | succ d ih =>
    intro x da ta hx hs h0
    refine br_f (nI_ge (by omega) (by omega)) (nm_r (e' := nI L + (-1)) (Int32.sub_eq_add_neg _ _) ⟨L + 1, ?_⟩)
    have h := cb_xw19 (post := post) (J2 := wX_writeDigits_2 post (nI L) (nI D) (nI C) ft fp (d + 1)) (fc := nI C) (ft := ft) (fp := fp) (tg := tg) (tA := tA) (pc := pc) (ip := ip) (ps := ps) (re := re) (sc := sc) (ns := ns) hz' (show x < C by omega) (fun da ta hi => ih (x + 1) da ta (by omega) ?_ (fun m hm => hi.2.2.2 m hm)) L 0 da ta (by omega) ?_
    · rw [Nat.pow_zero, Nat.div_one] at h
      exact h
    · obtain ⟨i1, i2, i3, i4⟩ := hi
      refine ⟨?_, ?_⟩
      · intro y p hy hp2
        by_cases e1 : y = x
        · subst e1
          have := i2 (L - 1 - p) (by omega)
          rw [show L - 1 - (L - 1 - p) = p by omega] at this
          exact this
        · exact i1.1 y p (by omega) hp2
      · intro y d hy hd
        by_cases e1 : y = x
        · subst e1; exact i3 d hd
        · exact i1.2 y d (by omega) hd
    · refine ⟨hs, fun i hi => absurd hi (Nat.not_lt_zero _), ?_, ?_⟩
      · intro d hd
        exact h0 _ (by omega)
      · intro m hm
        exact h0 m (by omega)
end
theorem cb_Sz_of {k0 k1 : Int32} {L D : Nat} (h0 : cb_Cl k0 4 L) (h1 : cb_Cl k1 3 D) : cb_Sz L D (D ^ L) := by
  obtain ⟨a, b⟩ := cb_pw h0.2.1 h1.1 h1.2.1
  exact ⟨h0.1, h0.2.1, h1.1, h1.2.1, rfl, a, b⟩
theorem cb_xinit {post : SX → Prop} {k0 k1 : Int32} {L D : Nat} (h0 : cb_Cl k0 4 L) (h1 : cb_Cl k1 3 D) (hp : ∀ da ta pc ip, cb_St L D (D ^ L) da ta → cb_Po (D ^ L) (cb_ft L D 0 (fun _ => 0) (fun _ => 0) 8) pc ip → post (nI L, nI D, nI (D ^ L), nI 0, nI (cb_cn (cb_ft L D 0 (fun _ => 0) (fun _ => 0) 8) (D ^ L)), da, ta, (fun _ => 0), (fun _ => 0), pc, ip, (fun _ => 0), (fun _ => 0), (fun _ => 0), (fun _ => 0))) : wpX_init post k0 k1 := by
  have hz := cb_Sz_of h0 h1
  have hL := h0.2.1
  unfold wpX_init
  refine cb_xcl h0 (cb_xcl h1 ⟨L + 1, cb_pow (by omega) ?_ L 0 (by omega)⟩)
  refine ⟨D ^ L + 1, cb_xw2 hz (fun da ta hs => ?_) (D ^ L) 0 _ _ (by omega) ⟨fun y p hy => absurd hy (Nat.not_lt_zero _), fun y p hy => absurd hy (Nat.not_lt_zero _)⟩ (fun _ _ => rfl)⟩
  exact cb_xfp (T := 0) hz hs ⟨by omega, fun i hi => absurd hi (Nat.not_lt_zero _)⟩ rfl (fun pc ip hi => hp da ta pc ip hs hi)
end
section
/-! the reference: its table, its possible codes -/
def cb_Sy (L D C : Nat) (yt : Nat → Int32) : Prop := ∀ g s, g < C → s < C → yt (81 * g + s) = nI (cb_an L D g s)
abbrev cb_J6 : Type := Int32 → (Nat → Int32) → (Nat → Int32) → (Nat → Int32) → (Nat → Int32) → (Nat → Int32) → (Nat → Int32) → Prop
theorem cb_i81 (a b : Nat) : 81 * nI a + nI b = nI (81 * a + b) := by
  show nI 81 * nI a + nI b = _
  rw [pk_mul, nI_add]
section
variable {yl yd yc yr yf : Int32} {yg ya yw ye yz yt : Nat → Int32}
theorem cb_yd5 {L D C x i : Nat} {post : Int32 → Prop} (hz : cb_Sz L D C) (hx : x < C) (hi : i ≤ L) (hp : post (nI (cb_dg D x i))) : ∀ e k, k + e = i → wY_digitOf_5 post (nI i) yl (nI D) yc yr yf yg ya yw ye yz yt (e + 1) (nI (x / D ^ k)) (nI k) := by
  obtain ⟨h1, h2, h3, h4, h5, h6, h7⟩ := hz
  have hd0 : ¬ nI D = 0 := nI_ne0 (by omega) (by omega)
  intro e
  induction e with
  | zero =>
    intro k hk
    have e1 : k = i := by omega
    subst e1
    have hq : x / D ^ k ≤ x := Nat.div_le_self _ _
    refine br_t (nI_le (Nat.le_refl _) (by omega)) ⟨hd0, ?_⟩
    rw [pk_rem (by omega) (by omega) (by omega)]
    exact hp
  | succ e ih =>
    intro k hk
    have hq : x / D ^ k ≤ x := Nat.div_le_self _ _
    refine br_f (nI_ge (by omega) (by omega)) ⟨hd0, nm_r (e' := nI (x / D ^ (k + 1))) ?_ (nm_r (nI_1 _) (ih (k + 1) (by omega)))⟩
    rw [pk_div (by omega) (by omega) (by omega), Nat.div_div_eq_div_mul, Nat.pow_succ]
theorem cb_ydg {L D C x i : Nat} {post : Int32 → Prop} (hz : cb_Sz L D C) (hx : x < C) (hi : i ≤ L) (hp : post (nI (cb_dg D x i))) : wpY_digitOf post (yl, nI D, yc, yr, yf, yg, ya, yw, ye, yz, yt) (nI x) (nI i) := by
  have h := cb_yd5 (yl := yl) (yc := yc) (yr := yr) (yf := yf) (yg := yg) (ya := ya) (yw := yw) (ye := ye) (yz := yz) (yt := yt) hz hx hi hp i 0 (by omega)
  rw [Nat.pow_zero, Nat.div_one] at h
  exact ⟨i + 1, h⟩
theorem cb_ytm5 {L D C x d : Nat} {post : Int32 → Prop} (hz : cb_Sz L D C) (hx : x < C) (hd : d < D) (hp : post (nI (cb_tm L D x d))) : ∀ e k, k + e = L → wY_times_5 post (nI x) (nI d) (nI L) (nI D) yc yr yf yg ya yw ye yz yt (e + 1) (nI (cb_cn (fun i => cb_dg D x i == d) k)) (nI k) := by
  have hz' := hz
  obtain ⟨h1, h2, h3, h4, h5, h6, h7⟩ := hz
  intro e
  induction e with
  | zero =>
    intro k hk
    have e1 : k = L := by omega
    subst e1
    exact br_t (nI_le (Nat.le_refl _) (by omega)) hp
  | succ e ih =>
    intro k hk
    have b1 : cb_dg D x k < D := Nat.mod_lt _ (by omega)
    refine br_f (nI_ge (by omega) (by omega)) (cb_ydg hz' hx (by omega) (pk_eq (cb_dg D x k) d (fun h => nm_r (nI_1 _) (nm_r (nI_1 _) ?_)) (fun h => nm_r (nI_1 _) ?_)))
    · rw [← cb_cn_t (P := fun i => cb_dg D x i == d) (n := k) (by simp [h])]
      exact ih (k + 1) (by omega)
    · rw [← cb_cn_f (P := fun i => cb_dg D x i == d) (n := k) (by simp [h])]
      exact ih (k + 1) (by omega)
theorem cb_ytm {L D C x d : Nat} {post : Int32 → Prop} (hz : cb_Sz L D C) (hx : x < C) (hd : d < D) (hp : post (nI (cb_tm L D x d))) : wpY_times post (nI L, nI D, yc, yr, yf, yg, ya, yw, ye, yz, yt) (nI x) (nI d) :=
  ⟨L + 1, cb_ytm5 hz hx hd hp L 0 (by omega)⟩
theorem cb_yc51 {L D C g s m : Nat} {post : Int32 → Prop} (hz : cb_Sz L D C) (hg : g < C) (hh : s < C) (hp : post (nI (10 * m + cb_mi L D g s D - m))) : ∀ e d, d + e = D → wY_compare_51 post (nI g) (nI s) (nI m) (nI L) (nI D) yc yr yf yg ya yw ye yz yt (e + 1) (nI (cb_mi L D g s d)) (nI d) := by
  have hz' := hz
  obtain ⟨h1, h2, h3, h4, h5, h6, h7⟩ := hz
  intro e
  induction e with
  | zero =>
    intro d hd
    have e1 : d = D := by omega
    subst e1
    refine br_t (nI_le (Nat.le_refl _) (by omega)) ?_
    rw [cb_i10, pk_sub (by omega)]
    exact hp
  | succ e ih =>
    intro d hd
    have t1 := cb_tm_le L D g d
    have t2 := cb_tm_le L D s d
    refine br_f (nI_ge (by omega) (by omega)) (cb_ytm hz' hg (by omega) (cb_ytm hz' hh (by omega) (pk_le (cb_tm L D s d) (cb_tm L D g d) (fun h => nm_r (nI_add _ _) (nm_r (nI_1 _) ?_)) (fun h => nm_r (nI_add _ _) (nm_r (nI_1 _) ?_)))))
    · have e1 : cb_mi L D g s (d + 1) = cb_mi L D g s d + cb_tm L D s d := by
        show cb_mi L D g s d + (if _ then _ else _) = _
        rw [if_pos h]
      rw [← e1]
      exact ih (d + 1) (by omega)
    · have e1 : cb_mi L D g s (d + 1) = cb_mi L D g s d + cb_tm L D g d := by
        show cb_mi L D g s d + (if _ then _ else _) = _
        rw [if_neg (by omega)]
      rw [← e1]
      exact ih (d + 1) (by omega)
theorem cb_yc5 {L D C g s : Nat} {post : Int32 → Prop} (hz : cb_Sz L D C) (hg : g < C) (hh : s < C) (hp : post (nI (cb_an L D g s))) : ∀ e k, k + e = L → wY_compare_5 post (nI g) (nI s) (nI L) (nI D) yc yr yf yg ya yw ye yz yt (e + 1) (nI (cb_cn (cb_q D g s) k)) (nI k) := by
  have hz' := hz
  obtain ⟨h1, h2, h3, h4, h5, h6, h7⟩ := hz
  intro e
  induction e with
  | zero =>
    intro k hk
    have e1 : k = L := by omega
    subst e1
    exact br_t (nI_le (Nat.le_refl _) (by omega)) ⟨D + 1, cb_yc51 hz' hg hh hp D 0 (by omega)⟩
  | succ e ih =>
    intro k hk
    have b1 : cb_dg D g k < D := Nat.mod_lt _ (by omega)
    have b2 : cb_dg D s k < D := Nat.mod_lt _ (by omega)
    refine br_f (nI_ge (by omega) (by omega)) (cb_ydg hz' hg (by omega) (cb_ydg hz' hh (by omega) (pk_eq (cb_dg D g k) (cb_dg D s k) (fun h => nm_r (nI_1 _) (nm_r (nI_1 _) ?_)) (fun h => nm_r (nI_1 _) ?_))))
    · rw [← cb_cn_t (P := cb_q D g s) (n := k) (by simp [cb_q, h])]
      exact ih (k + 1) (by omega)
    · rw [← cb_cn_f (P := cb_q D g s) (n := k) (by simp [cb_q, h])]
      exact ih (k + 1) (by omega)
theorem cb_ycm {L D C g s : Nat} {post : Int32 → Prop} (hz : cb_Sz L D C) (hg : g < C) (hh : s < C) (hp : post (nI (cb_an L D g s))) : wpY_compare post (nI L, nI D, yc, yr, yf, yg, ya, yw, ye, yz, yt) (nI g) (nI s) :=
  ⟨L + 1, cb_yc5 hz hg hh hp L 0 (by omega)⟩
theorem cb_yi135 {L D C : Nat} {post : SY → Prop} (hz : cb_Sz L D C) (hp : ∀ yt, cb_Sy L D C yt → post (nI L, nI D, nI C, yr, yf, yg, ya, yw, ye, yz, yt)) : ∀ e n yt, n + e = C * C → (∀ m, m < n → yt (m / C * 81 + m % C) = nI (cb_an L D (m / C) (m % C))) → wY_init_135 post (nI L) (nI D) (nI C) yr yf (e + 1) (nI n) yg ya yw ye yz yt := by
  have hz' := hz
  obtain ⟨h1, h2, h3, h4, h5, h6, h7⟩ := hz
  have hcc : C * C ≤ 81 * 81 := Nat.mul_le_mul h7 h7
  have ecc : nI C * nI C = nI (C * C) := pk_mul _ _
  have hc0 : ¬ nI C = 0 := nI_ne0 (by omega) (by omega)
  intro e
  induction e with
  | zero =>
    intro n yt hn hi
    have e1 : n = C * C := by omega
    subst e1
    refine br_t ?_ (hp yt ?_)
    · rw [ecc]; exact nI_le (Nat.le_refl _) (by omega)
    · intro g s hg hs
      have hm : g * C + s < C * C := by
        have : (g + 1) * C ≤ C * C := Nat.mul_le_mul_right C hg
        rw [Nat.succ_mul] at this
        omega
      have h := hi (g * C + s) hm
      have q1 : (g * C + s) / C = g := by
        rw [Nat.mul_comm, Nat.mul_add_div (by omega), Nat.div_eq_of_lt hs, Nat.add_zero]
      have q2 : (g * C + s) % C = s := by
        rw [Nat.mul_comm, Nat.mul_add_mod, Nat.mod_eq_of_lt hs]
      rw [q1, q2, Nat.mul_comm] at h
      exact h
  | succ e ih =>
    intro n yt hn hi
    have d1 : n / C < C := Nat.div_lt_of_lt_mul (by omega)
    have d2 : n % C < C := Nat.mod_lt _ (by omega)
    have e81 : nI (n / C) * 81 + nI (n % C) = nI (n / C * 81 + n % C) := by
      show nI (n / C) * nI 81 + nI (n % C) = _
      rw [pk_mul, nI_add]
    have ediv : nI n / nI C = nI (n / C) := pk_div (by omega) (by omega) (by omega)
    have erem : nI n - nI n / nI C * nI C = nI (n % C) := pk_rem (by omega) (by omega) (by omega)
    refine br_f ?_ ⟨hc0, hc0, hc0, hc0, ?_⟩
    · rw [ecc]; exact nI_ge (by omega) (by omega)
    rw [erem, ediv]
    refine cb_ycm hz' d1 d2 ⟨pk_in _ 6561 (by omega) e81, nm_r (e' := upd yt (n / C * 81 + n % C) (nI (cb_an L D (n / C) (n % C)))) ?_ (nm_r (nI_1 _) (ih (n + 1) _ (by omega) ?_))⟩
    · rw [e81, nI_clamp (by omega)]
    · intro m hm
      have d3 : m % C < C := Nat.mod_lt _ (by omega)
      by_cases e1 : m = n
      · subst e1; exact pk_us
      · rw [pk_un ?_]
        · exact hi m (by omega)
        · intro hc
          have a1 : m / C = n / C := by omega
          have a2 : m % C = n % C := by omega
          apply e1
          rw [← Nat.div_add_mod m C, ← Nat.div_add_mod n C, a1, a2]
theorem cb_yi105 {L D C : Nat} {post : SY → Prop} (hz : cb_Sz L D C) (hp : ∀ yt, cb_Sy L D C yt → post (nI L, nI D, nI C, yr, yf, yg, ya, yw, ye, yz, yt)) : ∀ e i, i + e = L → wY_init_105 post (nI L) (nI D) yc yr yf yg ya yw ye yz yt (e + 1) (nI (D ^ i)) (nI i) := by
  have hz' := hz
  obtain ⟨h1, h2, h3, h4, h5, h6, h7⟩ := hz
  intro e
  induction e with
  | zero =>
    intro i hi
    have e1 : i = L := by omega
    subst e1
    rw [← h5]
    exact br_t (nI_le (Nat.le_refl _) (by omega)) ⟨C * C + 1, cb_yi135 hz' hp (C * C) 0 yt (by omega) (fun m hm => absurd hm (Nat.not_lt_zero _))⟩
  | succ e ih =>
    intro i hi
    exact br_f (nI_ge (by omega) (by omega)) (nm_r ((pk_mul _ _).trans (congrArg nI (Nat.pow_succ (n := D) (m := i)).symm)) (nm_r (nI_1 _) (ih (i + 1) (by omega))))
theorem cb_yi74 {k1 : Int32} {L D C : Nat} {post : SY → Prop} (hz : cb_Sz L D C) (h : cb_Cl k1 3 D) (hp : ∀ yt, cb_Sy L D C yt → post (nI L, nI D, nI C, yr, yf, yg, ya, yw, ye, yz, yt)) : wY_init_74 post k1 (nI L) yl yd yc yr yf yg ya yw ye yz yt := by
  have g : ∃ n, wY_init_105 post (nI L) (nI D) yc yr yf yg ya yw ye yz yt n 1 0 := ⟨L + 1, cb_yi105 hz hp L 0 (by omega)⟩
  obtain ⟨_, _, ⟨a, b, e⟩ | ⟨a, b, e⟩ | ⟨a, e⟩⟩ := h
  · rw [e] at a b ⊢; exact br_t a (br_t b g)
  · subst e; exact br_t a (br_f b g)
  · subst e; exact br_f a g
end
theorem cb_yinit {post : SY → Prop} {k0 k1 : Int32} {L D : Nat} (h0 : cb_Cl k0 4 L) (h1 : cb_Cl k1 3 D) (hp : ∀ yt, cb_Sy L D (D ^ L) yt → post (nI L, nI D, nI (D ^ L), nI 0, nI 0, (fun _ => 0), (fun _ => 0), (fun _ => 0), (fun _ => 0), (fun _ => 0), yt)) : wpY_init post k0 k1 := by
  have hz := cb_Sz_of h0 h1
  have g : wY_init_74 post k1 (nI L) 0 0 0 0 0 (fun _ => 0) (fun _ => 0) (fun _ => 0) (fun _ => 0) (fun _ => 0) (fun _ => 0) := cb_yi74 hz h1 hp
  obtain ⟨_, _, ⟨a, b, e⟩ | ⟨a, b, e⟩ | ⟨a, e⟩⟩ := h0
  · rw [e] at a b ⊢; exact br_t a (br_t b g)
  · subst e; exact br_t a (br_f b g)
  · subst e; exact br_f a g
section
variable {yl yd yc yr yf : Int32} {yg ya yw ye yz yt : Nat → Int32}
theorem cb_yans {L D C g s : Nat} {post : Int32 → Prop} (hz : cb_Sz L D C) (hy : cb_Sy L D C yt) (hg : g < C) (hs : s < C) (hp : post (nI (cb_an L D g s))) : wpY_answerTo post (yl, yd, yc, yr, yf, yg, ya, yw, ye, yz, yt) (nI g) (nI s) := by
  have h7 := hz.2.2.2.2.2.2
  refine ⟨pk_in _ 6561 (by omega) (cb_i81 g s), ?_⟩
  rw [cb_i81, nI_clamp (by omega), hy g s hg hs]
  exact hp
theorem cb_yag2 {L D C T x : Nat} {e : Int32} {post : Int32 → Prop} (hz : cb_Sz L D C) (hy : cb_Sy L D C yt) (ht : cb_To C T yg) (hx : x < C) (hp : post (if cb_ft L D T yg ya e x = true then 1 else 0)) : ∀ d i, i + d = T → (∀ j, j < i → (decide (nI j = e) || decide (nI (cb_an L D (yg j).toNatClampNeg x) = ya j)) = true) → wY_agrees_2 post (nI x) e yl yd yc (nI T) yf yg ya yw ye yz yt (d + 1) (nI i) := by
  have h8 := ht.1
  have h7 := hz.2.2.2.2.2.2
  intro d
  induction d with
  | zero =>
    intro i hi hj
    have e1 : i = T := by omega
    subst e1
    have hc : cb_ft L D i yg ya e x = true := (cb_al_iff _ _).mpr hj
    rw [if_pos hc] at hp
    exact br_t (nI_le (Nat.le_refl _) (by omega)) hp
  | succ d ih =>
    intro i hi hj
    obtain ⟨q, hq, eq⟩ := ht.2 i (by omega)
    have er : (nI i).toNatClampNeg = i := nI_clamp (by omega)
    have eq2 : (yg i).toNatClampNeg = q := by rw [eq]; exact nI_clamp (by omega)
    refine br_f (nI_ge (by omega) (by omega)) (br_c (fun h => nm_r (nI_1 _) (ih (i + 1) (by omega) ?_)) (fun h => ⟨pk_in i 8 (by omega), ?_⟩))
    · intro j hj2
      by_cases e1 : j = i
      · subst e1; simp [h]
      · exact hj j (by omega)
    rw [er, eq]
    refine cb_yans hz hy hq hx ⟨pk_in i 8 (by omega), br_c (fun h2 => nm_r (nI_1 _) (ih (i + 1) (by omega) ?_)) (fun h2 => ?_)⟩
    · intro j hj2
      by_cases e1 : j = i
      · subst e1; simp [eq2, h2]
      · exact hj j (by omega)
    · have hf : ¬ cb_ft L D T yg ya e x = true := by
        intro hc
        have := (cb_al_iff _ _).mp hc i (by omega)
        simp [h, eq2, h2] at this
      rw [if_neg hf] at hp
      exact hp
theorem cb_yag {L D C T x : Nat} {e : Int32} {post : Int32 → Prop} (hz : cb_Sz L D C) (hy : cb_Sy L D C yt) (ht : cb_To C T yg) (hx : x < C) (hp : post (if cb_ft L D T yg ya e x = true then 1 else 0)) : wpY_agrees post (yl, yd, yc, nI T, yf, yg, ya, yw, ye, yz, yt) (nI x) e :=
  ⟨T + 1, cb_yag2 hz hy ht hx hp T 0 (by omega) (fun j hj => absurd hj (Nat.not_lt_zero _))⟩
theorem cb_ycp4 {L D C T : Nat} {e : Int32} {post : Int32 → Prop} (hz : cb_Sz L D C) (hy : cb_Sy L D C yt) (ht : cb_To C T yg) (hp : post (nI (cb_cn (cb_ft L D T yg ya e) C))) : ∀ d x, x + d = C → wY_countPossible_4 post e yl yd (nI C) (nI T) yf yg ya yw ye yz yt (d + 1) (nI (cb_cn (cb_ft L D T yg ya e) x)) (nI x) := by
  have h7 := hz.2.2.2.2.2.2
  intro d
  induction d with
  | zero =>
    intro x hx
    have e1 : x = C := by omega
    subst e1
    exact br_t (nI_le (Nat.le_refl _) (by omega)) hp
  | succ d ih =>
    intro x hx
    refine br_f (nI_ge (by omega) (by omega)) (cb_yag hz hy ht (show x < C by omega) ?_)
    by_cases hq : cb_ft L D T yg ya e x = true
    · rw [if_pos hq]
      refine br_f (by decide) (nm_r (nI_1 _) (nm_r (nI_1 _) ?_))
      rw [← cb_cn_t hq]
      exact ih (x + 1) (by omega)
    · rw [if_neg hq]
      refine br_t rfl (nm_r (nI_1 _) ?_)
      rw [← cb_cn_f hq]
      exact ih (x + 1) (by omega)
theorem cb_ycp {L D C T : Nat} {e : Int32} {post : Int32 → Prop} (hz : cb_Sz L D C) (hy : cb_Sy L D C yt) (ht : cb_To C T yg) (hp : post (nI (cb_cn (cb_ft L D T yg ya e) C))) : wpY_countPossible post (yl, yd, nI C, nI T, yf, yg, ya, yw, ye, yz, yt) e :=
  ⟨C + 1, cb_ycp4 hz hy ht hp C 0 (by omega)⟩
theorem cb_ft8 {L D T : Nat} {ga aa : Nat → Int32} (hT : T ≤ 8) : cb_ft L D T ga aa (-1) = cb_ft L D T ga aa 8 := by
  funext x
  rw [Bool.eq_iff_iff]
  unfold cb_ft
  rw [cb_al_iff, cb_al_iff]
  have n1 : ∀ i, i < 8 → ¬ nI i = -1 := by decide +kernel
  have n8 : ∀ i, i < 8 → ¬ nI i = 8 := by decide +kernel
  constructor
  · intro h i hi
    have := h i hi
    simp only [n1 i (by omega), n8 i (by omega)] at this ⊢
    exact this
  · intro h i hi
    have := h i hi
    simp only [n1 i (by omega), n8 i (by omega)] at this ⊢
    exact this
end
end
section
/-! parts of the possible codes: sizes, count, greatest, squares -/
def cb_sz (L D C : Nat) (P : Nat → Bool) (g a : Nat) : Nat := cb_cn (fun x => P x && (cb_an L D g x == a)) C
def cb_mx (f : Nat → Nat) : Nat → Nat
  | 0 => 0
  | n + 1 => if f n ≤ cb_mx f n then cb_mx f n else f n
def cb_sq (f : Nat → Nat) : Nat → Nat
  | 0 => 0
  | n + 1 => cb_sq f n + f n * f n
theorem cb_mx_le {f : Nat → Nat} {b : Nat} (h : ∀ a, f a ≤ b) (n : Nat) : cb_mx f n ≤ b := by
  induction n with
  | zero => exact Nat.zero_le _
  | succ n ih =>
    show (if _ then _ else _) ≤ b
    by_cases e : f n ≤ cb_mx f n
    · rw [if_pos e]; exact ih
    · rw [if_neg e]; exact h n
theorem cb_sq_le {f : Nat → Nat} {b : Nat} (h : ∀ a, f a ≤ b) (n : Nat) : cb_sq f n ≤ n * (b * b) := by
  induction n with
  | zero => exact Nat.zero_le _
  | succ n ih =>
    show cb_sq f n + f n * f n ≤ _
    have := Nat.mul_le_mul (h n) (h n)
    rw [Nat.succ_mul]
    omega
theorem cb_mx_60 {f : Nat → Nat} (h : ∀ a, 45 ≤ a → f a = 0) : ∀ d, cb_mx f (45 + d) = cb_mx f 45 := by
  intro d
  induction d with
  | zero => rfl
  | succ d ih =>
    have e : f (45 + d) ≤ cb_mx f (45 + d) := by rw [h (45 + d) (by omega)]; exact Nat.zero_le _
    exact Eq.trans (if_pos e) ih
theorem cb_sq_60 {f : Nat → Nat} (h : ∀ a, 45 ≤ a → f a = 0) : ∀ d, cb_sq f (45 + d) = cb_sq f 45 := by
  intro d
  induction d with
  | zero => rfl
  | succ d ih =>
    show cb_sq f (45 + d) + f (45 + d) * f (45 + d) = _
    rw [h (45 + d) (by omega), ih, Nat.mul_zero, Nat.add_zero]
theorem cb_cn_60 {f : Nat → Nat} (h : ∀ a, 45 ≤ a → f a = 0) : ∀ d, cb_cn (fun a => decide (0 < f a)) (45 + d) = cb_cn (fun a => decide (0 < f a)) 45 := by
  intro d
  induction d with
  | zero => rfl
  | succ d ih =>
    rw [show 45 + (d + 1) = (45 + d) + 1 from rfl, cb_cn_f (by simp [h (45 + d) (by omega)])]
    exact ih
theorem cb_cn_0 {P : Nat → Bool} {n : Nat} (h : ∀ x, x < n → P x = false) : cb_cn P n = 0 := by
  induction n with
  | zero => rfl
  | succ n ih =>
    rw [cb_cn_f (by rw [h n (by omega)]; decide)]
    exact ih (fun x hx => h x (by omega))
theorem cb_sz_le (L D C : Nat) (P : Nat → Bool) (g a : Nat) : cb_sz L D C P g a ≤ C := cb_cn_le _ _
theorem cb_sz_0 {L D C : Nat} (hz : cb_Sz L D C) (P : Nat → Bool) {g : Nat} (hg : g < C) : ∀ a, 45 ≤ a → cb_sz L D C P g a = 0 := by
  obtain ⟨h1, h2, h3, h4, h5, h6, h7⟩ := hz
  intro a ha
  apply cb_cn_0
  intro x hx
  have := (cb_an_ck h1 h2 h3 h4 (h5 ▸ hg) (h5 ▸ hx)).1
  have e : ¬ cb_an L D g x = a := by omega
  simp [e]
theorem cb_an45 {L D C : Nat} (hz : cb_Sz L D C) {g s : Nat} (hg : g < C) (hs : s < C) : cb_an L D g s < 45 := by
  obtain ⟨h1, h2, h3, h4, h5, h6, h7⟩ := hz
  exact (cb_an_ck h1 h2 h3 h4 (h5 ▸ hg) (h5 ▸ hs)).1
theorem cb_an10 {L D C : Nat} (hz : cb_Sz L D C) {g s : Nat} (hg : g < C) (hs : s < C) : cb_an L D g s = 10 * L ↔ g = s := by
  obtain ⟨h1, h2, h3, h4, h5, h6, h7⟩ := hz
  exact (cb_an_ck h1 h2 h3 h4 (h5 ▸ hg) (h5 ▸ hs)).2
/-- the k-th possible code, as the class keeps it -/
def cb_K (pc : Nat → Int32) (k : Nat) : Nat := (pc k).toNatClampNeg
theorem cb_K_of {C : Nat} {P : Nat → Bool} {pc ip : Nat → Int32} (hC : C ≤ 81) (hi : cb_Po C P pc ip) {k : Nat} (hk : k < cb_cn P C) : pc k = nI (cb_K pc k) ∧ cb_K pc k < C ∧ P (cb_K pc k) = true ∧ cb_cn P (cb_K pc k) = k := by
  obtain ⟨x, a, b, c⟩ := cb_cn_inv P hk
  have e := hi.1 x a b
  rw [c] at e
  have e2 : cb_K pc k = x := by
    unfold cb_K
    rw [e]
    exact nI_clamp (by omega)
  rw [e2]
  exact ⟨e, a, b, c⟩
theorem cb_K_at {C : Nat} {P : Nat → Bool} {pc ip : Nat → Int32} (hC : C ≤ 81) (hi : cb_Po C P pc ip) {x : Nat} (hx : x < C) (h : P x = true) : cb_K pc (cb_cn P x) = x := by
  unfold cb_K
  rw [hi.1 x hx h]
  exact nI_clamp (by omega)
theorem cb_K_cn {C : Nat} {P : Nat → Bool} {pc ip : Nat → Int32} (hC : C ≤ 81) (hi : cb_Po C P pc ip) (Q : Nat → Bool) : ∀ n, n ≤ C → cb_cn (fun k => Q (cb_K pc k)) (cb_cn P n) = cb_cn (fun x => P x && Q x) n := by
  intro n
  induction n with
  | zero => intro _; rfl
  | succ n ih =>
    intro hn
    have e := ih (by omega)
    by_cases hp : P n = true
    · rw [cb_cn_t hp]
      have ek := cb_K_at hC hi (show n < C by omega) hp
      by_cases hq : Q n = true
      · rw [cb_cn_t (P := fun k => Q (cb_K pc k)) (by show Q (cb_K pc _) = true; rw [ek]; exact hq), cb_cn_t (P := fun x => P x && Q x) (by simp [hp, hq]), e]
      · rw [cb_cn_f (P := fun k => Q (cb_K pc k)) (by show ¬ Q (cb_K pc _) = true; rw [ek]; exact hq), cb_cn_f (P := fun x => P x && Q x) (by simp [hq]), e]
    · rw [cb_cn_f hp, cb_cn_f (P := fun x => P x && Q x) (by simp [hp]), e]
section
variable {fl fd fc ft fp : Int32} {da ta tg tA pc ip ps re sc ns : Nat → Int32}
theorem cb_xm23 {L D C g : Nat} {P : Nat → Bool} {post : SX → Prop} (hz : cb_Sz L D C) (hs : cb_St L D C da ta) (hi : cb_Po C P pc ip) (hg : g < C) (hp : ∀ ps, (∀ a, a < 45 → ps a = nI (cb_sz L D C P g a)) → post (nI L, nI D, fc, ft, nI (cb_cn P C), da, ta, tg, tA, pc, ip, ps, re, sc, ns)) : ∀ d i ps, i + d = cb_cn P C → (∀ a, a < 45 → ps a = nI (cb_cn (fun k => cb_an L D g (cb_K pc k) == a) i)) → wX_measureParts_23 post (nI g) (nI L) (nI D) fc ft (nI (cb_cn P C)) (d + 1) (nI i) da ta tg tA pc ip ps re sc ns := by
  have h7 := hz.2.2.2.2.2.2
  have c1 := cb_cn_le P C
  intro d
  induction d with
  | zero =>
    intro i ps hd hv
    have e1 : i = cb_cn P C := by omega
    subst e1
    refine br_t (nI_le (Nat.le_refl _) (by omega)) (hp ps (fun a ha => ?_))
    rw [hv a ha, cb_K_cn h7 hi (fun x => cb_an L D g x == a) C (Nat.le_refl _)]
    rfl
  | succ d ih =>
    intro i ps hd hv
    obtain ⟨k1, k2, k3, k4⟩ := cb_K_of h7 hi (show i < cb_cn P C by omega)
    have b1 := cb_an45 hz hg k2
    have er : (nI i).toNatClampNeg = i := nI_clamp (by omega)
    have ea : (nI (cb_an L D g (cb_K pc i))).toNatClampNeg = cb_an L D g (cb_K pc i) := nI_clamp (by omega)
    refine br_f (nI_ge (by omega) (by omega)) ⟨pk_in i 81 (by omega), ?_⟩
    rw [er, k1]
    refine cb_xans hz hs hg k2 ⟨pk_in (cb_an L D g (cb_K pc i)) 45 b1, pk_in (cb_an L D g (cb_K pc i)) 45 b1, ?_⟩
    rw [ea, hv _ b1]
    refine nm_e (nm_r (nI_1 _) (ih (i + 1) _ (by omega) ?_))
    intro a ha
    by_cases e1 : a = cb_an L D g (cb_K pc i)
    · rw [e1, pk_us, nI_1, cb_cn_t (P := fun k => cb_an L D g (cb_K pc k) == cb_an L D g (cb_K pc i)) (n := i) (by simp)]
    · rw [pk_un e1, cb_cn_f (P := fun k => cb_an L D g (cb_K pc k) == a) (n := i) (by simp; omega)]
      exact hv a ha
theorem cb_xm2 {L D C g : Nat} {P : Nat → Bool} {post : SX → Prop} (hz : cb_Sz L D C) (hs : cb_St L D C da ta) (hi : cb_Po C P pc ip) (hg : g < C) (hp : ∀ ps, (∀ a, a < 45 → ps a = nI (cb_sz L D C P g a)) → post (nI L, nI D, fc, ft, nI (cb_cn P C), da, ta, tg, tA, pc, ip, ps, re, sc, ns)) : ∀ d i ps, i + d = 45 → (∀ a, a < i → ps a = 0) → wX_measureParts_2 post (nI g) (nI L) (nI D) fc ft (nI (cb_cn P C)) (d + 1) (nI i) da ta tg tA pc ip ps re sc ns := by
  intro d
  induction d with
  | zero =>
    intro i ps hd hv
    have e1 : i = 45 := by omega
    subst e1
    exact br_t (by decide) ⟨cb_cn P C + 1, cb_xm23 hz hs hi hg hp (cb_cn P C) 0 ps (by omega) hv⟩
  | succ d ih =>
    intro i ps hd hv
    have er : (nI i).toNatClampNeg = i := nI_clamp (by omega)
    refine br_f (nI_ge (b := 45) (by omega) (by decide)) ⟨pk_in i 45 (by omega), ?_⟩
    rw [er]
    refine nm_e (nm_r (nI_1 _) (ih (i + 1) _ (by omega) ?_))
    intro a ha
    by_cases e1 : a = i
    · rw [e1, pk_us]
    · rw [pk_un e1]; exact hv a (by omega)
theorem cb_xmp {L D C g : Nat} {P : Nat → Bool} {post : SX → Prop} (hz : cb_Sz L D C) (hs : cb_St L D C da ta) (hi : cb_Po C P pc ip) (hg : g < C) (hp : ∀ ps, (∀ a, a < 45 → ps a = nI (cb_sz L D C P g a)) → post (nI L, nI D, fc, ft, nI (cb_cn P C), da, ta, tg, tA, pc, ip, ps, re, sc, ns)) : wpX_measureParts post (nI L, nI D, fc, ft, nI (cb_cn P C), da, ta, tg, tA, pc, ip, ps, re, sc, ns) (nI g) :=
  ⟨46, cb_xm2 hz hs hi hg hp 45 0 ps (by omega) (fun a ha => absurd ha (Nat.not_lt_zero _))⟩
theorem cb_xp19 {f : Nat → Nat} {post : Int32 → SX → Prop} (hb : ∀ a, f a ≤ 81) (hv : ∀ a, a < 45 → ps a = nI (f a)) (hp : post (nI (cb_cn (fun a => decide (0 < f a)) 45)) (fl, fd, fc, ft, fp, da, ta, tg, tA, pc, ip, ps, re, sc, ns)) : ∀ d i, i + d = 45 → wX_parts_19 post fl fd fc ft fp da ta tg tA pc ip ps re sc ns (d + 1) (nI (cb_cn (fun a => decide (0 < f a)) i)) (nI i) := by
  intro d
  induction d with
  | zero =>
    intro i hd
    have e1 : i = 45 := by omega
    subst e1
    exact br_t (by decide) hp
  | succ d ih =>
    intro i hd
    have er : (nI i).toNatClampNeg = i := nI_clamp (by omega)
    have hbi := hb i
    refine br_f (nI_ge (b := 45) (by omega) (by decide)) ⟨pk_in i 45 (by omega), ?_⟩
    rw [er, hv i (by omega)]
    refine pk_le (f i) 0 (fun h => nm_r (nI_1 _) ?_) (fun h => nm_r (nI_1 _) (nm_r (nI_1 _) ?_))
    · rw [← cb_cn_f (P := fun a => decide (0 < f a)) (n := i) (by simp; omega)]
      exact ih (i + 1) (by omega)
    · rw [← cb_cn_t (P := fun a => decide (0 < f a)) (n := i) (by simp; omega)]
      exact ih (i + 1) (by omega)
theorem cb_xg9 {f : Nat → Nat} {post : Int32 → SX → Prop} (hb : ∀ a, f a ≤ 81) (hv : ∀ a, a < 45 → ps a = nI (f a)) (hp : post (nI (cb_mx f 45)) (fl, fd, fc, ft, fp, da, ta, tg, tA, pc, ip, ps, re, sc, ns)) : ∀ d i, i + d = 45 → wX_greatestPart_9 post fl fd fc ft fp da ta tg tA pc ip ps re sc ns (d + 1) (nI (cb_mx f i)) (nI i) := by
  intro d
  induction d with
  | zero =>
    intro i hd
    have e1 : i = 45 := by omega
    subst e1
    exact br_t (by decide) hp
  | succ d ih =>
    intro i hd
    have er : (nI i).toNatClampNeg = i := nI_clamp (by omega)
    have hbi := hb i
    have hm := cb_mx_le hb i
    refine br_f (nI_ge (b := 45) (by omega) (by decide)) ⟨pk_in i 45 (by omega), ?_⟩
    rw [er, hv i (by omega)]
    refine pk_le (f i) (cb_mx f i) (fun h => nm_r (nI_1 _) ?_) (fun h => ⟨pk_in i 45 (by omega), nm_e (nm_r (nI_1 _) ?_)⟩)
    · have e1 : cb_mx f (i + 1) = cb_mx f i := if_pos h
      have := ih (i + 1) (by omega)
      rw [e1] at this
      exact this
    · have e1 : cb_mx f (i + 1) = f i := if_neg (by omega)
      have := ih (i + 1) (by omega)
      rw [e1] at this
      exact this
theorem cb_xs9 {f : Nat → Nat} {post : Int32 → SX → Prop} (hv : ∀ a, a < 45 → ps a = nI (f a)) (hp : post (nI (cb_sq f 45)) (fl, fd, fc, ft, fp, da, ta, tg, tA, pc, ip, ps, re, sc, ns)) : ∀ d i, i + d = 45 → wX_sumOfSquares_9 post fl fd fc ft fp da ta tg tA pc ip ps re sc ns (d + 1) (nI (cb_sq f i)) (nI i) := by
  intro d
  induction d with
  | zero =>
    intro i hd
    have e1 : i = 45 := by omega
    subst e1
    exact br_t (by decide) hp
  | succ d ih =>
    intro i hd
    have er : (nI i).toNatClampNeg = i := nI_clamp (by omega)
    refine br_f (nI_ge (b := 45) (by omega) (by decide)) ⟨pk_in i 45 (by omega), pk_in i 45 (by omega), ?_⟩
    rw [er, hv i (by omega)]
    refine nm_r (e' := nI (cb_sq f (i + 1))) ?_ (nm_r (nI_1 _) (ih (i + 1) (by omega)))
    rw [pk_mul, nI_add]
    rfl
theorem cb_xgp {L D C g : Nat} {P : Nat → Bool} {post : Int32 → SX → Prop} (hz : cb_Sz L D C) (hs : cb_St L D C da ta) (hi : cb_Po C P pc ip) (hg : g < C) (hp : ∀ ps, post (nI (cb_mx (cb_sz L D C P g) 45)) (nI L, nI D, fc, ft, nI (cb_cn P C), da, ta, tg, tA, pc, ip, ps, re, sc, ns)) : wpX_greatestPart post (nI L, nI D, fc, ft, nI (cb_cn P C), da, ta, tg, tA, pc, ip, ps, re, sc, ns) (nI g) :=
  cb_xmp hz hs hi hg (fun ps hv => ⟨46, cb_xg9 (fun a => Nat.le_trans (cb_sz_le _ _ _ _ _ _) hz.2.2.2.2.2.2) hv (hp ps) 45 0 (by omega)⟩)
theorem cb_xss {L D C g : Nat} {P : Nat → Bool} {post : Int32 → SX → Prop} (hz : cb_Sz L D C) (hs : cb_St L D C da ta) (hi : cb_Po C P pc ip) (hg : g < C) (hp : ∀ ps, post (nI (cb_sq (cb_sz L D C P g) 45)) (nI L, nI D, fc, ft, nI (cb_cn P C), da, ta, tg, tA, pc, ip, ps, re, sc, ns)) : wpX_sumOfSquares post (nI L, nI D, fc, ft, nI (cb_cn P C), da, ta, tg, tA, pc, ip, ps, re, sc, ns) (nI g) :=
  cb_xmp hz hs hi hg (fun ps hv => ⟨46, cb_xs9 hv (hp ps) 45 0 (by omega)⟩)
end
section
variable {yl yd yc yr yf : Int32} {yg ya yw ye yz yt : Nat → Int32}
theorem cb_ym23 {L D C T g : Nat} {P : Nat → Bool} {post : SY → Prop} (hz : cb_Sz L D C) (hy : cb_Sy L D C yt) (ht : cb_To C T yg) (hP : P = cb_ft L D T yg ya (-1)) (hg : g < C) (hp : ∀ yz, (∀ a, a < 60 → yz a = nI (cb_sz L D C P g a)) → post (yl, yd, nI C, nI T, yf, yg, ya, yw, ye, yz, yt)) : ∀ d x yz, x + d = C → (∀ a, a < 60 → yz a = nI (cb_cn (fun x => P x && (cb_an L D g x == a)) x)) → wY_part_23 post (nI g) yl yd (nI C) (nI T) yf (d + 1) (nI x) yg ya yw ye yz yt := by
  have h7 := hz.2.2.2.2.2.2
  intro d
  induction d with
  | zero =>
    intro x yz hd hv
    have e1 : x = C := by omega
    subst e1
    exact br_t (nI_le (Nat.le_refl _) (by omega)) (hp yz hv)
  | succ d ih =>
    intro x yz hd hv
    have hx : x < C := by omega
    have b1 := cb_an45 hz hg hx
    have ea : (nI (cb_an L D g x)).toNatClampNeg = cb_an L D g x := nI_clamp (by omega)
    refine br_f (nI_ge (by omega) (by omega)) (cb_yag hz hy ht hx ?_)
    rw [← hP]
    by_cases hq : P x = true
    · rw [if_pos hq]
      refine br_f (by decide) (cb_yans hz hy hg hx ⟨pk_in (cb_an L D g x) 60 (by omega), pk_in (cb_an L D g x) 60 (by omega), ?_⟩)
      rw [ea, hv _ (by omega)]
      refine nm_e (nm_r (nI_1 _) (ih (x + 1) _ (by omega) ?_))
      intro a ha
      by_cases e1 : a = cb_an L D g x
      · rw [e1, pk_us, nI_1, cb_cn_t (P := fun y => P y && (cb_an L D g y == cb_an L D g x)) (n := x) (by simp [hq])]
      · rw [pk_un e1, cb_cn_f (P := fun y => P y && (cb_an L D g y == a)) (n := x) (by simp; omega)]
        exact hv a ha
    · rw [if_neg hq]
      refine br_t rfl (nm_r (nI_1 _) (ih (x + 1) _ (by omega) ?_))
      intro a ha
      rw [cb_cn_f (P := fun y => P y && (cb_an L D g y == a)) (n := x) (by simp [hq])]
      exact hv a ha
theorem cb_ym2 {L D C T g : Nat} {P : Nat → Bool} {post : SY → Prop} (hz : cb_Sz L D C) (hy : cb_Sy L D C yt) (ht : cb_To C T yg) (hP : P = cb_ft L D T yg ya (-1)) (hg : g < C) (hp : ∀ yz, (∀ a, a < 60 → yz a = nI (cb_sz L D C P g a)) → post (yl, yd, nI C, nI T, yf, yg, ya, yw, ye, yz, yt)) : ∀ d i yz, i + d = 60 → (∀ a, a < i → yz a = 0) → wY_part_2 post (nI g) yl yd (nI C) (nI T) yf (d + 1) (nI i) yg ya yw ye yz yt := by
  intro d
  induction d with
  | zero =>
    intro i yz hd hv
    have e1 : i = 60 := by omega
    subst e1
    exact br_t (by decide) ⟨C + 1, cb_ym23 hz hy ht hP hg hp C 0 yz (by omega) hv⟩
  | succ d ih =>
    intro i yz hd hv
    have er : (nI i).toNatClampNeg = i := nI_clamp (by omega)
    refine br_f (nI_ge (b := 60) (by omega) (by decide)) ⟨pk_in i 60 (by omega), ?_⟩
    rw [er]
    refine nm_e (nm_r (nI_1 _) (ih (i + 1) _ (by omega) ?_))
    intro a ha
    by_cases e1 : a = i
    · rw [e1, pk_us]
    · rw [pk_un e1]; exact hv a (by omega)
theorem cb_ymp {L D C T g : Nat} {P : Nat → Bool} {post : SY → Prop} (hz : cb_Sz L D C) (hy : cb_Sy L D C yt) (ht : cb_To C T yg) (hP : P = cb_ft L D T yg ya (-1)) (hg : g < C) (hp : ∀ yz, (∀ a, a < 60 → yz a = nI (cb_sz L D C P g a)) → post (yl, yd, nI C, nI T, yf, yg, ya, yw, ye, yz, yt)) : wpY_part post (yl, yd, nI C, nI T, yf, yg, ya, yw, ye, yz, yt) (nI g) :=
  ⟨61, cb_ym2 hz hy ht hP hg hp 60 0 yz (by omega) (fun a ha => absurd ha (Nat.not_lt_zero _))⟩
theorem cb_yp19 {f : Nat → Nat} {post : Int32 → SY → Prop} (hb : ∀ a, f a ≤ 81) (hv : ∀ a, a < 60 → yz a = nI (f a)) (hp : post (nI (cb_cn (fun a => decide (0 < f a)) 60)) (yl, yd, yc, yr, yf, yg, ya, yw, ye, yz, yt)) : ∀ d i, i + d = 60 → wY_parts_19 post yl yd yc yr yf yg ya yw ye yz yt (d + 1) (nI (cb_cn (fun a => decide (0 < f a)) i)) (nI i) := by
  intro d
  induction d with
  | zero =>
    intro i hd
    have e1 : i = 60 := by omega
    subst e1
    exact br_t (by decide) hp
  | succ d ih =>
    intro i hd
    have er : (nI i).toNatClampNeg = i := nI_clamp (by omega)
    have hbi := hb i
    refine br_f (nI_ge (b := 60) (by omega) (by decide)) ⟨pk_in i 60 (by omega), ?_⟩
    rw [er, hv i (by omega)]
    refine pk_le (f i) 0 (fun h => nm_r (nI_1 _) ?_) (fun h => nm_r (nI_1 _) (nm_r (nI_1 _) ?_))
    · rw [← cb_cn_f (P := fun a => decide (0 < f a)) (n := i) (by simp; omega)]
      exact ih (i + 1) (by omega)
    · rw [← cb_cn_t (P := fun a => decide (0 < f a)) (n := i) (by simp; omega)]
      exact ih (i + 1) (by omega)
theorem cb_yg9 {f : Nat → Nat} {post : Int32 → SY → Prop} (hb : ∀ a, f a ≤ 81) (hv : ∀ a, a < 60 → yz a = nI (f a)) (hp : post (nI (cb_mx f 60)) (yl, yd, yc, yr, yf, yg, ya, yw, ye, yz, yt)) : ∀ d i, i + d = 60 → wY_worstOf_9 post yl yd yc yr yf yg ya yw ye yz yt (d + 1) (nI (cb_mx f i)) (nI i) := by
  intro d
  induction d with
  | zero =>
    intro i hd
    have e1 : i = 60 := by omega
    subst e1
    exact br_t (by decide) hp
  | succ d ih =>
    intro i hd
    have er : (nI i).toNatClampNeg = i := nI_clamp (by omega)
    have hbi := hb i
    have hm := cb_mx_le hb i
    refine br_f (nI_ge (b := 60) (by omega) (by decide)) ⟨pk_in i 60 (by omega), ?_⟩
    rw [er, hv i (by omega)]
    refine pk_le (f i) (cb_mx f i) (fun h => nm_r (nI_1 _) ?_) (fun h => ⟨pk_in i 60 (by omega), nm_e (nm_r (nI_1 _) ?_)⟩)
    · have e1 : cb_mx f (i + 1) = cb_mx f i := if_pos h
      have := ih (i + 1) (by omega)
      rw [e1] at this
      exact this
    · have e1 : cb_mx f (i + 1) = f i := if_neg (by omega)
      have := ih (i + 1) (by omega)
      rw [e1] at this
      exact this
theorem cb_ys9 {f : Nat → Nat} {post : Int32 → SY → Prop} (hv : ∀ a, a < 60 → yz a = nI (f a)) (hp : post (nI (cb_sq f 60)) (yl, yd, yc, yr, yf, yg, ya, yw, ye, yz, yt)) : ∀ d i, i + d = 60 → wY_weightOf_9 post yl yd yc yr yf yg ya yw ye yz yt (d + 1) (nI (cb_sq f i)) (nI i) := by
  intro d
  induction d with
  | zero =>
    intro i hd
    have e1 : i = 60 := by omega
    subst e1
    exact br_t (by decide) hp
  | succ d ih =>
    intro i hd
    have er : (nI i).toNatClampNeg = i := nI_clamp (by omega)
    refine br_f (nI_ge (b := 60) (by omega) (by decide)) ⟨pk_in i 60 (by omega), pk_in i 60 (by omega), ?_⟩
    rw [er, hv i (by omega)]
    refine nm_r (e' := nI (cb_sq f (i + 1))) ?_ (nm_r (nI_1 _) (ih (i + 1) (by omega)))
    rw [pk_mul, nI_add]
    rfl
theorem cb_ygp {L D C T g : Nat} {P : Nat → Bool} {post : Int32 → SY → Prop} (hz : cb_Sz L D C) (hy : cb_Sy L D C yt) (ht : cb_To C T yg) (hP : P = cb_ft L D T yg ya (-1)) (hg : g < C) (hp : ∀ yz, post (nI (cb_mx (cb_sz L D C P g) 45)) (yl, yd, nI C, nI T, yf, yg, ya, yw, ye, yz, yt)) : wpY_worstOf post (yl, yd, nI C, nI T, yf, yg, ya, yw, ye, yz, yt) (nI g) := by
  rw [← cb_mx_60 (cb_sz_0 hz P hg) 15] at hp
  exact cb_ymp hz hy ht hP hg (fun yz hv => ⟨61, cb_yg9 (fun a => Nat.le_trans (cb_sz_le _ _ _ _ _ _) hz.2.2.2.2.2.2) hv (hp yz) 60 0 (by omega)⟩)
theorem cb_yss {L D C T g : Nat} {P : Nat → Bool} {post : Int32 → SY → Prop} (hz : cb_Sz L D C) (hy : cb_Sy L D C yt) (ht : cb_To C T yg) (hP : P = cb_ft L D T yg ya (-1)) (hg : g < C) (hp : ∀ yz, post (nI (cb_sq (cb_sz L D C P g) 45)) (yl, yd, nI C, nI T, yf, yg, ya, yw, ye, yz, yt)) : wpY_weightOf post (yl, yd, nI C, nI T, yf, yg, ya, yw, ye, yz, yt) (nI g) := by
  rw [← cb_sq_60 (cb_sz_0 hz P hg) 15] at hp
  exact cb_ymp hz hy ht hP hg (fun yz hv => ⟨61, cb_ys9 hv (hp yz) 60 0 (by omega)⟩)
end
end
section
/-! the best guess -/
def cb_ky (sf : Nat → Nat) (P : Nat → Bool) (g : Nat) : Nat := 2 * sf g + (if P g = true then 0 else 1)
def cb_bs (key : Nat → Nat) : Nat → Nat
  | 0 => 0
  | n + 1 => if key n < key (cb_bs key n) then n else cb_bs key n
theorem cb_bs_lt (key : Nat → Nat) (n : Nat) : cb_bs key (n + 1) < n + 1 := by
  induction n with
  | zero =>
    show (if _ then _ else _) < 1
    split
    · omega
    · exact Nat.lt_succ_self 0
  | succ n ih =>
    show (if _ then _ else _) < _
    split
    · exact Nat.lt_succ_self _
    · exact Nat.lt_succ_of_lt ih
theorem cb_ky_lt {sf : Nat → Nat} {P : Nat → Bool} {g b : Nat} : cb_ky sf P g < cb_ky sf P b ↔ (sf g < sf b ∨ (sf g = sf b ∧ P g = true ∧ ¬ P b = true)) := by
  unfold cb_ky
  by_cases h1 : P g = true <;> by_cases h2 : P b = true <;> simp only [h1, h2, if_true, if_false] <;> simp <;> omega
section
variable {fl fd fc ft fp : Int32} {da ta tg tA pc ip ps re sc ns : Nat → Int32}
theorem cb_xb18 {L D C : Nat} {P : Nat → Bool} {sf : Nat → Nat} {x1 : Int32} {post : Int32 → SX → Prop} (hz : cb_Sz L D C) (hi : cb_Po C P pc ip) (hb : ∀ g, sf g < 1000000) (hsf : ∀ g ps (q : Int32 → SX → Prop), g < C → (∀ ps, q (nI (sf g)) (nI L, nI D, nI C, ft, nI (cb_cn P C), da, ta, tg, tA, pc, ip, ps, re, sc, ns)) → (x1 = 0 → wpX_greatestPart q (nI L, nI D, nI C, ft, nI (cb_cn P C), da, ta, tg, tA, pc, ip, ps, re, sc, ns) (nI g)) ∧ (¬ x1 = 0 → wpX_sumOfSquares q (nI L, nI D, nI C, ft, nI (cb_cn P C), da, ta, tg, tA, pc, ip, ps, re, sc, ns) (nI g))) (hp : ∀ ps, post (nI (cb_bs (cb_ky sf P) C)) (nI L, nI D, nI C, ft, nI (cb_cn P C), da, ta, tg, tA, pc, ip, ps, re, sc, ns)) : ∀ d g x2 x3 ps, g + d = C → ((g = 0 ∧ x2 = -3) ∨ (1 ≤ g ∧ x2 = nI (cb_bs (cb_ky sf P) g) ∧ x3 = nI (sf (cb_bs (cb_ky sf P) g)))) → wX_bestGuess_18 post x1 (d + 1) x2 x3 (nI g) (nI L) (nI D) (nI C) ft (nI (cb_cn P C)) da ta tg tA pc ip ps re sc ns := by
  obtain ⟨h1, h2, h3, h4, h5, h6, h7⟩ := hz
  intro d
  induction d with
  | zero =>
    intro g x2 x3 ps hd hv
    have e1 : g = C := by omega
    subst e1
    obtain ⟨a, _⟩ | ⟨a, b, c⟩ := hv
    · omega
    · rw [b]
      exact br_t (nI_le (Nat.le_refl _) (by omega)) (hp ps)
  | succ d ih =>
    intro g x2 x3 ps hd hv
    have hg : g < C := by omega
    have hbg := hb g
    refine br_f (nI_ge (by omega) (by omega)) (hsf g ps _ hg (fun ps => ?_))
    obtain ⟨a, b⟩ | ⟨a, b, c⟩ := hv
    · subst a
      refine br_t b (br_f (by decide) (nm_r (nI_1 _) (ih 1 _ _ ps (by omega) (Or.inr ⟨by omega, ?_, ?_⟩))))
      · have e : cb_bs (cb_ky sf P) 1 = 0 := by
          show (if _ then 0 else 0) = 0
          split <;> rfl
        rw [e]
      · have e : cb_bs (cb_ky sf P) 1 = 0 := by
          show (if _ then 0 else 0) = 0
          split <;> rfl
        rw [e]
    · have hlt : cb_bs (cb_ky sf P) g < g := by
        have := cb_bs_lt (cb_ky sf P) (g - 1)
        rw [show g - 1 + 1 = g by omega] at this
        exact this
      have ht : cb_ky sf P g < cb_ky sf P (cb_bs (cb_ky sf P) g) → cb_bs (cb_ky sf P) (g + 1) = g := fun h => if_pos h
      have hf : ¬ cb_ky sf P g < cb_ky sf P (cb_bs (cb_ky sf P) g) → cb_bs (cb_ky sf P) (g + 1) = cb_bs (cb_ky sf P) g := fun h => if_neg h
      have hih := ih (g + 1)
      have hk := cb_ky_lt (sf := sf) (P := P) (g := g) (b := cb_bs (cb_ky sf P) g)
      generalize cb_bs (cb_ky sf P) (g + 1) = b1 at hih ht hf
      generalize cb_bs (cb_ky sf P) g = b0 at b c hlt ht hf hk
      have hb0 := hb b0
      have n3 : ¬ x2 = -3 := by
        rw [b]
        have : ∀ k, k < 81 → ¬ nI k = -3 := by decide +kernel
        exact this b0 (by omega)
      have ixg : (nI g).toNatClampNeg = g := nI_clamp (by omega)
      have ixb : x2.toNatClampNeg = b0 := by rw [b]; exact nI_clamp (by omega)
      have hpg := hi.2 g hg
      have hpb := hi.2 b0 (by omega)
      have new : b1 = g → ∀ y, y = nI g + 1 → wX_bestGuess_18 post x1 (d + 1) (nI g) (nI (sf g)) y (nI L) (nI D) (nI C) ft (nI (cb_cn P C)) da ta tg tA pc ip ps re sc ns := fun e => nm_r (nI_1 _) (hih _ _ ps (by omega) (Or.inr ⟨by omega, by rw [e], by rw [e]⟩))
      have old : b1 = b0 → ∀ y, y = nI g + 1 → wX_bestGuess_18 post x1 (d + 1) x2 x3 y (nI L) (nI D) (nI C) ft (nI (cb_cn P C)) da ta tg tA pc ip ps re sc ns := fun e => nm_r (nI_1 _) (hih _ _ ps (by omega) (Or.inr ⟨by omega, by rw [e, b], by rw [e, c]⟩))
      refine br_f n3 (br_t rfl (pk_lt (sf g) (sf b0) (fun h => new (ht (hk.mpr (Or.inl h)))) (fun h => pk_eq (sf g) (sf b0) (fun h' => ⟨pk_in g 81 (by omega), ?_⟩) (fun h' => old (hf (fun z => by rcases hk.mp z with w | w <;> omega))) rfl c) rfl c))
      rw [ixg, hpg]
      by_cases p1 : P g = true
      · rw [if_pos p1]
        refine br_f (by decide) ⟨pk_in b0 81 (by omega) b, ?_⟩
        rw [ixb, hpb]
        by_cases p2 : P b0 = true
        · rw [if_pos p2]
          refine br_f (by decide) (old (hf (fun z => ?_)))
          rcases hk.mp z with w | w
          · omega
          · exact w.2.2 p2
        · rw [if_neg p2]
          exact br_t rfl (new (ht (hk.mpr (Or.inr ⟨h', p1, p2⟩))))
      · rw [if_neg p1]
        refine br_t rfl (old (hf (fun z => ?_)))
        rcases hk.mp z with w | w
        · omega
        · exact p1 w.2.1
end
section
variable {yl yd yc yr yf : Int32} {yg ya yw ye yz yt : Nat → Int32}
theorem cb_yb18 {L D C T : Nat} {P : Nat → Bool} {sf : Nat → Nat} {x1 : Int32} {post : Int32 → SY → Prop} (hz : cb_Sz L D C) (hy : cb_Sy L D C yt) (ht0 : cb_To C T yg) (hP : P = cb_ft L D T yg ya (-1)) (hb : ∀ g, sf g < 1000000) (hsf : ∀ g yz (q : Int32 → SY → Prop), g < C → (∀ yz, q (nI (sf g)) (yl, yd, nI C, nI T, yf, yg, ya, yw, ye, yz, yt)) → (x1 = 0 → wpY_weightOf q (yl, yd, nI C, nI T, yf, yg, ya, yw, ye, yz, yt) (nI g)) ∧ (¬ x1 = 0 → wpY_worstOf q (yl, yd, nI C, nI T, yf, yg, ya, yw, ye, yz, yt) (nI g))) (hp : ∀ yz, post (nI (cb_bs (cb_ky sf P) C)) (yl, yd, nI C, nI T, yf, yg, ya, yw, ye, yz, yt)) : ∀ d g x2 x3 yz, g + d = C → ((g = 0 ∧ x2 = -1) ∨ (1 ≤ g ∧ x2 = nI (cb_bs (cb_ky sf P) g) ∧ x3 = nI (cb_ky sf P (cb_bs (cb_ky sf P) g)))) → wY_best_18 post x1 (d + 1) x2 x3 (nI g) yl yd (nI C) (nI T) yf yg ya yw ye yz yt := by
  have hz' := hz
  obtain ⟨h1, h2, h3, h4, h5, h6, h7⟩ := hz
  intro d
  induction d with
  | zero =>
    intro g x2 x3 yz hd hv
    have e1 : g = C := by omega
    subst e1
    obtain ⟨a, _⟩ | ⟨a, b, c⟩ := hv
    · omega
    · rw [b]
      exact br_t (nI_le (Nat.le_refl _) (by omega)) (hp yz)
  | succ d ih =>
    intro g x2 x3 yz hd hv
    have hg : g < C := by omega
    have hbg := hb g
    have hkb : ∀ g, cb_ky sf P g < 3000000 := by
      intro g
      have := hb g
      unfold cb_ky
      split <;> omega
    refine br_f (nI_ge (by omega) (by omega)) (hsf g yz _ hg (fun yz => cb_yag hz' hy ht0 hg ?_))
    rw [← hP]
    have key : ∀ z : Int32, (2 : Int32) * nI (sf g) + z = nI (cb_ky sf P g) → wY_best_63 post (wY_best_18 post x1 (d + 1)) x1 x2 x3 (nI g) z (2 * nI (sf g)) yl yd (nI C) (nI T) yf yg ya yw ye yz yt := by
      intro z ez
      refine nm_r ez ?_
      obtain ⟨a, b⟩ | ⟨a, b, c⟩ := hv
      · subst a
        refine br_t (by rw [b]; decide) (nm_r (nI_1 _) (ih 1 _ _ yz (by omega) (Or.inr ⟨by omega, ?_, ?_⟩)))
        · have e : cb_bs (cb_ky sf P) 1 = 0 := by
            show (if _ then 0 else 0) = 0
            split <;> rfl
          rw [e]
        · have e : cb_bs (cb_ky sf P) 1 = 0 := by
            show (if _ then 0 else 0) = 0
            split <;> rfl
          rw [e]
      · have hlt : cb_bs (cb_ky sf P) g < g := by
          have := cb_bs_lt (cb_ky sf P) (g - 1)
          rw [show g - 1 + 1 = g by omega] at this
          exact this
        have k1 := hkb g
        have k2 := hkb (cb_bs (cb_ky sf P) g)
        refine br_f (by rw [b]; exact nI_pos (by omega)) (pk_le (cb_ky sf P (cb_bs (cb_ky sf P) g)) (cb_ky sf P g) (fun h => nm_r (nI_1 _) (ih (g + 1) _ _ yz (by omega) (Or.inr ⟨by omega, ?_, ?_⟩))) (fun h => nm_r (nI_1 _) (ih (g + 1) _ _ yz (by omega) (Or.inr ⟨by omega, ?_, ?_⟩))) c rfl)
        · rw [show cb_bs (cb_ky sf P) (g + 1) = cb_bs (cb_ky sf P) g from if_neg (by omega)]; exact b
        · rw [show cb_bs (cb_ky sf P) (g + 1) = cb_bs (cb_ky sf P) g from if_neg (by omega)]; exact c
        · rw [show cb_bs (cb_ky sf P) (g + 1) = g from if_pos h]
        · rw [show cb_bs (cb_ky sf P) (g + 1) = g from if_pos h]
    by_cases hq : P g = true
    · rw [if_pos hq]
      refine br_f (by decide) (key 0 ?_)
      show nI 2 * nI (sf g) + nI 0 = _
      rw [pk_mul, nI_add]
      unfold cb_ky
      rw [if_pos hq]
    · rw [if_neg hq]
      refine br_t rfl (key 1 ?_)
      show nI 2 * nI (sf g) + nI 1 = _
      rw [pk_mul, nI_add]
      unfold cb_ky
      rw [if_neg hq]
end
end
section
/-! the relation, and the methods but need, needKept, first -/
/-- both sides hold the same recorded guesses and answers; the class's tables say its digits, the reference's table says the answers; the class's possible codes are those that fit -/
def i_Rel (_ : Nat) (u : SX) (v : SY) : Prop := ∃ (L D C T : Nat) (P : Nat → Bool) (tg tA da ta pc ip ps re sc ns yw ye yz yt : Nat → Int32) (yf : Int32), u = (nI L, nI D, nI C, nI T, nI (cb_cn P C), da, ta, tg, tA, pc, ip, ps, re, sc, ns) ∧ v = (nI L, nI D, nI C, nI T, yf, tg, tA, yw, ye, yz, yt) ∧ cb_Sz L D C ∧ cb_St L D C da ta ∧ cb_Sy L D C yt ∧ cb_To C T tg ∧ P = cb_ft L D T tg tA 8 ∧ cb_Po C P pc ip
theorem i_up {k : Nat} {u : SX} {v : SY} (h : i_Rel k u v) : i_Rel (k + 4) u v := h
theorem cb_rel {k L D C T : Nat} {P : Nat → Bool} {tg tA da ta pc ip ps re sc ns yw ye yz yt : Nat → Int32} {yf : Int32} (hz : cb_Sz L D C) (hs : cb_St L D C da ta) (hy : cb_Sy L D C yt) (ht : cb_To C T tg) (hP : P = cb_ft L D T tg tA 8) (hi : cb_Po C P pc ip) : i_Rel k (nI L, nI D, nI C, nI T, nI (cb_cn P C), da, ta, tg, tA, pc, ip, ps, re, sc, ns) (nI L, nI D, nI C, nI T, yf, tg, tA, yw, ye, yz, yt) :=
  ⟨L, D, C, T, P, tg, tA, da, ta, pc, ip, ps, re, sc, ns, yw, ye, yz, yt, yf, rfl, rfl, hz, hs, hy, ht, hP, hi⟩
theorem i_vc0 (k0 : Int32) (k1 : Int32) : wpX_init (fun u => wpY_init (fun v => i_Rel 2 u v) k0 k1) k0 k1 := by
  obtain ⟨L, h0⟩ := cb_Cl_ex k0 (n := 4) (by omega) (by omega)
  obtain ⟨D, h1⟩ := cb_Cl_ex k1 (n := 3) (by omega) (by omega)
  exact cb_xinit h0 h1 (fun da ta pc ip hs hi => cb_yinit h0 h1 (fun yt hy => cb_rel (cb_Sz_of h0 h1) hs hy ⟨by omega, fun i hi => absurd hi (Nat.not_lt_zero _)⟩ rfl hi))
def cb_Bd (C : Nat) (p : Int32) : Prop := p < 0 ∨ (¬ p < 0 ∧ nI C ≤ p)
theorem cb_code (p : Int32) {C : Nat} (hC : C ≤ 81) : cb_Bd C p ∨ ∃ j, j < C ∧ p = nI j := by
  by_cases h : p < 0
  · exact Or.inl (Or.inl h)
  · obtain ⟨j, hj, e⟩ := nI_of h
    by_cases h2 : j < C
    · exact Or.inr ⟨j, h2, e⟩
    · exact Or.inl (Or.inr ⟨h, by rw [e]; exact nI_le (by omega) hj⟩)
section
variable {fl fd fc ft fp : Int32} {da ta tg tA pc ip ps re sc ns : Nat → Int32}
theorem cb_xic0 {C : Nat} {p : Int32} {post : Int32 → Prop} (h : cb_Bd C p) (hp : post 0) : wpX_isCode post (fl, fd, nI C, ft, fp, da, ta, tg, tA, pc, ip, ps, re, sc, ns) p := by
  obtain a | ⟨a, b⟩ := h
  · exact br_t a hp
  · exact br_f a (br_t b hp)
theorem cb_xic1 {C j : Nat} {post : Int32 → Prop} (hC : C ≤ 81) (h : j < C) (hp : post 1) : wpX_isCode post (fl, fd, nI C, ft, fp, da, ta, tg, tA, pc, ip, ps, re, sc, ns) (nI j) :=
  br_f (nI_pos (by omega)) (br_f (nI_ge h (by omega)) hp)
theorem cb_xro2 {L D C T r : Nat} {P : Nat → Bool} {post : Int32 → Prop} (hz : cb_Sz L D C) (hs : cb_St L D C da ta) (ht : cb_To C T tg) (hi : cb_Po C P pc ip) (hp : post (if cb_ex (fun x => !P x && cb_ft L D T tg tA (nI r) x) C = true then 1 else 0)) : ∀ d x, x + d = C → (∀ y, y < x → ¬ (!P y && cb_ft L D T tg tA (nI r) y) = true) → wX_rulesOutAlone_2 post (nI r) (nI L) (nI D) (nI C) (nI T) fp da ta tg tA pc ip ps re sc ns (d + 1) (nI x) := by
  have h7 := hz.2.2.2.2.2.2
  intro d
  induction d with
  | zero =>
    intro x hx hn
    have e1 : x = C := by omega
    subst e1
    rw [if_neg (fun hc => by obtain ⟨y, a, b⟩ := (cb_ex_iff _ _).mp hc; exact hn y a b)] at hp
    exact br_t (nI_le (Nat.le_refl _) (by omega)) hp
  | succ d ih =>
    intro x hx hn
    have ex : (nI x).toNatClampNeg = x := nI_clamp (by omega)
    refine br_f (nI_ge (by omega) (by omega)) ⟨pk_in x 81 (by omega), ?_⟩
    rw [ex, hi.2 x (by omega)]
    have nx : ¬ (!P x && cb_ft L D T tg tA (nI r) x) = true → wX_rulesOutAlone_2 post (nI r) (nI L) (nI D) (nI C) (nI T) fp da ta tg tA pc ip ps re sc ns (d + 1) (nI (x + 1)) := by
      intro hq
      refine ih (x + 1) (by omega) ?_
      intro y hy
      by_cases e1 : y = x
      · rw [e1]; exact hq
      · exact hn y (by omega)
    by_cases hq : P x = true
    · rw [if_pos hq]
      exact br_f (by decide) (nm_r (nI_1 _) (nx (by simp [hq])))
    · rw [if_neg hq]
      refine br_t rfl (cb_xfab hz hs ht (show x < C by omega) ?_)
      by_cases hf : cb_ft L D T tg tA (nI r) x = true
      · rw [if_pos hf]
        rw [if_pos ((cb_ex_iff _ _).mpr ⟨x, by omega, by simp [hq, hf]⟩)] at hp
        exact br_f (by decide) hp
      · rw [if_neg hf]
        exact br_t rfl (nm_r (nI_1 _) (nx (by simp [hf])))
theorem cb_xus4 {L D C T : Nat} {P : Nat → Bool} {us : Nat → Bool} {post : Int32 → Prop} (hz : cb_Sz L D C) (hs : cb_St L D C da ta) (ht : cb_To C T tg) (hi : cb_Po C P pc ip) (hu : ∀ r, r < T → us r = cb_ex (fun x => !P x && cb_ft L D T tg tA (nI r) x) C) (hp : post (nI (cb_cn us T))) : ∀ d r, r + d = T → wX_useful_4 post (nI L) (nI D) (nI C) (nI T) fp da ta tg tA pc ip ps re sc ns (d + 1) (nI (cb_cn us r)) (nI r) := by
  have h8 := ht.1
  intro d
  induction d with
  | zero =>
    intro r hr
    have e1 : r = T := by omega
    subst e1
    exact br_t (nI_le (Nat.le_refl _) (by omega)) hp
  | succ d ih =>
    intro r hr
    refine br_f (nI_ge (by omega) (by omega)) ⟨C + 1, cb_xro2 hz hs ht hi ?_ C 0 (by omega) (fun y hy => absurd hy (Nat.not_lt_zero _))⟩
    rw [← hu r (by omega)]
    by_cases hq : us r = true
    · rw [if_pos hq]
      refine br_f (by decide) (nm_r (nI_1 _) (nm_r (nI_1 _) ?_))
      rw [← cb_cn_t hq]
      exact ih (r + 1) (by omega)
    · rw [if_neg hq]
      refine br_t rfl (nm_r (nI_1 _) ?_)
      rw [← cb_cn_f hq]
      exact ih (r + 1) (by omega)
end
section
variable {yl yd yc yr yf : Int32} {yg ya yw ye yz yt : Nat → Int32}
theorem cb_yic0 {C : Nat} {p : Int32} {post : Int32 → Prop} (h : cb_Bd C p) (hp : post 0) : wpY_isCode post (yl, yd, nI C, yr, yf, yg, ya, yw, ye, yz, yt) p := by
  obtain a | ⟨a, b⟩ := h
  · exact br_t a hp
  · exact br_f a (br_t b hp)
theorem cb_yic1 {C j : Nat} {post : Int32 → Prop} (hC : C ≤ 81) (h : j < C) (hp : post 1) : wpY_isCode post (yl, yd, nI C, yr, yf, yg, ya, yw, ye, yz, yt) (nI j) :=
  br_f (nI_pos (by omega)) (br_f (nI_ge h (by omega)) hp)
theorem cb_yco4 {L D C T : Nat} {P : Nat → Bool} {v : Int32} {post : Int32 → Prop} (hz : cb_Sz L D C) (hy : cb_Sy L D C yt) (ht : cb_To C T yg) (hP : P = cb_ft L D T yg ya (-1)) (hn : (∀ k, k < cb_cn P C → ¬ v = nI k) → post (-3)) (hs : ∀ x, x < C → P x = true → v = nI (cb_cn P x) → post (nI x)) : ∀ d y, y + d = C → (∀ k, k < cb_cn P y → ¬ v = nI k) → wY_code_4 post yl yd (nI C) (nI T) yf yg ya yw ye yz yt (d + 1) (v - nI (cb_cn P y)) (nI y) := by
  have h7 := hz.2.2.2.2.2.2
  intro d
  induction d with
  | zero =>
    intro y hd hv
    have e1 : y = C := by omega
    subst e1
    exact br_t (nI_le (Nat.le_refl _) (by omega)) (hn hv)
  | succ d ih =>
    intro y hd hv
    refine br_f (nI_ge (by omega) (by omega)) (cb_yag hz hy ht (show y < C by omega) ?_)
    rw [← hP]
    by_cases hq : P y = true
    · rw [if_pos hq]
      refine br_f (by decide) (br_c (fun h => hs y (by omega) hq (by grind)) (fun h => nm_r (e' := v - nI (cb_cn P (y + 1))) ?_ (nm_r (nI_1 _) (ih (y + 1) (by omega) ?_))))
      · rw [cb_cn_t hq, ← nI_1]
        grind
      · rw [cb_cn_t hq]
        intro k hk
        by_cases e1 : k = cb_cn P y
        · rw [e1]; intro hc; apply h; rw [hc]; exact Int32.sub_self _
        · exact hv k (by omega)
    · rw [if_neg hq]
      refine br_t rfl (nm_r (nI_1 _) ?_)
      rw [← cb_cn_f hq] at hv ⊢
      exact ih (y + 1) (by omega) hv
theorem cb_yus10 {L D C T : Nat} {P : Nat → Bool} {us : Nat → Bool} {post : Int32 → Prop} (hz : cb_Sz L D C) (hy : cb_Sy L D C yt) (ht : cb_To C T yg) (hu : ∀ r, r < T → (us r = true ↔ cb_cn P C < cb_cn (cb_ft L D T yg ya (nI r)) C)) (hp : post (nI (cb_cn us T))) : ∀ d r, r + d = T → wY_useful_10 post (nI (cb_cn P C)) yl yd (nI C) (nI T) yf yg ya yw ye yz yt (d + 1) (nI (cb_cn us r)) (nI r) := by
  have h8 := ht.1
  have h7 := hz.2.2.2.2.2.2
  intro d
  induction d with
  | zero =>
    intro r hr
    have e1 : r = T := by omega
    subst e1
    exact br_t (nI_le (Nat.le_refl _) (by omega)) hp
  | succ d ih =>
    intro r hr
    have c1 := cb_cn_le P C
    have c2 := cb_cn_le (cb_ft L D T yg ya (nI r)) C
    have hur := hu r (by omega)
    refine br_f (nI_ge (by omega) (by omega)) (cb_ycp hz hy ht (pk_le (cb_cn (cb_ft L D T yg ya (nI r)) C) (cb_cn P C) (fun h => nm_r (nI_1 _) ?_) (fun h => nm_r (nI_1 _) (nm_r (nI_1 _) ?_))))
    · rw [← cb_cn_f (P := us) (n := r) (fun hc => by have := hur.mp hc; omega)]
      exact ih (r + 1) (by omega)
    · rw [← cb_cn_t (P := us) (n := r) (hur.mpr h)]
      exact ih (r + 1) (by omega)
end
theorem i_vc_codes {k : Nat} {u : SX} {v : SY} (I : i_Rel k u v) (hk : k + 4 ≤ 2050) : wpX_codes (fun r => wpY_codes (fun r' => r' = r ∧ i_Rel (k + 4) u v) v) u := by
  obtain ⟨L, D, C, T, P, tg, tA, da, ta, pc, ip, ps, re, sc, ns, yw, ye, yz, yt, yf, rfl, rfl, hz, hs, hy, ht, hP, hi⟩ := I
  exact ⟨rfl, cb_rel hz hs hy ht hP hi⟩
theorem i_vc_told {k : Nat} {u : SX} {v : SY} (I : i_Rel k u v) (hk : k + 4 ≤ 2050) : wpX_told (fun r => wpY_told (fun r' => r' = r ∧ i_Rel (k + 4) u v) v) u := by
  obtain ⟨L, D, C, T, P, tg, tA, da, ta, pc, ip, ps, re, sc, ns, yw, ye, yz, yt, yf, rfl, rfl, hz, hs, hy, ht, hP, hi⟩ := I
  exact ⟨rfl, cb_rel hz hs hy ht hP hi⟩
theorem i_vc_possible {k : Nat} {u : SX} {v : SY} (I : i_Rel k u v) (hk : k + 4 ≤ 2050) : wpX_possible (fun r => wpY_possible (fun r' => r' = r ∧ i_Rel (k + 4) u v) v) u := by
  obtain ⟨L, D, C, T, P, tg, tA, da, ta, pc, ip, ps, re, sc, ns, yw, ye, yz, yt, yf, rfl, rfl, hz, hs, hy, ht, hP, hi⟩ := I
  exact cb_ycp hz hy ht ⟨by rw [cb_ft8 ht.1, ← hP], cb_rel hz hs hy ht hP hi⟩
theorem i_vc_answer {k : Nat} {u : SX} {v : SY} (I : i_Rel k u v) (hk : k + 4 ≤ 2050) (v1 : Int32) (v2 : Int32) : wpX_answer (fun r => wpY_answer (fun r' => r' = r ∧ i_Rel (k + 4) u v) v v1 v2) u v1 v2 := by
  obtain ⟨L, D, C, T, P, tg, tA, da, ta, pc, ip, ps, re, sc, ns, yw, ye, yz, yt, yf, rfl, rfl, hz, hs, hy, ht, hP, hi⟩ := I
  unfold wpX_answer wpY_answer
  dsimp only
  have h7 := hz.2.2.2.2.2.2
  have R := cb_rel (k := k + 4) (ps := ps) (re := re) (sc := sc) (ns := ns) (yw := yw) (ye := ye) (yz := yz) (yf := yf) hz hs hy ht hP hi
  obtain b1 | ⟨g, hg, rfl⟩ := cb_code v1 h7
  · exact cb_xic0 b1 (br_t rfl (cb_yic0 b1 (br_t rfl ⟨rfl, R⟩)))
  · obtain b2 | ⟨s, hh, rfl⟩ := cb_code v2 h7
    · exact cb_xic1 h7 hg (br_f (by decide) (cb_xic0 b2 (br_t rfl (cb_yic1 h7 hg (br_f (by decide) (cb_yic0 b2 (br_t rfl ⟨rfl, R⟩)))))))
    · exact cb_xic1 h7 hg (br_f (by decide) (cb_xic1 h7 hh (br_f (by decide) (cb_xans hz hs hg hh (cb_yic1 h7 hg (br_f (by decide) (cb_yic1 h7 hh (br_f (by decide) (cb_yans hz hy hg hh ⟨rfl, R⟩)))))))))
theorem i_vc_canBe {k : Nat} {u : SX} {v : SY} (I : i_Rel k u v) (hk : k + 4 ≤ 2050) (v1 : Int32) : wpX_canBe (fun r => wpY_canBe (fun r' => r' = r ∧ i_Rel (k + 4) u v) v v1) u v1 := by
  obtain ⟨L, D, C, T, P, tg, tA, da, ta, pc, ip, ps, re, sc, ns, yw, ye, yz, yt, yf, rfl, rfl, hz, hs, hy, ht, hP, hi⟩ := I
  unfold wpX_canBe wpY_canBe
  dsimp only
  have h7 := hz.2.2.2.2.2.2
  have R := cb_rel (k := k + 4) (ps := ps) (re := re) (sc := sc) (ns := ns) (yw := yw) (ye := ye) (yz := yz) (yf := yf) hz hs hy ht hP hi
  obtain b1 | ⟨g, hg, rfl⟩ := cb_code v1 h7
  · exact cb_xic0 b1 (br_t rfl (cb_yic0 b1 (br_t rfl ⟨rfl, R⟩)))
  · have eg : (nI g).toNatClampNeg = g := nI_clamp (by omega)
    refine cb_xic1 h7 hg (br_f (by decide) ⟨pk_in g 81 (by omega), ?_⟩)
    rw [eg, hi.2 g hg]
    have hP2 : cb_ft L D T tg tA (-1) = P := by rw [cb_ft8 ht.1, hP]
    by_cases hq : P g = true
    · rw [if_pos hq]
      refine br_f (by decide) (cb_yic1 h7 hg (br_f (by decide) (cb_yag hz hy ht hg ?_)))
      rw [hP2, if_pos hq]
      exact br_f (by decide) ⟨rfl, R⟩
    · rw [if_neg hq]
      refine br_t rfl (cb_yic1 h7 hg (br_f (by decide) (cb_yag hz hy ht hg ?_)))
      rw [hP2, if_neg hq]
      exact br_t rfl ⟨rfl, R⟩
theorem i_vc_code {k : Nat} {u : SX} {v : SY} (I : i_Rel k u v) (hk : k + 4 ≤ 2050) (v1 : Int32) : wpX_code (fun r => wpY_code (fun r' => r' = r ∧ i_Rel (k + 4) u v) v v1) u v1 := by
  obtain ⟨L, D, C, T, P, tg, tA, da, ta, pc, ip, ps, re, sc, ns, yw, ye, yz, yt, yf, rfl, rfl, hz, hs, hy, ht, hP, hi⟩ := I
  have h7 := hz.2.2.2.2.2.2
  have c1 := cb_cn_le P C
  have R := cb_rel (k := k + 4) (ps := ps) (re := re) (sc := sc) (ns := ns) (yw := yw) (ye := ye) (yz := yz) (yf := yf) hz hs hy ht hP hi
  have hP2 : P = cb_ft L D T tg tA (-1) := by rw [cb_ft8 ht.1, hP]
  have e0 : v1 - nI (cb_cn P 0) = v1 := by
    show v1 - nI 0 = v1
    rw [nI_0, Int32.sub_zero]
  have Y : ∀ post : Int32 → Prop, ((∀ k, k < cb_cn P C → ¬ v1 = nI k) → post (-3)) → (∀ x, x < C → P x = true → v1 = nI (cb_cn P x) → post (nI x)) → wpY_code post (nI L, nI D, nI C, nI T, yf, tg, tA, yw, ye, yz, yt) v1 := by
    intro post hn hx
    have h := cb_yco4 (yl := nI L) (yd := nI D) (yf := yf) (yw := yw) (ye := ye) (yz := yz) hz hy ht hP2 hn hx C 0 (by omega) (fun k hk => absurd hk (Nat.not_lt_zero _))
    rw [e0] at h
    exact ⟨C + 1, h⟩
  by_cases h0 : v1 < 0
  · refine br_t h0 (Y _ (fun _ => ⟨rfl, R⟩) (fun x hx hx2 e => ?_))
    have hx3 := cb_cn_le P x
    rw [e] at h0
    exact absurd h0 (nI_pos (by omega))
  · obtain ⟨j, hj, rfl⟩ := nI_of h0
    refine br_f h0 (pk_lt j (cb_cn P C) (fun h => ⟨pk_in j 81 (by omega), Y _ (fun hn => absurd rfl (hn j h)) (fun x hx hx2 e => ⟨?_, R⟩)⟩) (fun h => Y _ (fun _ => ⟨rfl, R⟩) (fun x hx hx2 e => ?_)))
    · have hx3 := cb_cn_le P x
      rw [nI_eq hj (by omega)] at e
      rw [nI_clamp hj, e]
      exact (hi.1 x hx hx2).symm
    · have hx3 := cb_cn_lt P hx hx2
      rw [nI_eq hj (by omega)] at e
      omega
theorem cb_peg (p : Int32) : p < 0 ∨ (¬ p < 0 ∧ 4 < p) ∨ (¬ p < 0 ∧ ¬ 4 < p ∧ p ≤ 4) := by
  by_cases h : p < 0
  · exact Or.inl h
  · by_cases h4 : 4 < p
    · exact Or.inr (Or.inl ⟨h, h4⟩)
    · exact Or.inr (Or.inr ⟨h, h4, Int32.not_lt.mp h4⟩)
theorem i_vc_tell {k : Nat} {u : SX} {v : SY} (I : i_Rel k u v) (hk : k + 4 ≤ 2050) (v1 : Int32) (v2 : Int32) (v3 : Int32) : wpX_tell (fun r u' => wpY_tell (fun r' v' => r' = r ∧ i_Rel (k + 4) u' v') v v1 v2 v3) u v1 v2 v3 := by
  obtain ⟨L, D, C, T, P, tg, tA, da, ta, pc, ip, ps, re, sc, ns, yw, ye, yz, yt, yf, rfl, rfl, hz, hs, hy, ht, hP, hi⟩ := I
  unfold wpX_tell wpY_tell
  dsimp only
  have h7 := hz.2.2.2.2.2.2
  have h8 := ht.1
  have R := cb_rel (k := k + 4) (ps := ps) (re := re) (sc := sc) (ns := ns) (yw := yw) (ye := ye) (yz := yz) (yf := yf) hz hs hy ht hP hi
  obtain b1 | ⟨g, hg, rfl⟩ := cb_code v1 h7
  · exact cb_xic0 b1 (br_t rfl (cb_yic0 b1 (br_t rfl ⟨rfl, R⟩)))
  obtain b2 | ⟨b2, b3⟩ | ⟨b2, b3, b4⟩ := cb_peg v2
  · exact cb_xic1 h7 hg (br_f (by decide) (br_t b2 (br_t rfl (cb_yic1 h7 hg (br_f (by decide) (br_t b2 ⟨rfl, R⟩))))))
  · exact cb_xic1 h7 hg (br_f (by decide) (br_f b2 (br_t b3 (br_t rfl (cb_yic1 h7 hg (br_f (by decide) (br_f b2 (br_t b3 ⟨rfl, R⟩))))))))
  obtain c2 | ⟨c2, c3⟩ | ⟨c2, c3, c4⟩ := cb_peg v3
  · exact cb_xic1 h7 hg (br_f (by decide) (br_f b2 (br_f b3 (br_f (by decide) (br_t c2 (br_t rfl (cb_yic1 h7 hg (br_f (by decide) (br_f b2 (br_f b3 (br_t c2 ⟨rfl, R⟩)))))))))))
  · exact cb_xic1 h7 hg (br_f (by decide) (br_f b2 (br_f b3 (br_f (by decide) (br_f c2 (br_t c3 (br_t rfl (cb_yic1 h7 hg (br_f (by decide) (br_f b2 (br_f b3 (br_f c2 (br_f (Int32.not_le.mpr c3) ⟨rfl, R⟩)))))))))))))
  have er : (nI T).toNatClampNeg = T := nI_clamp (by omega)
  refine cb_xic1 h7 hg (br_f (by decide) (br_f b2 (br_f b3 (br_f (by decide) (br_f c2 (br_f c3 (br_f (by decide) (pk_lt T 8 (fun h => ?_) (fun h => ?_)))))))))
  · refine ⟨pk_in T 8 h, nm_e ⟨pk_in T 8 h, nm_e (nm_r (nI_1 _) ?_)⟩⟩
    rw [er]
    have ht' : cb_To C (T + 1) (upd tg T (nI g)) := by
      refine ⟨by omega, fun i hi2 => ?_⟩
      by_cases e1 : i = T
      · subst e1; exact ⟨g, hg, pk_us⟩
      · rw [pk_un e1]; exact ht.2 i (by omega)
    refine cb_xfp hz hs ht' rfl (fun pc ip hi' => ?_)
    refine cb_yic1 h7 hg (br_f (by decide) (br_f b2 (br_f b3 (br_f c2 (br_t c4 (br_f ?_ ⟨pk_in T 8 h, nm_e ⟨pk_in T 8 h, nm_e (nm_r (nI_1 _) ?_)⟩⟩))))))
    · exact fun hc => by rw [show (8 : Int32) = nI 8 from rfl, nI_eq (by omega) (by omega)] at hc; omega
    · exact cb_ycp hz hy ht' ⟨by rw [cb_ft8 (by omega)], cb_rel hz hs hy ht' rfl hi'⟩
  · exact cb_yic1 h7 hg (br_f (by decide) (br_f b2 (br_f b3 (br_f c2 (br_t c4 (br_t (by rw [show T = 8 by omega]; rfl) ⟨rfl, R⟩))))))
theorem i_vc_forget {k : Nat} {u : SX} {v : SY} (I : i_Rel k u v) (hk : k + 4 ≤ 2050) : wpX_forget (fun r u' => wpY_forget (fun r' v' => r' = r ∧ i_Rel (k + 4) u' v') v) u := by
  obtain ⟨L, D, C, T, P, tg, tA, da, ta, pc, ip, ps, re, sc, ns, yw, ye, yz, yt, yf, rfl, rfl, hz, hs, hy, ht, hP, hi⟩ := I
  have h7 := hz.2.2.2.2.2.2
  have h8 := ht.1
  have R := cb_rel (k := k + 4) (ps := ps) (re := re) (sc := sc) (ns := ns) (yw := yw) (ye := ye) (yz := yz) (yf := yf) hz hs hy ht hP hi
  refine pk_eq T 0 (fun h => ?_) (fun h => ?_)
  · subst h
    exact br_t rfl ⟨rfl, R⟩
  · obtain ⟨T', rfl⟩ : ∃ t, T = t + 1 := ⟨T - 1, by omega⟩
    have ht' : cb_To C T' tg := ⟨by omega, fun i hi2 => ht.2 i (by omega)⟩
    refine nm_r (nI_pred _) (cb_xfp hz hs ht' rfl (fun pc ip hi' => ?_))
    exact br_f (nI_ne0 (by omega) (by omega)) (nm_r (nI_pred _) (cb_ycp hz hy ht' ⟨by rw [cb_ft8 (by omega)], cb_rel hz hs hy ht' rfl hi'⟩))
theorem i_vc_parts {k : Nat} {u : SX} {v : SY} (I : i_Rel k u v) (hk : k + 4 ≤ 2050) (v1 : Int32) : wpX_parts (fun r u' => wpY_parts (fun r' v' => r' = r ∧ i_Rel (k + 4) u' v') v v1) u v1 := by
  obtain ⟨L, D, C, T, P, tg, tA, da, ta, pc, ip, ps, re, sc, ns, yw, ye, yz, yt, yf, rfl, rfl, hz, hs, hy, ht, hP, hi⟩ := I
  unfold wpX_parts wpY_parts
  dsimp only
  have h7 := hz.2.2.2.2.2.2
  have hP2 : P = cb_ft L D T tg tA (-1) := by rw [cb_ft8 ht.1, hP]
  obtain b1 | ⟨g, hg, rfl⟩ := cb_code v1 h7
  · exact cb_xic0 b1 (br_t rfl (cb_yic0 b1 (br_t rfl ⟨rfl, cb_rel hz hs hy ht hP hi⟩)))
  · have hb : ∀ a, cb_sz L D C P g a ≤ 81 := fun a => Nat.le_trans (cb_sz_le _ _ _ _ _ _) h7
    refine cb_xic1 h7 hg (br_f (by decide) (cb_xmp hz hs hi hg (fun ps hv => ⟨46, cb_xp19 hb hv ?_ 45 0 (by omega)⟩)))
    refine cb_yic1 h7 hg (br_f (by decide) (cb_ymp hz hy ht hP2 hg (fun yz hv => ⟨61, cb_yp19 hb hv ?_ 60 0 (by omega)⟩)))
    exact ⟨congrArg nI (cb_cn_60 (cb_sz_0 hz P hg) 15), cb_rel hz hs hy ht hP hi⟩
theorem i_vc_worst {k : Nat} {u : SX} {v : SY} (I : i_Rel k u v) (hk : k + 4 ≤ 2050) (v1 : Int32) : wpX_worst (fun r u' => wpY_worst (fun r' v' => r' = r ∧ i_Rel (k + 4) u' v') v v1) u v1 := by
  obtain ⟨L, D, C, T, P, tg, tA, da, ta, pc, ip, ps, re, sc, ns, yw, ye, yz, yt, yf, rfl, rfl, hz, hs, hy, ht, hP, hi⟩ := I
  unfold wpX_worst wpY_worst
  dsimp only
  have h7 := hz.2.2.2.2.2.2
  have hP2 : P = cb_ft L D T tg tA (-1) := by rw [cb_ft8 ht.1, hP]
  obtain b1 | ⟨g, hg, rfl⟩ := cb_code v1 h7
  · exact cb_xic0 b1 (br_t rfl (cb_yic0 b1 (br_t rfl ⟨rfl, cb_rel hz hs hy ht hP hi⟩)))
  · exact cb_xic1 h7 hg (br_f (by decide) (cb_xgp hz hs hi hg (fun ps => cb_yic1 h7 hg (br_f (by decide) (cb_ygp hz hy ht hP2 hg (fun yz => ⟨rfl, cb_rel hz hs hy ht hP hi⟩))))))
theorem i_vc_weight {k : Nat} {u : SX} {v : SY} (I : i_Rel k u v) (hk : k + 4 ≤ 2050) (v1 : Int32) : wpX_weight (fun r u' => wpY_weight (fun r' v' => r' = r ∧ i_Rel (k + 4) u' v') v v1) u v1 := by
  obtain ⟨L, D, C, T, P, tg, tA, da, ta, pc, ip, ps, re, sc, ns, yw, ye, yz, yt, yf, rfl, rfl, hz, hs, hy, ht, hP, hi⟩ := I
  unfold wpX_weight wpY_weight
  dsimp only
  have h7 := hz.2.2.2.2.2.2
  have hP2 : P = cb_ft L D T tg tA (-1) := by rw [cb_ft8 ht.1, hP]
  obtain b1 | ⟨g, hg, rfl⟩ := cb_code v1 h7
  · exact cb_xic0 b1 (br_t rfl (cb_yic0 b1 (br_t rfl ⟨rfl, cb_rel hz hs hy ht hP hi⟩)))
  · exact cb_xic1 h7 hg (br_f (by decide) (cb_xss hz hs hi hg (fun ps => cb_yic1 h7 hg (br_f (by decide) (cb_yss hz hy ht hP2 hg (fun yz => ⟨rfl, cb_rel hz hs hy ht hP hi⟩))))))
theorem i_vc_safest {k : Nat} {u : SX} {v : SY} (I : i_Rel k u v) (hk : k + 4 ≤ 2050) : wpX_safest (fun r u' => wpY_safest (fun r' v' => r' = r ∧ i_Rel (k + 4) u' v') v) u := by
  obtain ⟨L, D, C, T, P, tg, tA, da, ta, pc, ip, ps, re, sc, ns, yw, ye, yz, yt, yf, rfl, rfl, hz, hs, hy, ht, hP, hi⟩ := I
  unfold wpX_safest wpY_safest
  dsimp only
  have h7 := hz.2.2.2.2.2.2
  have c1 := cb_cn_le P C
  have hP2 : P = cb_ft L D T tg tA (-1) := by rw [cb_ft8 ht.1, hP]
  have hb : ∀ g, cb_mx (cb_sz L D C P g) 45 < 1000000 := fun g => Nat.lt_of_le_of_lt (cb_mx_le (fun a => Nat.le_trans (cb_sz_le _ _ _ _ _ _) h7) 45) (by omega)
  refine pk_eq (cb_cn P C) 0 (fun h => ?_) (fun h => ?_)
  · refine cb_ycp hz hy ht ?_
    rw [← hP2, h]
    exact br_t rfl ⟨rfl, h ▸ cb_rel hz hs hy ht hP hi⟩
  · refine ⟨C + 1, cb_xb18 (sf := fun g => cb_mx (cb_sz L D C P g) 45) hz hi hb (fun g ps q hg hq => br_t rfl (cb_xgp hz hs hi hg hq)) (fun ps => ?_) C 0 (-3) 0 ps (by omega) (Or.inl ⟨rfl, rfl⟩)⟩
    refine cb_ycp hz hy ht ?_
    rw [← hP2]
    refine br_f (nI_ne0 (by omega) (by omega)) ⟨C + 1, cb_yb18 (sf := fun g => cb_mx (cb_sz L D C P g) 45) hz hy ht hP2 hb (fun g yz q hg hq => br_f (by decide) (cb_ygp hz hy ht hP2 hg hq)) (fun yz => ⟨rfl, cb_rel hz hs hy ht hP hi⟩) C 0 (-1) 0 yz (by omega) (Or.inl ⟨rfl, rfl⟩)⟩
theorem i_vc_sharpest {k : Nat} {u : SX} {v : SY} (I : i_Rel k u v) (hk : k + 4 ≤ 2050) : wpX_sharpest (fun r u' => wpY_sharpest (fun r' v' => r' = r ∧ i_Rel (k + 4) u' v') v) u := by
  obtain ⟨L, D, C, T, P, tg, tA, da, ta, pc, ip, ps, re, sc, ns, yw, ye, yz, yt, yf, rfl, rfl, hz, hs, hy, ht, hP, hi⟩ := I
  unfold wpX_sharpest wpY_sharpest
  dsimp only
  have h7 := hz.2.2.2.2.2.2
  have c1 := cb_cn_le P C
  have hP2 : P = cb_ft L D T tg tA (-1) := by rw [cb_ft8 ht.1, hP]
  have hb : ∀ g, cb_sq (cb_sz L D C P g) 45 < 1000000 := fun g => Nat.lt_of_le_of_lt (cb_sq_le (b := 81) (fun a => Nat.le_trans (cb_sz_le _ _ _ _ _ _) h7) 45) (by omega)
  refine pk_eq (cb_cn P C) 0 (fun h => ?_) (fun h => ?_)
  · refine cb_ycp hz hy ht ?_
    rw [← hP2, h]
    exact br_t rfl ⟨rfl, h ▸ cb_rel hz hs hy ht hP hi⟩
  · refine ⟨C + 1, cb_xb18 (sf := fun g => cb_sq (cb_sz L D C P g) 45) hz hi hb (fun g ps q hg hq => br_f (by decide) (cb_xss hz hs hi hg hq)) (fun ps => ?_) C 0 (-3) 0 ps (by omega) (Or.inl ⟨rfl, rfl⟩)⟩
    refine cb_ycp hz hy ht ?_
    rw [← hP2]
    refine br_f (nI_ne0 (by omega) (by omega)) ⟨C + 1, cb_yb18 (sf := fun g => cb_sq (cb_sz L D C P g) 45) hz hy ht hP2 hb (fun g yz q hg hq => br_t rfl (cb_yss hz hy ht hP2 hg hq)) (fun yz => ⟨rfl, cb_rel hz hs hy ht hP hi⟩) C 0 (-1) 0 yz (by omega) (Or.inl ⟨rfl, rfl⟩)⟩
theorem i_vc_useful {k : Nat} {u : SX} {v : SY} (I : i_Rel k u v) (hk : k + 4 ≤ 2050) : wpX_useful (fun r => wpY_useful (fun r' => r' = r ∧ i_Rel (k + 4) u v) v) u := by
  obtain ⟨L, D, C, T, P, tg, tA, da, ta, pc, ip, ps, re, sc, ns, yw, ye, yz, yt, yf, rfl, rfl, hz, hs, hy, ht, hP, hi⟩ := I
  have h7 := hz.2.2.2.2.2.2
  have h8 := ht.1
  have hP2 : P = cb_ft L D T tg tA (-1) := by rw [cb_ft8 ht.1, hP]
  refine ⟨T + 1, cb_xus4 (us := fun r => cb_ex (fun x => !P x && cb_ft L D T tg tA (nI r) x) C) hz hs ht hi (fun r hr => rfl) ?_ T 0 (by omega)⟩
  refine cb_ycp hz hy ht ⟨T + 1, ?_⟩
  rw [← hP2]
  refine cb_yus10 (P := P) (us := fun r => cb_ex (fun x => !P x && cb_ft L D T tg tA (nI r) x) C) hz hy ht (fun r hr => ?_) ⟨rfl, cb_rel hz hs hy ht hP hi⟩ T 0 (by omega)
  have sub : ∀ x, x < C → P x = true → cb_ft L D T tg tA (nI r) x = true := by
    intro x hx hpx
    rw [hP] at hpx
    refine (cb_al_iff _ _).mpr (fun i hi2 => ?_)
    have a := (cb_al_iff _ _).mp hpx i hi2
    have n8 : ∀ i, i < 8 → ¬ nI i = 8 := by decide +kernel
    simp only [n8 i (by omega), decide_false, Bool.false_or] at a
    simp only [a, Bool.or_true]
  constructor
  · intro h
    obtain ⟨x, a, b⟩ := (cb_ex_iff _ _).mp h
    refine cb_cn_ssub sub ⟨x, a, ?_⟩
    simp only [Bool.and_eq_true, Bool.not_eq_true'] at b
    exact ⟨by rw [b.1]; decide, b.2⟩
  · intro h
    refine Classical.byContradiction (fun hc => ?_)
    have : cb_cn (cb_ft L D T tg tA (nI r)) C ≤ cb_cn P C := by
      refine cb_cn_sub (fun x hx hfx => Classical.byContradiction (fun hq => hc ((cb_ex_iff _ _).mpr ⟨x, hx, ?_⟩)))
      simp [hq, hfx]
    omega
end
section
/-! needs of sets of possible codes: the mathematics -/
def cb_cl (L D : Nat) (K : Nat → Nat) (M g a : Nat) : Nat := cb_mk (fun j => cb_an L D g (K j) == a) M
def cb_rm (L D : Nat) (K : Nat → Nat) (M g k : Nat) : Nat := if g = K k then 0 else cb_cl L D K M g (cb_an L D g (K k))
def cb_nm (f : Nat → Nat) (s : Nat) : Nat → Nat
  | 0 => 0
  | n + 1 => if s.testBit n = true then (if f n ≤ cb_nm f s n then cb_nm f s n else f n) else cb_nm f s n
theorem cb_nm_le {f : Nat → Nat} {s v : Nat} (n : Nat) : cb_nm f s n ≤ v ↔ ∀ k, k < n → s.testBit k = true → f k ≤ v := by
  induction n with
  | zero => exact ⟨fun _ k hk => absurd hk (Nat.not_lt_zero _), fun _ => Nat.zero_le _⟩
  | succ n ih =>
    have st : (∀ k, k < n + 1 → s.testBit k = true → f k ≤ v) ↔ (cb_nm f s n ≤ v ∧ (s.testBit n = true → f n ≤ v)) := by
      rw [ih]
      constructor
      · intro h
        exact ⟨fun k hk => h k (by omega), h n (by omega)⟩
      · intro h k hk hb
        by_cases e : k = n
        · subst e; exact h.2 hb
        · exact h.1 k (by omega) hb
    rw [st]
    by_cases hb : s.testBit n = true
    · by_cases hf : f n ≤ cb_nm f s n
      · have e : cb_nm f s (n + 1) = cb_nm f s n := (if_pos hb).trans (if_pos hf)
        rw [e]
        exact ⟨fun h => ⟨h, fun _ => Nat.le_trans hf h⟩, fun h => h.1⟩
      · have e : cb_nm f s (n + 1) = f n := (if_pos hb).trans (if_neg hf)
        rw [e]
        exact ⟨fun h => ⟨by omega, fun _ => h⟩, fun h => h.2 hb⟩
    · have e : cb_nm f s (n + 1) = cb_nm f s n := if_neg hb
      rw [e]
      exact ⟨fun h => ⟨h, fun z => absurd z hb⟩, fun h => h.1⟩
theorem cb_nm_cg {f f' : Nat → Nat} {s n : Nat} (h : ∀ k, k < n → f k = f' k) : cb_nm f s n = cb_nm f' s n := by
  induction n with
  | zero => rfl
  | succ n ih =>
    show (if _ then (if f n ≤ cb_nm f s n then cb_nm f s n else f n) else cb_nm f s n) = (if _ then (if f' n ≤ cb_nm f' s n then cb_nm f' s n else f' n) else cb_nm f' s n)
    rw [ih (fun k hk => h k (by omega)), h n (by omega)]
def cb_mn (al : Nat → Bool) (w : Nat → Nat) : Nat → Nat
  | 0 => 9
  | n + 1 => if al n = true then (if cb_mn al w n ≤ w n then cb_mn al w n else w n) else cb_mn al w n
theorem cb_mn_9 (al : Nat → Bool) (w : Nat → Nat) (n : Nat) : cb_mn al w n ≤ 9 := by
  induction n with
  | zero => exact Nat.le_refl _
  | succ n ih =>
    show (if _ then (if _ then _ else _) else _) ≤ 9
    split
    · split <;> omega
    · exact ih
theorem cb_mn_le {al : Nat → Bool} {w : Nat → Nat} {v : Nat} (n : Nat) : cb_mn al w n ≤ v ↔ 9 ≤ v ∨ ∃ g, g < n ∧ al g = true ∧ w g ≤ v := by
  induction n with
  | zero => exact ⟨fun h => Or.inl h, fun h => h.elim id (fun ⟨g, hg, _⟩ => absurd hg (Nat.not_lt_zero _))⟩
  | succ n ih =>
    have st : (9 ≤ v ∨ ∃ g, g < n + 1 ∧ al g = true ∧ w g ≤ v) ↔ (cb_mn al w n ≤ v ∨ (al n = true ∧ w n ≤ v)) := by
      rw [ih]
      constructor
      · rintro (h | ⟨g, a, b, c⟩)
        · exact Or.inl (Or.inl h)
        · by_cases e : g = n
          · subst e; exact Or.inr ⟨b, c⟩
          · exact Or.inl (Or.inr ⟨g, by omega, b, c⟩)
      · rintro ((h | ⟨g, a, b, c⟩) | ⟨b, c⟩)
        · exact Or.inl h
        · exact Or.inr ⟨g, by omega, b, c⟩
        · exact Or.inr ⟨n, by omega, b, c⟩
    rw [st]
    by_cases hb : al n = true
    · by_cases hf : cb_mn al w n ≤ w n
      · have e : cb_mn al w (n + 1) = cb_mn al w n := (if_pos hb).trans (if_pos hf)
        rw [e]
        exact ⟨fun h => Or.inl h, fun h => h.elim id (fun z => Nat.le_trans hf z.2)⟩
      · have e : cb_mn al w (n + 1) = w n := (if_pos hb).trans (if_neg hf)
        rw [e]
        exact ⟨fun h => Or.inr ⟨hb, h⟩, fun h => h.elim (fun z => by omega) (fun z => z.2)⟩
    · have e : cb_mn al w (n + 1) = cb_mn al w n := if_neg hb
      rw [e]
      exact ⟨fun h => Or.inl h, fun h => h.elim id (fun z => absurd z.1 hb)⟩
theorem cb_mn_cg {al : Nat → Bool} {w w' : Nat → Nat} (h : ∀ g, w g = w' g) (n : Nat) : cb_mn al w n = cb_mn al w' n := by
  have : w = w' := funext h
  rw [this]
/-- may g be guessed with the set s (kept: it must be in it) -/
def cb_ok (K : Nat → Nat) (M : Nat) (kb : Bool) (s g : Nat) : Bool := !kb || cb_ex (fun k => s.testBit k && (K k == g)) M
theorem cb_ok_of {K : Nat → Nat} {M : Nat} {kb : Bool} {s g : Nat} (k : Nat) (hk : k < M) (hb : s.testBit k = true) (e : K k = g) : cb_ok K M kb s g = true := by
  unfold cb_ok
  rw [(cb_ex_iff _ _).mpr ⟨k, hk, by simp [hb, e]⟩, Bool.or_true]
def cb_W (L D : Nat) (K : Nat → Nat) (M : Nat) (V : Nat → Nat) (g s : Nat) : Nat := cb_nm (fun k => V (cb_rm L D K M g k &&& s)) s M + 1
/-- the table of needs when the sets below the argument are done -/
def cb_tb (L D C : Nat) (K : Nat → Nat) (M : Nat) (kb : Bool) : Nat → Nat → Nat
  | 0 => fun _ => 0
  | s + 1 => fun t => if t = s then (if s = 0 then 0 else cb_mn (cb_ok K M kb s) (fun g => cb_W L D K M (fun t => if t = s then 9 else cb_tb L D C K M kb s t) g s) C) else cb_tb L D C K M kb s t
def cb_V (L D C : Nat) (K : Nat → Nat) (M : Nat) (kb : Bool) (t : Nat) : Nat := cb_tb L D C K M kb (t + 1) t
section
variable {L D C M : Nat} {K : Nat → Nat} {kb : Bool}
theorem cb_tb_V : ∀ s t, t < s → cb_tb L D C K M kb s t = cb_V L D C K M kb t := by
  intro s
  induction s with
  | zero => intro t ht; exact absurd ht (Nat.not_lt_zero _)
  | succ s ih =>
    intro t ht
    by_cases e : t = s
    · subst e; rfl
    · have e1 : cb_tb L D C K M kb (s + 1) t = cb_tb L D C K M kb s t := if_neg e
      rw [e1]
      exact ih t (by omega)
theorem cb_tb_9 : ∀ s t, cb_tb L D C K M kb s t ≤ 9 := by
  intro s
  induction s with
  | zero => intro t; exact Nat.zero_le _
  | succ s ih =>
    intro t
    show (if _ then (if _ then _ else _) else _) ≤ 9
    split
    · split
      · omega
      · exact cb_mn_9 _ _ _
    · exact ih t
theorem cb_V_0 : cb_V L D C K M kb 0 = 0 := rfl
theorem cb_V_s {s : Nat} (hs : s ≠ 0) : cb_V L D C K M kb s = cb_mn (cb_ok K M kb s) (fun g => cb_W L D K M (fun t => if t = s then 9 else cb_V L D C K M kb t) g s) C := by
  have e1 : cb_V L D C K M kb s = cb_mn (cb_ok K M kb s) (fun g => cb_W L D K M (fun t => if t = s then 9 else cb_tb L D C K M kb s t) g s) C := (if_pos rfl).trans (if_neg hs)
  rw [e1]
  apply cb_mn_cg
  intro g
  unfold cb_W
  congr 1
  apply cb_nm_cg
  intro k hk
  have hle : cb_rm L D K M g k &&& s ≤ s := Nat.and_le_right
  by_cases e : cb_rm L D K M g k &&& s = s
  · simp only [e, if_true]
  · simp only [e, if_false]
    exact cb_tb_V s _ (by omega)
theorem cb_V_le {s n : Nat} (hs : s ≠ 0) (hn : n < 8) : cb_V L D C K M kb s ≤ n + 1 ↔ ∃ g, g < C ∧ cb_ok K M kb s g = true ∧ ∀ k, k < M → s.testBit k = true → (if cb_rm L D K M g k &&& s = s then 9 else cb_V L D C K M kb (cb_rm L D K M g k &&& s)) ≤ n := by
  rw [cb_V_s hs, cb_mn_le]
  constructor
  · rintro (h | ⟨g, a, b, c⟩)
    · omega
    · exact ⟨g, a, b, (cb_nm_le M).mp (by dsimp only [cb_W] at c; omega)⟩
  · rintro ⟨g, a, b, c⟩
    have := (cb_nm_le (f := fun k => if cb_rm L D K M g k &&& s = s then 9 else cb_V L D C K M kb (cb_rm L D K M g k &&& s)) M).mpr c
    exact Or.inr ⟨g, a, b, by dsimp only [cb_W]; omega⟩
theorem cb_V_pos {s : Nat} (hs : s ≠ 0) : 1 ≤ cb_V L D C K M kb s := by
  refine Classical.byContradiction (fun hc => ?_)
  have h : cb_V L D C K M kb s ≤ 0 := by omega
  rw [cb_V_s hs, cb_mn_le] at h
  rcases h with h | ⟨g, a, b, c⟩
  · omega
  · unfold cb_W at c
    omega
/-- the codes K 0 .. K (M - 1) are codes, one each -/
def cb_Kg (C M : Nat) (K : Nat → Nat) : Prop := (∀ k, k < M → K k < C) ∧ ∀ k j, k < M → j < M → K k = K j → k = j
theorem cb_V_cd (hz : cb_Sz L D C) (hK : cb_Kg C M K) (hM : M ≤ 8) : ∀ s, s < 2 ^ M → cb_V L D C K M kb s ≤ cb_cn (fun k => s.testBit k) M := by
  intro s
  induction s using Nat.strongRecOn with
  | _ s ih =>
    intro hs
    by_cases h0 : s = 0
    · subst h0; rw [cb_V_0]; exact Nat.zero_le _
    · obtain ⟨k0, hk0, hb0⟩ := cb_nz hs h0
      have hc8 := cb_cn_le (fun k => s.testBit k) M
      have hcp : 1 ≤ cb_cn (fun k => s.testBit k) M := by
        have := cb_cn_lt (fun k => s.testBit k) hk0 hb0
        omega
      obtain ⟨n, en⟩ : ∃ n, cb_cn (fun k => s.testBit k) M = n + 1 := ⟨cb_cn (fun k => s.testBit k) M - 1, by omega⟩
      rw [en]
      refine (cb_V_le h0 (by omega)).mpr ⟨K k0, hK.1 k0 hk0, cb_ok_of k0 hk0 hb0 rfl, fun k hk hb => ?_⟩
      by_cases e : K k0 = K k
      · have er : cb_rm L D K M (K k0) k = 0 := if_pos e
        rw [er, Nat.zero_and, if_neg (fun z => h0 z.symm), cb_V_0]
        exact Nat.zero_le _
      · have er : cb_rm L D K M (K k0) k = cb_cl L D K M (K k0) (cb_an L D (K k0) (K k)) := if_neg e
        rw [er]
        have hne : ¬ cb_an L D (K k0) (K k0) = cb_an L D (K k0) (K k) := by
          intro z
          have z1 := (cb_an10 hz (hK.1 k0 hk0) (hK.1 k0 hk0)).mpr rfl
          exact e ((cb_an10 hz (hK.1 k0 hk0) (hK.1 k hk)).mp (by rw [← z]; exact z1))
        have hb1 : ¬ (cb_cl L D K M (K k0) (cb_an L D (K k0) (K k)) &&& s).testBit k0 = true := by
          rw [Nat.testBit_and]
          unfold cb_cl
          rw [cb_mk_bit]
          simp [hne]
        have hle : cb_cl L D K M (K k0) (cb_an L D (K k0) (K k)) &&& s ≤ s := Nat.and_le_right
        have hns : ¬ (cb_cl L D K M (K k0) (cb_an L D (K k0) (K k)) &&& s) = s := by
          intro z
          rw [z] at hb1
          exact hb1 hb0
        rw [if_neg hns]
        refine Nat.le_trans (ih _ (by omega) (by omega)) ?_
        have := cb_cn_ssub (P := fun j => (cb_cl L D K M (K k0) (cb_an L D (K k0) (K k)) &&& s).testBit j) (Q := fun j => s.testBit j) (n := M) (fun j hj hj2 => by
          simp only [Nat.testBit_and, Bool.and_eq_true] at hj2
          exact hj2.2) ⟨k0, hk0, hb1, hb0⟩
        omega
theorem cb_V_8 (hz : cb_Sz L D C) (hK : cb_Kg C M K) (hM : M ≤ 8) {s : Nat} (hs : s < 2 ^ M) : cb_V L D C K M kb s ≤ 8 :=
  Nat.le_trans (cb_V_cd hz hK hM s hs) (Nat.le_trans (cb_cn_le _ _) hM)
/-- after the guess g, with the set s, each part needs at most m guesses -/
def cb_LV (L D C : Nat) (K : Nat → Nat) (M : Nat) (kb : Bool) (m g s : Nat) : Prop := ∀ k, k < M → s.testBit k = true → g = K k ∨ cb_V L D C K M kb (cb_cl L D K M g (cb_an L D g (K k)) &&& s) ≤ m
theorem cb_LV_rm {m g s : Nat} : cb_LV L D C K M kb m g s ↔ ∀ k, k < M → s.testBit k = true → cb_V L D C K M kb (cb_rm L D K M g k &&& s) ≤ m := by
  constructor
  · intro h k hk hb
    by_cases e : g = K k
    · have er : cb_rm L D K M g k = 0 := if_pos e
      rw [er, Nat.zero_and, cb_V_0]
      exact Nat.zero_le _
    · have er : cb_rm L D K M g k = cb_cl L D K M g (cb_an L D g (K k)) := if_neg e
      rw [er]
      exact (h k hk hb).resolve_left e
  · intro h k hk hb
    by_cases e : g = K k
    · exact Or.inl e
    · have er : cb_rm L D K M g k = cb_cl L D K M g (cb_an L D g (K k)) := if_neg e
      have := h k hk hb
      rw [er] at this
      exact Or.inr this
/-- with m + 1 guesses s can be done, if it can't be with m -/
theorem cb_V_done {m s : Nat} (hs : s ≠ 0) (hm : m < 8) (hn : ¬ cb_V L D C K M kb s ≤ m) : cb_V L D C K M kb s ≤ m + 1 ↔ ∃ g, g < C ∧ cb_ok K M kb s g = true ∧ cb_LV L D C K M kb m g s := by
  rw [cb_V_le hs hm]
  constructor
  · rintro ⟨g, a, b, c⟩
    refine ⟨g, a, b, cb_LV_rm.mpr (fun k hk hb => ?_)⟩
    have := c k hk hb
    split at this
    · omega
    · exact this
  · rintro ⟨g, a, b, c⟩
    refine ⟨g, a, b, fun k hk hb => ?_⟩
    have := cb_LV_rm.mp c k hk hb
    split
    · rename_i e
      rw [e] at this
      exact absurd this hn
    · exact this
/-- the guesses that the needs of s begin with -/
theorem cb_V_first {s v g : Nat} (hs : s ≠ 0) (hv : cb_V L D C K M kb s = v + 1) (hv8 : v < 8) (hg : g < C) (hok : cb_ok K M kb s g = true) : cb_W L D K M (cb_V L D C K M kb) g s = v + 1 ↔ cb_LV L D C K M kb v g s := by
  rw [cb_LV_rm, ← cb_nm_le (f := fun k => cb_V L D C K M kb (cb_rm L D K M g k &&& s)) M]
  unfold cb_W
  constructor
  · intro h; omega
  · intro h
    have : ¬ cb_nm (fun k => cb_V L D C K M kb (cb_rm L D K M g k &&& s)) s M + 1 ≤ v := by
      intro z
      obtain ⟨w, rfl⟩ : ∃ w, v = w + 1 := ⟨v - 1, by omega⟩
      have z2 := (cb_nm_le (f := fun k => cb_V L D C K M kb (cb_rm L D K M g k &&& s)) (s := s) M).mp (show _ ≤ w by omega)
      have : cb_V L D C K M kb s ≤ w + 1 := (cb_V_le hs (by omega)).mpr ⟨g, hg, hok, fun k hk hb => by
        have := z2 k hk hb
        split
        · rename_i e
          simp only [e] at this
          omega
        · exact this⟩
      omega
    omega
theorem cb_V_ex {s v : Nat} (hs : s ≠ 0) (hv : cb_V L D C K M kb s = v + 1) (hv8 : v < 8) : ∃ g, g < C ∧ cb_ok K M kb s g = true ∧ cb_LV L D C K M kb v g s :=
  (cb_V_done hs hv8 (by omega)).mp (by omega)
end
end
section
/-! the class: needs -/
def cb_Kv (M : Nat) (K : Nat → Nat) (pc : Nat → Int32) : Prop := ∀ k, k < M → pc k = nI (K k)
def cb_Sc (C : Nat) (K : Nat → Nat) (i : Nat) (sc : Nat → Int32) : Prop := ∀ x, x < C → (∀ k, k < i → K k = x → sc x = nI (2 ^ k)) ∧ ((∀ k, k < i → ¬ K k = x) → sc x = 0)
def cb_Rm (L D C : Nat) (K : Nat → Nat) (M : Nat) (g : Nat) (re : Nat → Int32) : Prop := ∀ h k, h < g → k < M → re (h * 8 + k) = nI (cb_rm L D K M h k)
theorem cb_K_Kg {C : Nat} {P : Nat → Bool} {pc ip : Nat → Int32} (hC : C ≤ 81) (hi : cb_Po C P pc ip) : cb_Kg C (cb_cn P C) (cb_K pc) ∧ cb_Kv (cb_cn P C) (cb_K pc) pc := by
  refine ⟨⟨fun k hk => (cb_K_of hC hi hk).2.1, fun k j hk hj e => ?_⟩, fun k hk => (cb_K_of hC hi hk).1⟩
  have a := (cb_K_of hC hi hk).2.2.2
  have b := (cb_K_of hC hi hj).2.2.2
  rw [e] at a
  exact a.symm.trans b
theorem cb_2k {s k : Nat} : 2 ^ k &&& s = 0 ↔ ¬ s.testBit k = true := by
  constructor
  · intro h hb
    have : (2 ^ k &&& s).testBit k = true := by
      rw [Nat.testBit_and, hb, Bool.and_true, Nat.testBit_two_pow_self]
    rw [h, Nat.zero_testBit] at this
    exact absurd this (by decide)
  · intro h
    apply Nat.eq_of_testBit_eq
    intro i
    rw [Nat.testBit_and, Nat.zero_testBit, Nat.testBit_two_pow]
    by_cases e : k = i
    · subst e
      rw [Bool.eq_false_iff.mpr h, Bool.and_false]
    · simp [e]
theorem cb_sc_iff {C M s g : Nat} {K : Nat → Nat} {sc : Nat → Int32} (hK : cb_Kg C M K) (hM : M ≤ 8) (hS : cb_Sc C K M sc) (hg : g < C) (hs : s < 256) : sc g &&& nI s = 0 ↔ ¬ cb_ex (fun k => s.testBit k && (K k == g)) M = true := by
  by_cases h : ∃ k, k < M ∧ K k = g
  · obtain ⟨k, hk, e⟩ := h
    have hp : 2 ^ k ≤ 256 := cb_p8 (by omega)
    have hle : 2 ^ k &&& s ≤ s := Nat.and_le_right
    rw [(hS g hg).1 k hk e, nx_and, ← nI_0, nI_eq (by omega) (by omega), cb_2k]
    constructor
    · intro hb hc
      obtain ⟨j, hj, hx⟩ := (cb_ex_iff _ _).mp hc
      simp only [Bool.and_eq_true, beq_iff_eq] at hx
      have : j = k := hK.2 j k hj hk (hx.2.trans e.symm)
      rw [this] at hx
      exact hb hx.1
    · intro hc hb
      exact hc ((cb_ex_iff _ _).mpr ⟨k, hk, by simp [hb, e]⟩)
  · have h' : ∀ k, k < M → ¬ K k = g := fun k hk e => h ⟨k, hk, e⟩
    rw [(hS g hg).2 h']
    constructor
    · intro _ hc
      obtain ⟨j, hj, hx⟩ := (cb_ex_iff _ _).mp hc
      simp only [Bool.and_eq_true, beq_iff_eq] at hx
      exact h' j hj hx.2
    · intro _
      show nI 0 &&& nI s = nI 0
      rw [nx_and, Nat.zero_and]
section
variable {fl fd fc ft fp : Int32} {da ta tg tA pc ip ps re sc ns : Nat → Int32}
theorem cb_xs25 {C M : Nat} {K : Nat → Nat} {post : SX → Prop} (hC : C ≤ 81) (hK : cb_Kg C M K) (hv : cb_Kv M K pc) (hM : M ≤ 8) (hp : ∀ sc, cb_Sc C K M sc → post (fl, fd, nI C, ft, nI M, da, ta, tg, tA, pc, ip, ps, re, sc, ns)) : ∀ d i sc, i + d = M → cb_Sc C K i sc → wX_findSetsOfCodes_25 post fl fd (nI C) ft (nI M) (d + 1) (nI i) da ta tg tA pc ip ps re sc ns := by
  intro d
  induction d with
  | zero =>
    intro i sc hd hs
    have e1 : i = M := by omega
    subst e1
    exact br_t (nI_le (Nat.le_refl _) (by omega)) (hp sc hs)
  | succ d ih =>
    intro i sc hd hs
    have er : (nI i).toNatClampNeg = i := nI_clamp (by omega)
    have hk := hK.1 i (by omega)
    have ek : (nI (K i)).toNatClampNeg = K i := nI_clamp (by omega)
    refine br_f (nI_ge (by omega) (by omega)) ⟨pk_in i 81 (by omega), ?_⟩
    rw [er, hv i (by omega), ek, cb_shl (by omega)]
    refine ⟨pk_in (K i) 81 (by omega), nm_e (nm_r (nI_1 _) (ih (i + 1) _ (by omega) ?_))⟩
    intro x hx
    by_cases e1 : x = K i
    · subst e1
      refine ⟨fun k hk2 e2 => ?_, fun hn => absurd rfl (hn i (by omega))⟩
      rw [hK.2 k i (by omega) (by omega) e2]
      exact pk_us
    · refine ⟨fun k hk2 e2 => ?_, fun hn => ?_⟩
      · rw [pk_un e1]
        by_cases e3 : k = i
        · rw [e3] at e2; exact absurd e2.symm e1
        · exact (hs x hx).1 k (by omega) e2
      · rw [pk_un e1]
        exact (hs x hx).2 (fun k hk2 => hn k (by omega))
theorem cb_xs2 {C M : Nat} {K : Nat → Nat} {post : SX → Prop} (hC : C ≤ 81) (hK : cb_Kg C M K) (hv : cb_Kv M K pc) (hM : M ≤ 8) (hp : ∀ sc, cb_Sc C K M sc → post (fl, fd, nI C, ft, nI M, da, ta, tg, tA, pc, ip, ps, re, sc, ns)) : ∀ d i sc, i + d = C → (∀ x, x < i → sc x = 0) → wX_findSetsOfCodes_2 post fl fd (nI C) ft (nI M) (d + 1) (nI i) da ta tg tA pc ip ps re sc ns := by
  intro d
  induction d with
  | zero =>
    intro i sc hd hs
    have e1 : i = C := by omega
    subst e1
    exact br_t (nI_le (Nat.le_refl _) (by omega)) ⟨M + 1, cb_xs25 hC hK hv hM hp M 0 sc (by omega) (fun x hx => ⟨fun k hk => absurd hk (Nat.not_lt_zero _), fun _ => hs x hx⟩)⟩
  | succ d ih =>
    intro i sc hd hs
    have er : (nI i).toNatClampNeg = i := nI_clamp (by omega)
    refine br_f (nI_ge (by omega) (by omega)) ⟨pk_in i 81 (by omega), ?_⟩
    rw [er]
    refine nm_e (nm_r (nI_1 _) (ih (i + 1) _ (by omega) ?_))
    intro x hx
    by_cases e1 : x = i
    · rw [e1]; exact pk_us
    · rw [pk_un e1]; exact hs x (by omega)
theorem cb_xs {C M : Nat} {K : Nat → Nat} {post : SX → Prop} (hC : C ≤ 81) (hK : cb_Kg C M K) (hv : cb_Kv M K pc) (hM : M ≤ 8) (hp : ∀ sc, cb_Sc C K M sc → post (fl, fd, nI C, ft, nI M, da, ta, tg, tA, pc, ip, ps, re, sc, ns)) : wpX_findSetsOfCodes post (fl, fd, nI C, ft, nI M, da, ta, tg, tA, pc, ip, ps, re, sc, ns) :=
  ⟨C + 1, cb_xs2 hC hK hv hM hp C 0 sc (by omega) (fun x hx => absurd hx (Nat.not_lt_zero _))⟩
theorem cb_xr20 {L D C M g a : Nat} {K : Nat → Nat} {post : Int32 → Prop} (hz : cb_Sz L D C) (hs : cb_St L D C da ta) (hK : cb_Kg C M K) (hv : cb_Kv M K pc) (hM : M ≤ 8) (hg : g < C) (ha : a < 45) (hp : post (nI (cb_cl L D K M g a))) : ∀ d i, i + d = M → wX_remainsAfter_20 post (nI g) (nI a) (nI L) (nI D) fc ft (nI M) da ta tg tA pc ip ps re sc ns (d + 1) (nI (cb_mk (fun j => cb_an L D g (K j) == a) i)) (nI i) := by
  intro d
  induction d with
  | zero =>
    intro i hd
    have e1 : i = M := by omega
    subst e1
    exact br_t (nI_le (Nat.le_refl _) (by omega)) hp
  | succ d ih =>
    intro i hd
    have er : (nI i).toNatClampNeg = i := nI_clamp (by omega)
    have hk := hK.1 i (by omega)
    have h45 := cb_an45 hz hg hk
    refine br_f (nI_ge (by omega) (by omega)) ⟨pk_in i 81 (by omega), ?_⟩
    rw [er, hv i (by omega), cb_shl (by omega), cb_or]
    refine cb_xans hz hs hg hk (pk_eq (cb_an L D g (K i)) a (fun h => nm_e (nm_r (nI_1 _) ?_)) (fun h => nm_r (nI_1 _) ?_))
    · rw [← cb_mk_t (f := fun j => cb_an L D g (K j) == a) (n := i) (by simp [h])]
      exact ih (i + 1) (by omega)
    · rw [← cb_mk_f (f := fun j => cb_an L D g (K j) == a) (n := i) (by simp [h])]
      exact ih (i + 1) (by omega)
theorem cb_xra {L D C M g k : Nat} {K : Nat → Nat} {post : Int32 → Prop} (hz : cb_Sz L D C) (hs : cb_St L D C da ta) (hK : cb_Kg C M K) (hv : cb_Kv M K pc) (hM : M ≤ 8) (hg : g < C) (hk : k < M) (hp : post (nI (cb_rm L D K M g k))) : wpX_remainsAfter post (nI L, nI D, fc, ft, nI M, da, ta, tg, tA, pc, ip, ps, re, sc, ns) (nI g) (nI (K k)) := by
  have h7 := hz.2.2.2.2.2.2
  have hk1 := hK.1 k hk
  refine pk_eq g (K k) (fun h => ?_) (fun h => ?_)
  · have e : cb_rm L D K M g k = 0 := if_pos h
    rw [e] at hp
    exact hp
  · have e : cb_rm L D K M g k = cb_cl L D K M g (cb_an L D g (K k)) := if_neg h
    rw [e] at hp
    exact cb_xans hz hs hg hk1 ⟨M + 1, cb_xr20 hz hs hK hv hM hg (cb_an45 hz hg hk1) hp M 0 (by omega)⟩
theorem cb_xr12 {L D C M g : Nat} {K : Nat → Nat} {post : SX → Prop} {J2 : cb_J10} (hz : cb_Sz L D C) (hs : cb_St L D C da ta) (hK : cb_Kg C M K) (hv : cb_Kv M K pc) (hM : M ≤ 8) (hg : g < C) (hJ : ∀ re, cb_Rm L D C K M (g + 1) re → J2 (nI (g + 1)) da ta tg tA pc ip ps re sc ns) : ∀ d i re, i + d = M → cb_Rm L D C K M g re → (∀ k, k < i → re (g * 8 + k) = nI (cb_rm L D K M g k)) → wX_findRemains_12 post J2 (nI g) (nI L) (nI D) fc ft (nI M) (d + 1) (nI i) da ta tg tA pc ip ps re sc ns := by
  have h7 := hz.2.2.2.2.2.2
  intro d
  induction d with
  | zero =>
    intro i re hd hr hr2
    have e1 : i = M := by omega
    subst e1
    refine br_t (nI_le (Nat.le_refl _) (by omega)) (nm_r (nI_1 _) (hJ re (fun h k hh hk => ?_)))
    by_cases e1 : h = g
    · rw [e1]; exact hr2 k hk
    · exact hr h k (by omega) hk
  | succ d ih =>
    intro i re hd hr hr2
    have er : (nI i).toNatClampNeg = i := nI_clamp (by omega)
    refine br_f (nI_ge (by omega) (by omega)) ⟨pk_in i 81 (by omega), ?_⟩
    rw [er, hv i (by omega)]
    refine cb_xra hz hs hK hv hM hg (show i < M by omega) ⟨pk_in (g * 8 + i) 648 (by omega) (cb_i8 g i), nm_r (e' := upd re (g * 8 + i) (nI (cb_rm L D K M g i))) ?_ (nm_r (nI_1 _) (ih (i + 1) _ (by omega) ?_ ?_))⟩
    · rw [cb_i8, nI_clamp (by omega)]
    · intro h k hh hk
      rw [pk_un (by omega)]; exact hr h k hh hk
    · intro k hk
      by_cases e1 : k = i
      · rw [e1]; exact pk_us
      · rw [pk_un (by omega)]; exact hr2 k (by omega)
theorem cb_xr2 {L D C M : Nat} {K : Nat → Nat} {post : SX → Prop} (hz : cb_Sz L D C) (hs : cb_St L D C da ta) (hK : cb_Kg C M K) (hv : cb_Kv M K pc) (hM : M ≤ 8) (hp : ∀ re, cb_Rm L D C K M C re → post (nI L, nI D, nI C, ft, nI M, da, ta, tg, tA, pc, ip, ps, re, sc, ns)) : ∀ d g re, g + d = C → cb_Rm L D C K M g re → wX_findRemains_2 post (nI L) (nI D) (nI C) ft (nI M) (d + 1) (nI g) da ta tg tA pc ip ps re sc ns := by
  have h7 := hz.2.2.2.2.2.2
  intro d
  induction d with
  | zero =>
    intro g re hd hr
    have e1 : g = C := by omega
    subst e1
    exact br_t (nI_le (Nat.le_refl _) (by omega)) (hp re hr)
  | succ d ih =>
    intro g re hd hr
    exact br_f (nI_ge (by omega) (by omega)) ⟨M + 1, cb_xr12 hz hs hK hv hM (show g < C by omega) (fun re hr => ih (g + 1) re (by omega) hr) M 0 re (by omega) hr (fun k hk => absurd hk (Nat.not_lt_zero _))⟩
theorem cb_xr {L D C M : Nat} {K : Nat → Nat} {post : SX → Prop} (hz : cb_Sz L D C) (hs : cb_St L D C da ta) (hK : cb_Kg C M K) (hv : cb_Kv M K pc) (hM : M ≤ 8) (hp : ∀ re, cb_Rm L D C K M C re → post (nI L, nI D, nI C, ft, nI M, da, ta, tg, tA, pc, ip, ps, re, sc, ns)) : wpX_findRemains post (nI L, nI D, nI C, ft, nI M, da, ta, tg, tA, pc, ip, ps, re, sc, ns) :=
  ⟨C + 1, cb_xr2 hz hs hK hv hM hp C 0 re (by omega) (fun h k hh => absurd hh (Nat.not_lt_zero _))⟩
theorem cb_nm_9 {f : Nat → Nat} {s b : Nat} (h : ∀ k, f k ≤ b) (n : Nat) : cb_nm f s n ≤ b := (cb_nm_le n).mpr (fun k _ _ => h k)
theorem cb_xn5 {L D C M g s : Nat} {K : Nat → Nat} {Vt : Nat → Nat} {post : Int32 → Prop} (hC : C ≤ 81) (hM : M ≤ 8) (hg : g < C) (hs : s < 256) (hr : cb_Rm L D C K M C re) (hb : ∀ t, Vt t ≤ 9) (hn : ∀ t, t ≤ s → ns t = nI (Vt t)) (hp : post (nI (cb_W L D K M Vt g s))) : ∀ d k, k + d = M → wX_needWithGuess_5 post (nI g) (nI s) fl fd fc ft (nI M) da ta tg tA pc ip ps re sc ns (d + 1) (nI (cb_nm (fun k => Vt (cb_rm L D K M g k &&& s)) s k)) (nI k) := by
  intro d
  induction d with
  | zero =>
    intro k hd
    have e1 : k = M := by omega
    subst e1
    refine br_t (nI_le (Nat.le_refl _) (by omega)) ?_
    rw [nI_1]
    exact hp
  | succ d ih =>
    intro k hd
    have hle : cb_rm L D K M g k &&& s ≤ s := Nat.and_le_right
    have hm := cb_nm_9 (f := fun k => Vt (cb_rm L D K M g k &&& s)) (s := s) (b := 9) (fun k => hb _) k
    have hbk := hb (cb_rm L D K M g k &&& s)
    have step : ∀ v, cb_nm (fun k => Vt (cb_rm L D K M g k &&& s)) s (k + 1) = v → wX_needWithGuess_5 post (nI g) (nI s) fl fd fc ft (nI M) da ta tg tA pc ip ps re sc ns (d + 1) (nI v) (nI (k + 1)) := by
      intro v ev
      rw [← ev]
      exact ih (k + 1) (by omega)
    refine br_f (nI_ge (by omega) (by omega)) (br_c (fun h => ⟨pk_in (g * 8 + k) 648 (by omega) (cb_i8 g k), ?_⟩) (fun h => nm_r (nI_1 _) (step _ (if_neg (fun z => h ((cb_bit1 hs (by omega)).mpr z))))))
    have hbit := (cb_bit1 hs (by omega)).mp h
    rw [cb_i8, nI_clamp (by omega), hr g k hg (by omega), nx_and, nI_clamp (by omega), hn _ hle]
    refine ⟨pk_in _ 256 (by omega) rfl, nm_e (pk_le (Vt (cb_rm L D K M g k &&& s)) (cb_nm (fun k => Vt (cb_rm L D K M g k &&& s)) s k) (fun h2 => nm_r (nI_1 _) (step _ ?_)) (fun h2 => nm_r (nI_1 _) (step _ ?_)))⟩
    · exact (if_pos hbit).trans (if_pos h2)
    · exact (if_pos hbit).trans (if_neg (Nat.not_le.mpr h2))
theorem cb_xnw {L D C M g s : Nat} {K : Nat → Nat} {Vt : Nat → Nat} {post : Int32 → Prop} (hC : C ≤ 81) (hM : M ≤ 8) (hg : g < C) (hs : s < 256) (hr : cb_Rm L D C K M C re) (hb : ∀ t, Vt t ≤ 9) (hn : ∀ t, t ≤ s → ns t = nI (Vt t)) (hp : post (nI (cb_W L D K M Vt g s))) : wpX_needWithGuess post (fl, fd, fc, ft, nI M, da, ta, tg, tA, pc, ip, ps, re, sc, ns) (nI g) (nI s) :=
  ⟨M + 1, cb_xn5 hC hM hg hs hr hb hn hp M 0 (by omega)⟩
theorem cb_W_9 {L D M g s : Nat} {K : Nat → Nat} {Vt : Nat → Nat} (hb : ∀ t, Vt t ≤ 9) : cb_W L D K M Vt g s ≤ 10 := by
  have := cb_nm_9 (f := fun k => Vt (cb_rm L D K M g k &&& s)) (s := s) (b := 9) (fun k => hb _) M
  unfold cb_W
  omega
theorem cb_xn36 {L D C M s : Nat} {K : Nat → Nat} {Vt : Nat → Nat} {kb : Bool} {kI x2 : Int32} {post : SX → Prop} {J16 : cb_J10} (hC : C ≤ 81) (hM : M ≤ 8) (hK : cb_Kg C M K) (hkb : kI = if kb = true then 1 else 0) (hs : s < 256) (hS : cb_Sc C K M sc) (hr : cb_Rm L D C K M C re) (hb : ∀ t, Vt t ≤ 9) (hn : ∀ t, t ≤ s → ns t = nI (Vt t)) (hJ : J16 (nI (s + 1)) da ta tg tA pc ip ps re sc (upd ns s (nI (cb_mn (cb_ok K M kb s) (fun g => cb_W L D K M Vt g s) C)))) : ∀ d g, g + d = C → wX_findNeeds_36 post J16 kI x2 (nI s) fl fd (nI C) ft (nI M) da ta tg tA pc ip ps re sc ns (d + 1) (nI (cb_mn (cb_ok K M kb s) (fun g => cb_W L D K M Vt g s) g)) (nI g) := by
  intro d
  induction d with
  | zero =>
    intro g hd
    have e1 : g = C := by omega
    subst e1
    refine br_t (nI_le (Nat.le_refl _) (by omega)) ⟨pk_in s 256 (by omega), ?_⟩
    rw [nI_clamp (by omega)]
    exact nm_e (nm_r (nI_1 _) hJ)
  | succ d ih =>
    intro g hd
    have hg : g < C := by omega
    have b1 := cb_mn_9 (cb_ok K M kb s) (fun g => cb_W L D K M Vt g s) g
    have b2 := cb_W_9 (L := L) (D := D) (M := M) (K := K) (g := g) (s := s) hb
    have step : ∀ v, cb_mn (cb_ok K M kb s) (fun g => cb_W L D K M Vt g s) (g + 1) = v → wX_findNeeds_36 post J16 kI x2 (nI s) fl fd (nI C) ft (nI M) da ta tg tA pc ip ps re sc ns (d + 1) (nI v) (nI (g + 1)) := by
      intro v ev
      rw [← ev]
      exact ih (g + 1) (by omega)
    have look : cb_ok K M kb s g = true → wX_findNeeds_64 post J16 (wX_findNeeds_36 post J16 kI x2 (nI s) fl fd (nI C) ft (nI M) da ta tg tA pc ip ps re sc ns (d + 1)) kI x2 (nI s) (nI (cb_mn (cb_ok K M kb s) (fun g => cb_W L D K M Vt g s) g)) (nI g) fl fd (nI C) ft (nI M) da ta tg tA pc ip ps re sc ns := by
      intro hok
      refine cb_xnw hC hM hg hs hr hb hn (pk_le (cb_mn (cb_ok K M kb s) (fun g => cb_W L D K M Vt g s) g) (cb_W L D K M Vt g s) (fun h => nm_r (nI_1 _) (step _ ?_)) (fun h => nm_r (nI_1 _) (step _ ?_)))
      · exact (if_pos hok).trans (if_pos h)
      · exact (if_pos hok).trans (if_neg (Nat.not_le.mpr h))
    refine br_f (nI_ge (by omega) (by omega)) ?_
    by_cases hk : kb = true
    · subst hk
      have e : kI = 1 := hkb.trans (if_pos rfl)
      rw [e] at step look ⊢
      refine br_f (by decide) ⟨pk_in g 81 (by omega), ?_⟩
      rw [nI_clamp (by omega), cb_sc_iff hK hM hS hg hs]
      have eok : cb_ok K M true s g = cb_ex (fun k => s.testBit k && (K k == g)) M := rfl
      refine br_c (fun h => nm_r (nI_1 _) (step _ ?_)) (fun h => look ?_)
      · exact if_neg (by rw [eok]; exact h)
      · rw [eok]; exact Classical.byContradiction h
    · have e : kI = 0 := hkb.trans (if_neg hk)
      rw [e] at step look ⊢
      refine br_t rfl (look ?_)
      have : kb = false := Bool.eq_false_iff.mpr hk
      subst this
      rfl
theorem cb_xn16 {L D C M : Nat} {K : Nat → Nat} {kb : Bool} {kI : Int32} {post : SX → Prop} (hC : C ≤ 81) (hM : M ≤ 8) (hK : cb_Kg C M K) (hkb : kI = if kb = true then 1 else 0) (hS : cb_Sc C K M sc) (hr : cb_Rm L D C K M C re) (hp : ∀ ns, (∀ t, t < 2 ^ M → ns t = nI (cb_V L D C K M kb t)) → post (fl, fd, nI C, ft, nI M, da, ta, tg, tA, pc, ip, ps, re, sc, ns)) : ∀ d s ns, s + d = 2 ^ M → 1 ≤ s → (∀ t, t < s → ns t = nI (cb_tb L D C K M kb s t)) → wX_findNeeds_16 post kI (nI (2 ^ M)) fl fd (nI C) ft (nI M) (d + 1) (nI s) da ta tg tA pc ip ps re sc ns := by
  have h256 := cb_p8 hM
  intro d
  induction d with
  | zero =>
    intro s ns hd h1 hn
    have e1 : s = 2 ^ M := by omega
    subst e1
    exact br_t (nI_le (Nat.le_refl _) (by omega)) (hp ns (fun t ht => by rw [hn t ht, cb_tb_V _ _ ht]))
  | succ d ih =>
    intro s ns hd h1 hn
    refine br_f (nI_ge (by omega) (by omega)) ⟨pk_in s 256 (by omega), ?_⟩
    rw [nI_clamp (by omega)]
    refine nm_e ⟨C + 1, cb_xn36 (Vt := fun t => if t = s then 9 else cb_tb L D C K M kb s t) hC hM hK hkb (by omega) hS hr ?_ ?_ (ih (s + 1) _ (by omega) (by omega) ?_) C 0 (by omega)⟩
    · intro t
      show (if _ then _ else _) ≤ 9
      split
      · omega
      · exact cb_tb_9 _ _
    · intro t ht
      show _ = nI (if _ then _ else _)
      by_cases e1 : t = s
      · rw [if_pos e1, e1]; exact pk_us
      · rw [if_neg e1, pk_un e1]; exact hn t (by omega)
    · intro t ht
      show _ = nI (if _ then (if _ then _ else _) else _)
      by_cases e1 : t = s
      · rw [if_pos e1, if_neg (by omega), e1]; exact pk_us
      · rw [if_neg e1, pk_un e1, pk_un e1]; exact hn t (by omega)
theorem cb_xfn {L D C M : Nat} {K : Nat → Nat} {kb : Bool} {kI : Int32} {post : SX → Prop} (hC : C ≤ 81) (hM : M ≤ 8) (hK : cb_Kg C M K) (hkb : kI = if kb = true then 1 else 0) (hS : cb_Sc C K M sc) (hr : cb_Rm L D C K M C re) (hp : ∀ ns, (∀ t, t < 2 ^ M → ns t = nI (cb_V L D C K M kb t)) → post (fl, fd, nI C, ft, nI M, da, ta, tg, tA, pc, ip, ps, re, sc, ns)) : wpX_findNeeds post (fl, fd, nI C, ft, nI M, da, ta, tg, tA, pc, ip, ps, re, sc, ns) kI := by
  have h1 : 1 ≤ 2 ^ M := Nat.one_le_two_pow
  refine nm_r (cb_shl (by omega)) (nm_e ⟨2 ^ M - 1 + 1, cb_xn16 hC hM hK hkb hS hr hp (2 ^ M - 1) 1 _ (by omega) (by omega) ?_⟩)
  intro t ht
  have e : t = 0 := by omega
  subst e
  exact pk_us
theorem cb_wh {M : Nat} (hM : M ≤ 8) : (1 : Int32) <<< (nI M &&& 31) - 1 = nI (2 ^ M - 1) := by
  have h1 : 1 ≤ 2 ^ M := Nat.one_le_two_pow
  rw [cb_shl (by omega)]
  show nI (2 ^ M) - nI 1 = _
  rw [pk_sub h1]
theorem cb_xln {L D C M : Nat} {K : Nat → Nat} {kb : Bool} {kI : Int32} {post : Int32 → SX → Prop} (hz : cb_Sz L D C) (hs : cb_St L D C da ta) (hK : cb_Kg C M K) (hv : cb_Kv M K pc) (hM : M ≤ 8) (hkb : kI = if kb = true then 1 else 0) (hp : ∀ re sc ns, cb_Rm L D C K M C re → (∀ t, t < 2 ^ M → ns t = nI (cb_V L D C K M kb t)) → post (nI (cb_V L D C K M kb (2 ^ M - 1))) (nI L, nI D, nI C, ft, nI M, da, ta, tg, tA, pc, ip, ps, re, sc, ns)) : wpX_leastNeed post (nI L, nI D, nI C, ft, nI M, da, ta, tg, tA, pc, ip, ps, re, sc, ns) kI := by
  have h1 : 1 ≤ 2 ^ M := Nat.one_le_two_pow
  have h256 := cb_p8 hM
  have h7 := hz.2.2.2.2.2.2
  refine br_t (nI_le (b := 8) hM (by decide)) (cb_xs h7 hK hv hM (fun sc hS => cb_xr hz hs hK hv hM (fun re hr => cb_xfn h7 hM hK hkb hS hr (fun ns hn => ?_))))
  dsimp only
  rw [cb_wh hM, nI_clamp (by omega), hn _ (by omega)]
  exact ⟨pk_in _ 256 (by omega) rfl, hp re sc ns hr hn⟩
end
end
section
/-! the reference: needs -/
section
variable {yl yd yc yr yf : Int32} {yg ya yw ye yz yt : Nat → Int32}
theorem cb_yp6 {L D C M g r a : Nat} {K : Nat → Nat} {post : Int32 → Prop} (hz : cb_Sz L D C) (hy : cb_Sy L D C yt) (hK : cb_Kg C M K) (hv : cb_Kv M K yw) (hM : M ≤ 8) (hg : g < C) (hr : r < 256) (ha : a < 45) (hp : post (nI (cb_mk (fun j => r.testBit j && (cb_an L D g (K j) == a)) M))) : ∀ d i, i + d = M → wY_partOf_6 post (nI r) (nI g) (nI a) yl yd yc yr (nI M) yg ya yw ye yz yt (d + 1) (nI (cb_mk (fun j => r.testBit j && (cb_an L D g (K j) == a)) i)) (nI i) := by
  intro d
  induction d with
  | zero =>
    intro i hd
    have e1 : i = M := by omega
    subst e1
    exact br_t (nI_le (Nat.le_refl _) (by omega)) hp
  | succ d ih =>
    intro i hd
    have er : (nI i).toNatClampNeg = i := nI_clamp (by omega)
    have hk := hK.1 i (by omega)
    have h45 := cb_an45 hz hg hk
    have no : ¬ (r.testBit i && (cb_an L D g (K i) == a)) = true → wY_partOf_45 post (wY_partOf_6 post (nI r) (nI g) (nI a) yl yd yc yr (nI M) yg ya yw ye yz yt (d + 1)) (nI r) (nI g) (nI a) (nI (cb_mk (fun j => r.testBit j && (cb_an L D g (K j) == a)) i)) (nI i) yl yd yc yr (nI M) yg ya yw ye yz yt := by
      intro h
      refine br_t rfl (nm_r (nI_1 _) ?_)
      rw [← cb_mk_f (f := fun j => r.testBit j && (cb_an L D g (K j) == a)) (n := i) h]
      exact ih (i + 1) (by omega)
    refine br_f (nI_ge (by omega) (by omega)) (br_c (fun h => ⟨pk_in i 8 (by omega), ?_⟩) (fun h => no (fun z => h ((cb_bit1 hr (by omega)).mpr ((Bool.and_eq_true _ _).mp z).1))))
    have hbit := (cb_bit1 hr (by omega)).mp h
    rw [er, hv i (by omega)]
    refine cb_yans hz hy hg hk (pk_eq (cb_an L D g (K i)) a (fun h2 => br_f (by decide) (nm_r (e' := nI (cb_mk (fun j => r.testBit j && (cb_an L D g (K j) == a)) (i + 1))) ?_ (nm_r (nI_1 _) (ih (i + 1) (by omega))))) (fun h2 => no (by simp [h2])))
    rw [cb_shl (by omega), cb_or, cb_mk_t (f := fun j => r.testBit j && (cb_an L D g (K j) == a)) (n := i) (by simp [hbit, h2])]
theorem cb_yi2 {C M s g : Nat} {K : Nat → Nat} {post : Int32 → Prop} (hC : C ≤ 81) (hK : cb_Kg C M K) (hv : cb_Kv M K yw) (hM : M ≤ 8) (hg : g < C) (hs : s < 256) (hp : post (if cb_ex (fun k => s.testBit k && (K k == g)) M = true then 1 else 0)) : ∀ d i, i + d = M → (∀ k, k < i → ¬ (s.testBit k && (K k == g)) = true) → wY_isIn_2 post (nI s) (nI g) yl yd yc yr (nI M) yg ya yw ye yz yt (d + 1) (nI i) := by
  intro d
  induction d with
  | zero =>
    intro i hd hn
    have e1 : i = M := by omega
    subst e1
    rw [if_neg (fun hc => by obtain ⟨y, a, b⟩ := (cb_ex_iff _ _).mp hc; exact hn y a b)] at hp
    exact br_t (nI_le (Nat.le_refl _) (by omega)) hp
  | succ d ih =>
    intro i hd hn
    have er : (nI i).toNatClampNeg = i := nI_clamp (by omega)
    have hk := hK.1 i (by omega)
    have nx : ¬ (s.testBit i && (K i == g)) = true → wY_isIn_2 post (nI s) (nI g) yl yd yc yr (nI M) yg ya yw ye yz yt (d + 1) (nI (i + 1)) := by
      intro hq
      refine ih (i + 1) (by omega) ?_
      intro y hy
      by_cases e1 : y = i
      · rw [e1]; exact hq
      · exact hn y (by omega)
    refine br_f (nI_ge (by omega) (by omega)) (br_c (fun h => ⟨pk_in i 8 (by omega), ?_⟩) (fun h => nm_r (nI_1 _) (nx (fun z => h ((cb_bit1 hs (by omega)).mpr ((Bool.and_eq_true _ _).mp z).1)))))
    have hbit := (cb_bit1 hs (by omega)).mp h
    rw [er, hv i (by omega)]
    refine pk_eq (K i) g (fun h2 => ?_) (fun h2 => nm_r (nI_1 _) (nx (by simp [h2])))
    rw [if_pos ((cb_ex_iff _ _).mpr ⟨i, by omega, by simp [hbit, h2]⟩)] at hp
    exact hp
/-- the set r is what is left of s when some whole parts, all good, are gone -/
def cb_Lr (L D C : Nat) (K : Nat → Nat) (M : Nat) (kb : Bool) (m g s r : Nat) : Prop := (∀ k, r.testBit k = true → s.testBit k = true) ∧ (∀ k j, k < M → j < M → cb_an L D g (K k) = cb_an L D g (K j) → s.testBit j = true → r.testBit k = true → r.testBit j = true) ∧ (∀ k, k < M → s.testBit k = true → ¬ r.testBit k = true → g = K k ∨ cb_V L D C K M kb (cb_cl L D K M g (cb_an L D g (K k)) &&& s) ≤ m)
theorem cb_pt_eq {L D C M g s r i m : Nat} {K : Nat → Nat} {kb : Bool} (hi : i < M) (hl : cb_Lr L D C K M kb m g s r) (hb : r.testBit i = true) : cb_mk (fun j => r.testBit j && (cb_an L D g (K j) == cb_an L D g (K i))) M = cb_cl L D K M g (cb_an L D g (K i)) &&& s := by
  apply Nat.eq_of_testBit_eq
  intro j
  unfold cb_cl
  rw [Nat.testBit_and, cb_mk_bit, cb_mk_bit]
  by_cases hj : j < M
  · by_cases he : cb_an L D g (K j) = cb_an L D g (K i)
    · have e : r.testBit j = s.testBit j := by
        rw [Bool.eq_iff_iff]
        exact ⟨hl.1 j, fun h => hl.2.1 i j hi hj he.symm h hb⟩
      simp [hj, he, e]
    · have hb2 : (cb_an L D g (K j) == cb_an L D g (K i)) = false := beq_eq_false_iff_ne.mpr he
      simp [hb2]
  · simp [hj]
theorem cb_xb {r p j : Nat} : (r ^^^ (r &&& p)).testBit j = (r.testBit j && !p.testBit j) := by
  rw [Nat.testBit_xor, Nat.testBit_and]
  cases r.testBit j <;> cases p.testBit j <;> rfl
theorem cb_xlt {r p i : Nat} (h : r.testBit i = true) (hp : p.testBit i = true) : r ^^^ (r &&& p) < r := by
  have e : (r ^^^ (r &&& p)) &&& r = r ^^^ (r &&& p) := by
    apply Nat.eq_of_testBit_eq
    intro j
    rw [Nat.testBit_and, cb_xb]
    cases r.testBit j <;> cases p.testBit j <;> rfl
  have h1 : (r ^^^ (r &&& p)) &&& r ≤ r := Nat.and_le_right
  rw [e] at h1
  have h2 : ¬ r ^^^ (r &&& p) = r := by
    intro z
    have : (r ^^^ (r &&& p)).testBit i = true := by rw [z]; exact h
    rw [cb_xb, h, hp] at this
    exact absurd this (by decide)
  omega
theorem cb_Lr_next {L D C M g s r i m p : Nat} {K : Nat → Nat} {kb : Bool} (hz : cb_Sz L D C) (hK : cb_Kg C M K) (hg : g < C) (hi : i < M) (hl : cb_Lr L D C K M kb m g s r) (hb : r.testBit i = true) (hp : p = cb_cl L D K M g (cb_an L D g (K i)) &&& s) (hok : g = K i ∨ cb_V L D C K M kb p ≤ m) : cb_Lr L D C K M kb m g s (r ^^^ (r &&& p)) ∧ r ^^^ (r &&& p) < r := by
  have pb : ∀ j, j < M → p.testBit j = ((cb_an L D g (K j) == cb_an L D g (K i)) && s.testBit j) := by
    intro j hj
    rw [hp]
    unfold cb_cl
    rw [Nat.testBit_and, cb_mk_bit]
    simp [hj]
  refine ⟨⟨?_, ?_, ?_⟩, cb_xlt hb (by rw [pb i hi, hl.1 i hb]; simp)⟩
  · intro k h
    rw [cb_xb, Bool.and_eq_true] at h
    exact hl.1 k h.1
  · intro k j hk hj he hsj h
    rw [cb_xb, pb k hk, Bool.and_eq_true] at h
    rw [cb_xb, pb j hj, hl.2.1 k j hk hj he hsj h.1, ← he]
    have hsk := hl.1 k h.1
    have h2 := h.2
    rw [hsk] at h2
    rw [hsj]
    exact h2
  · intro k hk hsk h
    by_cases hr : r.testBit k = true
    · rw [cb_xb, hr, pb k hk, hsk] at h
      have he : cb_an L D g (K k) = cb_an L D g (K i) := by
        refine Classical.byContradiction (fun hc => h ?_)
        simp [hc]
      rcases hok with ho | ho
      · refine Or.inl ((cb_an10 hz hg (hK.1 k hk)).mp ?_)
        rw [he]
        exact (cb_an10 hz hg (hK.1 i hi)).mpr ho
      · rw [he, ← hp]
        exact Or.inr ho
    · exact hl.2.2 k hk hsk hr
theorem cb_yl11 {L D C M g m r : Nat} {K : Nat → Nat} {x3 : Int32} {post : Int32 → Prop} {J3 : Int32 → Prop} (hz : cb_Sz L D C) (hy : cb_Sy L D C yt) (hK : cb_Kg C M K) (hv : cb_Kv M K yw) (hM : M ≤ 8) (hg : g < C) (hr : r < 256) (k0 : Nat) (hk0 : k0 < M) (hb0 : r.testBit k0 = true) (hx : x3 = nI m) (hJ : ∀ i, i < M → r.testBit i = true → (g = K i → J3 (nI (r ^^^ (r &&& cb_mk (fun j => r.testBit j && (cb_an L D g (K j) == cb_an L D g (K i))) M)))) ∧ (¬ g = K i → vp_in (nI (cb_mk (fun j => r.testBit j && (cb_an L D g (K j) == cb_an L D g (K i))) M)) 256 ∧ ((ye (cb_mk (fun j => r.testBit j && (cb_an L D g (K j) == cb_an L D g (K i))) M) ≤ nI m → J3 (nI (r ^^^ (r &&& cb_mk (fun j => r.testBit j && (cb_an L D g (K j) == cb_an L D g (K i))) M)))) ∧ (¬ ye (cb_mk (fun j => r.testBit j && (cb_an L D g (K j) == cb_an L D g (K i))) M) ≤ nI m → post 0)))) : ∀ d i, i + d = k0 → wY_leaves_11 post J3 (nI g) x3 (nI r) (nI L) yd yc yr (nI M) yg ya yw ye yz yt (d + 1) (nI i) := by
  subst hx
  have h7 := hz.2.1
  intro d
  have body : ∀ i n, i < M → r.testBit i = true → wY_leaves_11 post J3 (nI g) (nI m) (nI r) (nI L) yd yc yr (nI M) yg ya yw ye yz yt (n + 1) (nI i) := by
    intro i n hi hb
    have er : (nI i).toNatClampNeg = i := nI_clamp (by omega)
    have hk := hK.1 i hi
    have h45 := cb_an45 hz hg hk
    have hml := cb_mk_lt (fun j => r.testBit j && (cb_an L D g (K j) == cb_an L D g (K i))) M
    have h256 := cb_p8 hM
    refine br_f (fun z => (cb_bit0 hr (by omega)).mp z hb) ⟨pk_in i 8 (by omega), ?_⟩
    rw [er, hv i hi]
    refine cb_yans hz hy hg hk ⟨M + 1, cb_yp6 hz hy hK hv hM hg hr h45 ?_ M 0 (by omega)⟩
    rw [cb_anN, nI_clamp (by omega), show (10 : Int32) * nI L = nI (10 * L) from pk_mul 10 L]
    obtain ⟨j1, j2⟩ := hJ i hi hb
    refine pk_eq (cb_an L D g (K i)) (10 * L) (fun h => nm_e (j1 ((cb_an10 hz hg hk).mp h))) (fun h => ?_)
    obtain ⟨j3, j4, j5⟩ := j2 (fun z => h ((cb_an10 hz hg hk).mpr z))
    exact ⟨j3, br_c (fun z => nm_e (j4 z)) j5⟩
  induction d with
  | zero =>
    intro i hd
    have e1 : i = k0 := by omega
    subst e1
    exact body i 0 hk0 hb0
  | succ d ih =>
    intro i hd
    by_cases hb : r.testBit i = true
    · exact body i (d + 1) (by omega) hb
    · exact br_t ((cb_bit0 hr (by omega)).mpr hb) (nm_r (nI_1 _) (ih (i + 1) (by omega)))
theorem cb_yl3 {L D C M g m s : Nat} {K : Nat → Nat} {kb : Bool} {post : Int32 → Prop} (hz : cb_Sz L D C) (hy : cb_Sy L D C yt) (hK : cb_Kg C M K) (hv : cb_Kv M K yw) (hM : M ≤ 8) (hg : g < C) (hm : m < 100) (hE : ∀ p, p < 2 ^ M → ∃ e, e ≤ 100 ∧ ye p = nI e ∧ (e ≤ m ↔ cb_V L D C K M kb p ≤ m)) (h1 : cb_LV L D C K M kb m g s → post 1) (h0 : ¬ cb_LV L D C K M kb m g s → post 0) : ∀ n r, r < n → r < 2 ^ M → cb_Lr L D C K M kb m g s r → wY_leaves_3 post (nI g) (nI m) (nI L) yd yc yr (nI M) yg ya yw ye yz yt n (nI r) := by
  have h256 := cb_p8 hM
  intro n
  induction n with
  | zero => intro r hr; exact absurd hr (Nat.not_lt_zero _)
  | succ n ih =>
    intro r hr hrM hl
    refine pk_eq r 0 (fun h => ?_) (fun h => ?_)
    · subst h
      refine h1 (fun k hk hb => hl.2.2 k hk hb (by rw [Nat.zero_testBit]; decide))
    · obtain ⟨k0, hk0, hb0⟩ := cb_nz hrM h
      refine ⟨k0 + 1, cb_yl11 hz hy hK hv hM hg (by omega) k0 hk0 hb0 rfl (fun i hi hb => ?_) k0 0 (by omega)⟩
      have pe := cb_pt_eq hi hl hb
      have pl := cb_mk_lt (fun j => r.testBit j && (cb_an L D g (K j) == cb_an L D g (K i))) M
      rw [pe] at pl ⊢
      obtain ⟨e, e1, e2, e3⟩ := hE _ pl
      refine ⟨fun hgk => ?_, fun hgk => ⟨pk_in _ 256 (by omega) rfl, ?_⟩⟩
      · obtain ⟨n1, n2⟩ := cb_Lr_next hz hK hg hi hl hb rfl (Or.inl hgk)
        exact ih _ (by omega) (by omega) n1
      · rw [e2]
        refine pk_le e m (fun hle => ?_) (fun hgt => h0 (fun hc => ?_))
        · obtain ⟨n1, n2⟩ := cb_Lr_next hz hK hg hi hl hb rfl (Or.inr (e3.mp hle))
          exact ih _ (by omega) (by omega) n1
        · rcases hc i hi (hl.1 i hb) with z | z
          · exact hgk z
          · have := e3.mpr z
            omega
theorem cb_ylv {L D C M g m s : Nat} {K : Nat → Nat} {kb : Bool} {post : Int32 → Prop} (hz : cb_Sz L D C) (hy : cb_Sy L D C yt) (hK : cb_Kg C M K) (hv : cb_Kv M K yw) (hM : M ≤ 8) (hg : g < C) (hm : m < 100) (hs : s < 2 ^ M) (hE : ∀ p, p < 2 ^ M → ∃ e, e ≤ 100 ∧ ye p = nI e ∧ (e ≤ m ↔ cb_V L D C K M kb p ≤ m)) (h1 : cb_LV L D C K M kb m g s → post 1) (h0 : ¬ cb_LV L D C K M kb m g s → post 0) : wpY_leaves post (nI L, yd, yc, yr, nI M, yg, ya, yw, ye, yz, yt) (nI s) (nI g) (nI m) :=
  ⟨s + 1, cb_yl3 hz hy hK hv hM hg hm hE h1 h0 (s + 1) s (by omega) hs ⟨fun _ h => h, fun _ _ _ _ _ h _ => h, fun _ _ a b => absurd a b⟩⟩
theorem cb_ycd {L D C M m s : Nat} {K : Nat → Nat} {kb : Bool} {kI : Int32} {post : Int32 → Prop} (hz : cb_Sz L D C) (hy : cb_Sy L D C yt) (hK : cb_Kg C M K) (hv : cb_Kv M K yw) (hM : M ≤ 8) (hkb : kI = if kb = true then 1 else 0) (hm : m < 100) (hs : s < 2 ^ M) (hE : ∀ p, p < 2 ^ M → ∃ e, e ≤ 100 ∧ ye p = nI e ∧ (e ≤ m ↔ cb_V L D C K M kb p ≤ m)) (h1 : (∃ g, g < C ∧ cb_ok K M kb s g = true ∧ cb_LV L D C K M kb m g s) → post 1) (h0 : ¬ (∃ g, g < C ∧ cb_ok K M kb s g = true ∧ cb_LV L D C K M kb m g s) → post 0) : ∀ d g, g + d = C → (∀ h, h < g → ¬ (cb_ok K M kb s h = true ∧ cb_LV L D C K M kb m h s)) → wY_canBeDone_3 post (nI s) (nI (m + 1)) kI (nI L) yd (nI C) yr (nI M) yg ya yw ye yz yt (d + 1) (nI g) := by
  have h7 := hz.2.2.2.2.2.2
  have h256 := cb_p8 hM
  intro d
  induction d with
  | zero =>
    intro g hd hn
    have e1 : g = C := by omega
    subst e1
    exact br_t (nI_le (Nat.le_refl _) (by omega)) (h0 (fun ⟨h, a, b⟩ => hn h a b))
  | succ d ih =>
    intro g hd hn
    have hg : g < C := by omega
    have nx : ¬ (cb_ok K M kb s g = true ∧ cb_LV L D C K M kb m g s) → wY_canBeDone_3 post (nI s) (nI (m + 1)) kI (nI L) yd (nI C) yr (nI M) yg ya yw ye yz yt (d + 1) (nI (g + 1)) := by
      intro hq
      refine ih (g + 1) (by omega) ?_
      intro y hy
      by_cases e1 : y = g
      · rw [e1]; exact hq
      · exact hn y (by omega)
    have look : cb_ok K M kb s g = true → wY_canBeDone_26 post (wY_canBeDone_3 post (nI s) (nI (m + 1)) kI (nI L) yd (nI C) yr (nI M) yg ya yw ye yz yt (d + 1)) (nI s) (nI (m + 1)) kI (nI g) (nI L) yd (nI C) yr (nI M) yg ya yw ye yz yt := by
      intro hok
      unfold wY_canBeDone_26
      rw [nI_pred]
      exact cb_ylv hz hy hK hv hM hg hm hs hE (fun hl => br_f (by decide) (h1 ⟨g, hg, hok, hl⟩)) (fun hl => br_t rfl (nm_r (nI_1 _) (nx (fun z => hl z.2))))
    refine br_f (nI_ge (by omega) (by omega)) ?_
    by_cases hk : kb = true
    · subst hk
      have e : kI = 1 := hkb.trans (if_pos rfl)
      rw [e] at nx look ⊢
      have eok : cb_ok K M true s g = cb_ex (fun k => s.testBit k && (K k == g)) M := rfl
      rw [eok] at look nx
      refine br_f (by decide) ⟨M + 1, cb_yi2 h7 hK hv hM hg (by omega) ?_ M 0 (by omega) (fun k hk => absurd hk (Nat.not_lt_zero _))⟩
      by_cases hx : cb_ex (fun k => s.testBit k && (K k == g)) M = true
      · rw [if_pos hx]
        exact br_f (by decide) (look hx)
      · rw [if_neg hx]
        exact br_t rfl (nm_r (nI_1 _) (nx (fun z => hx z.1)))
    · have e : kI = 0 := hkb.trans (if_neg hk)
      rw [e] at nx look ⊢
      refine br_t rfl (look ?_)
      have : kb = false := Bool.eq_false_iff.mpr hk
      subst this
      rfl
def cb_En (V : Nat → Nat) (M m s : Nat) (ye : Nat → Int32) : Prop := ∀ t, t < 2 ^ M → ye t = nI (if V t ≤ (if t < s then m + 1 else m) then V t else 100)
def cb_Ef (V : Nat → Nat) (M m : Nat) (ye : Nat → Int32) : Prop := ∀ t, t < 2 ^ M → ye t = nI (if V t ≤ m then V t else 100)
theorem cb_Ee {v m b : Nat} (hm : m ≤ b) (hm2 : m < 100) (hv : v ≤ 8) : (if v ≤ b then v else 100) ≤ 100 ∧ ((if v ≤ b then v else 100) ≤ m ↔ v ≤ m) := by
  by_cases h : v ≤ b
  · rw [if_pos h]
    exact ⟨by omega, Iff.rfl⟩
  · rw [if_neg h]
    exact ⟨by omega, by omega⟩
theorem cb_y122 {L D C M m : Nat} {K : Nat → Nat} {kb : Bool} {kI : Int32} {post : Int32 → SY → Prop} {J101 : cb_J6} (hz : cb_Sz L D C) (hy : cb_Sy L D C yt) (hK : cb_Kg C M K) (hv : cb_Kv M K yw) (hM : M ≤ 8) (hkb : kI = if kb = true then 1 else 0) (hm : m < 8) (hJ : ∀ ye, cb_Ef (cb_V L D C K M kb) M (m + 1) ye → J101 (nI (m + 1 + 1)) yg ya yw ye yz yt) : ∀ d s ye, s + d = 2 ^ M → 1 ≤ s → cb_En (cb_V L D C K M kb) M m s ye → wY_solve_122 post J101 kI (nI (2 ^ M - 1)) (nI (m + 1)) (nI L) yd (nI C) yr (nI M) (d + 1) (nI s) yg ya yw ye yz yt := by
  have h256 := cb_p8 hM
  have h7 := hz.2.2.2.2.2.2
  intro d
  induction d with
  | zero =>
    intro s ye hd hs1 hE
    have e1 : s = 2 ^ M := by omega
    subst e1
    refine br_t (nI_lt (by omega) (by omega)) (nm_r (nI_1 _) (hJ ye (fun t ht => ?_)))
    rw [hE t ht, if_pos ht]
  | succ d ih =>
    intro s ye hd hs1 hE
    have hs : s < 2 ^ M := by omega
    have es : (nI s).toNatClampNeg = s := nI_clamp (by omega)
    have hvs : cb_V L D C K M kb s ≤ 8 := cb_V_8 hz hK hM hs
    have ee := hE s hs
    rw [if_neg (Nat.lt_irrefl s)] at ee
    have next : ∀ v : Int32, v = nI (if cb_V L D C K M kb s ≤ m + 1 then cb_V L D C K M kb s else 100) → cb_En (cb_V L D C K M kb) M m (s + 1) (upd ye s v) := by
      intro v ev t ht
      by_cases e1 : t = s
      · rw [e1, pk_us, if_pos (Nat.lt_succ_self s)]; exact ev
      · rw [pk_un e1, hE t ht]
        by_cases e2 : t < s
        · rw [if_pos e2, if_pos (show t < s + 1 by omega)]
        · rw [if_neg e2, if_neg (show ¬ t < s + 1 by omega)]
    have keep : (if cb_V L D C K M kb s ≤ m + 1 then cb_V L D C K M kb s else 100) = (if cb_V L D C K M kb s ≤ m then cb_V L D C K M kb s else 100) → wY_solve_156 post J101 (wY_solve_122 post J101 kI (nI (2 ^ M - 1)) (nI (m + 1)) (nI L) yd (nI C) yr (nI M) (d + 1)) kI (nI (2 ^ M - 1)) (nI (m + 1)) (nI s) (nI L) yd (nI C) yr (nI M) yg ya yw ye yz yt := by
      intro ek
      refine br_t rfl ⟨pk_in s 256 (by omega), pk_in s 256 (by omega), ?_⟩
      rw [es]
      refine nm_e (nm_r (nI_1 _) (ih (s + 1) _ (by omega) (by omega) (next _ ?_)))
      rw [ek]; exact ee
    refine br_f (nI_nlt (by omega) (by omega)) ⟨pk_in s 256 (by omega), ?_⟩
    rw [es, ee]
    by_cases h1 : cb_V L D C K M kb s ≤ m
    · rw [if_pos h1]
      refine br_f (fun z => ?_) (keep (by rw [if_pos h1, if_pos (by omega)]))
      rw [show (100 : Int32) = nI 100 from rfl, nI_eq (by omega) (by omega)] at z
      omega
    · rw [if_neg h1]
      have hd2 := cb_V_done (L := L) (D := D) (C := C) (K := K) (M := M) (kb := kb) (s := s) (by omega) hm h1
      have hEe : ∀ p, p < 2 ^ M → ∃ e, e ≤ 100 ∧ ye p = nI e ∧ (e ≤ m ↔ cb_V L D C K M kb p ≤ m) := by
        intro p hp
        have hb : m ≤ (if p < s then m + 1 else m) := by split <;> omega
        have h3 := cb_Ee hb (by omega) (cb_V_8 (kb := kb) hz hK hM hp)
        exact ⟨_, h3.1, hE p hp, h3.2⟩
      refine br_t rfl ⟨C + 1, cb_ycd hz hy hK hv hM hkb (by omega) hs hEe (fun hx => ?_) (fun hx => ?_) C 0 (by omega) (fun h hh => absurd hh (Nat.not_lt_zero _))⟩
      · have h2 := hd2.mpr hx
        refine br_f (by decide) (br_f (by decide) ⟨pk_in s 256 (by omega), ?_⟩)
        rw [es]
        refine nm_e (nm_r (nI_1 _) (ih (s + 1) _ (by omega) (by omega) (next _ ?_)))
        rw [if_pos h2]
        exact congrArg nI (by omega)
      · have h2 := fun z => hx (hd2.mp z)
        exact br_t rfl (keep (by rw [if_neg h1, if_neg h2]))
theorem cb_y101 {L D C M : Nat} {K : Nat → Nat} {kb : Bool} {kI : Int32} {post : Int32 → SY → Prop} (hz : cb_Sz L D C) (hy : cb_Sy L D C yt) (hK : cb_Kg C M K) (hv : cb_Kv M K yw) (hM : M ≤ 8) (hkb : kI = if kb = true then 1 else 0) (hp : ∀ m ye, cb_V L D C K M kb (2 ^ M - 1) ≤ m → cb_Ef (cb_V L D C K M kb) M m ye → post (nI (cb_V L D C K M kb (2 ^ M - 1))) (nI L, yd, nI C, yr, nI M, yg, ya, yw, ye, yz, yt)) : ∀ d m ye, m + d = 8 → cb_Ef (cb_V L D C K M kb) M m ye → wY_solve_101 post kI (nI (2 ^ M - 1)) (nI L) yd (nI C) yr (nI M) (d + 1) (nI (m + 1)) yg ya yw ye yz yt := by
  have h256 := cb_p8 hM
  have h1 : 1 ≤ 2 ^ M := Nat.one_le_two_pow
  have hv8 : cb_V L D C K M kb (2 ^ M - 1) ≤ 8 := cb_V_8 hz hK hM (by omega)
  have ew : (nI (2 ^ M - 1)).toNatClampNeg = 2 ^ M - 1 := nI_clamp (by omega)
  have out : ∀ m ye n, m ≤ 8 → cb_Ef (cb_V L D C K M kb) M m ye → cb_V L D C K M kb (2 ^ M - 1) ≤ m → wY_solve_101 post kI (nI (2 ^ M - 1)) (nI L) yd (nI C) yr (nI M) (n + 1) (nI (m + 1)) yg ya yw ye yz yt := by
    intro m ye n hm hE hle
    have ee := hE (2 ^ M - 1) (by omega)
    rw [if_pos hle] at ee
    refine br_f (nI_ge (b := 10) (by omega) (by decide)) ⟨pk_in (2 ^ M - 1) 256 (by omega), ?_⟩
    rw [ew, ee]
    refine br_f (fun z => ?_) ⟨pk_in (2 ^ M - 1) 256 (by omega), hp m ye hle hE⟩
    rw [show (100 : Int32) = nI 100 from rfl, nI_eq (by omega) (by omega)] at z
    omega
  intro d
  induction d with
  | zero =>
    intro m ye hd hE
    exact out m ye 0 (by omega) hE (by omega)
  | succ d ih =>
    intro m ye hd hE
    by_cases hle : cb_V L D C K M kb (2 ^ M - 1) ≤ m
    · exact out m ye (d + 1) (by omega) hE hle
    · have ee := hE (2 ^ M - 1) (by omega)
      rw [if_neg hle] at ee
      refine br_f (nI_ge (b := 10) (by omega) (by decide)) ⟨pk_in (2 ^ M - 1) 256 (by omega), ?_⟩
      rw [ew, ee]
      refine br_t rfl ⟨2 ^ M - 1 + 1, cb_y122 (m := m) hz hy hK hv hM hkb (by omega) (fun ye hE => ih (m + 1) ye (by omega) hE) (2 ^ M - 1) 1 ye (by omega) (by omega) (fun t ht => ?_)⟩
      rw [hE t ht]
      by_cases e1 : t < 1
      · have e0 : t = 0 := by omega
        subst e0
        rw [cb_V_0, if_pos (Nat.zero_le _), if_pos (Nat.zero_le _)]
      · rw [if_neg e1]
theorem cb_y60 {L D C M : Nat} {K : Nat → Nat} {kb : Bool} {kI : Int32} {post : Int32 → SY → Prop} (hz : cb_Sz L D C) (hy : cb_Sy L D C yt) (hK : cb_Kg C M K) (hv : cb_Kv M K yw) (hM : M ≤ 8) (hkb : kI = if kb = true then 1 else 0) (hp : ∀ m ye, cb_V L D C K M kb (2 ^ M - 1) ≤ m → cb_Ef (cb_V L D C K M kb) M m ye → post (nI (cb_V L D C K M kb (2 ^ M - 1))) (nI L, yd, nI C, yr, nI M, yg, ya, yw, ye, yz, yt)) : ∀ d i ye, i + d = 256 → (∀ t, t < i → ye t = if t = 0 then 0 else 100) → wY_solve_60 post kI (nI L) yd (nI C) yr (nI M) (d + 1) (nI i) yg ya yw ye yz yt := by
  have h256 := cb_p8 hM
  intro d
  induction d with
  | zero =>
    intro i ye hd he
    have e1 : i = 256 := by omega
    subst e1
    refine br_t (by decide) (nm_r (cb_wh hM) ⟨9, cb_y101 hz hy hK hv hM hkb hp 8 0 ye (by omega) (fun t ht => ?_)⟩)
    rw [he t (by omega)]
    by_cases e0 : t = 0
    · subst e0; rw [cb_V_0]; rfl
    · have := cb_V_pos (L := L) (D := D) (C := C) (K := K) (M := M) (kb := kb) e0
      rw [if_neg e0, if_neg (by omega)]; rfl
  | succ d ih =>
    intro i ye hd he
    have er : (nI i).toNatClampNeg = i := nI_clamp (by omega)
    refine br_f (nI_ge (b := 256) (by omega) (by decide)) (pk_eq i 0 (fun h => ⟨pk_in i 256 (by omega), ?_⟩) (fun h => ⟨pk_in i 256 (by omega), ?_⟩))
    · rw [er]
      refine nm_e (nm_r (nI_1 _) (ih (i + 1) _ (by omega) (fun t ht => ?_)))
      by_cases e1 : t = i
      · rw [e1, pk_us, if_pos h]
      · rw [pk_un e1]; exact he t (by omega)
    · rw [er]
      refine nm_e (nm_r (nI_1 _) (ih (i + 1) _ (by omega) (fun t ht => ?_)))
      by_cases e1 : t = i
      · rw [e1, pk_us, if_neg h]
      · rw [pk_un e1]; exact he t (by omega)
theorem cb_y25 {L D C T M : Nat} {P : Nat → Bool} {K : Nat → Nat} {kb : Bool} {kI : Int32} {post : Int32 → SY → Prop} (hz : cb_Sz L D C) (hy : cb_Sy L D C yt) (ht : cb_To C T yg) (hP : P = cb_ft L D T yg ya (-1)) (hMe : M = cb_cn P C) (hKP : ∀ x, x < C → P x = true → K (cb_cn P x) = x) (hK : cb_Kg C M K) (hM : M ≤ 8) (hkb : kI = if kb = true then 1 else 0) (hp : ∀ m yw ye, cb_Kv M K yw → cb_V L D C K M kb (2 ^ M - 1) ≤ m → cb_Ef (cb_V L D C K M kb) M m ye → post (nI (cb_V L D C K M kb (2 ^ M - 1))) (nI L, yd, nI C, nI T, nI M, yg, ya, yw, ye, yz, yt)) : ∀ d x yw, x + d = C → cb_Kv (cb_cn P x) K yw → wY_solve_25 post kI (nI L) yd (nI C) (nI T) (nI M) (d + 1) (nI (cb_cn P x)) (nI x) yg ya yw ye yz yt := by
  have h7 := hz.2.2.2.2.2.2
  intro d
  induction d with
  | zero =>
    intro x yw hd hv
    have e1 : x = C := by omega
    subst e1
    rw [← hMe] at hv
    exact br_t (nI_le (Nat.le_refl _) (by omega)) ⟨257, cb_y60 hz hy hK hv hM hkb (fun m ye a b => hp m yw ye hv a b) 256 0 ye (by omega) (fun t ht => absurd ht (Nat.not_lt_zero _))⟩
  | succ d ih =>
    intro x yw hd hv
    have hx : x < C := by omega
    refine br_f (nI_ge (by omega) (by omega)) (cb_yag hz hy ht hx ?_)
    rw [← hP]
    by_cases hq : P x = true
    · rw [if_pos hq]
      have hlt := cb_cn_lt P hx hq
      have er : (nI (cb_cn P x)).toNatClampNeg = cb_cn P x := nI_clamp (by omega)
      refine br_f (by decide) ⟨pk_in (cb_cn P x) 8 (by omega), ?_⟩
      rw [er]
      refine nm_e (nm_r (nI_1 _) (nm_r (nI_1 _) ?_))
      rw [← cb_cn_t hq]
      refine ih (x + 1) _ (by omega) ?_
      rw [cb_cn_t hq]
      intro k hk
      by_cases e1 : k = cb_cn P x
      · rw [e1, pk_us, hKP x hx hq]
      · rw [pk_un e1]; exact hv k (by omega)
    · rw [if_neg hq]
      refine br_t rfl (nm_r (nI_1 _) ?_)
      rw [← cb_cn_f hq] at hv ⊢
      exact ih (x + 1) _ (by omega) hv
theorem cb_ysv {L D C T M : Nat} {P : Nat → Bool} {K : Nat → Nat} {kb : Bool} {kI : Int32} {post : Int32 → SY → Prop} (hz : cb_Sz L D C) (hy : cb_Sy L D C yt) (ht : cb_To C T yg) (hP : P = cb_ft L D T yg ya (-1)) (hMe : M = cb_cn P C) (hKP : ∀ x, x < C → P x = true → K (cb_cn P x) = x) (hK : cb_Kg C M K) (hM : M ≤ 8) (hkb : kI = if kb = true then 1 else 0) (hp : ∀ m yw ye, cb_Kv M K yw → cb_V L D C K M kb (2 ^ M - 1) ≤ m → cb_Ef (cb_V L D C K M kb) M m ye → post (nI (cb_V L D C K M kb (2 ^ M - 1))) (nI L, yd, nI C, nI T, nI M, yg, ya, yw, ye, yz, yt)) : wpY_solve post (nI L, yd, nI C, nI T, yf, yg, ya, yw, ye, yz, yt) kI := by
  refine cb_ycp hz hy ht ?_
  rw [← hP, ← hMe]
  exact br_t (nI_le (b := 8) hM (by decide)) ⟨C + 1, cb_y25 hz hy ht hP hMe hKP hK hM hkb hp C 0 yw (by omega) (fun k hk => absurd hk (Nat.not_lt_zero _))⟩
theorem cb_ysm {L D C T M : Nat} {P : Nat → Bool} {kI : Int32} {post : Int32 → SY → Prop} (hz : cb_Sz L D C) (hy : cb_Sy L D C yt) (ht : cb_To C T yg) (hP : P = cb_ft L D T yg ya (-1)) (hMe : M = cb_cn P C) (hM : 8 < M) (hp : post (-4) (nI L, yd, nI C, nI T, nI M, yg, ya, yw, ye, yz, yt)) : wpY_solve post (nI L, yd, nI C, nI T, yf, yg, ya, yw, ye, yz, yt) kI := by
  have h7 := hz.2.2.2.2.2.2
  have c1 := cb_cn_le P C
  refine cb_ycp hz hy ht ?_
  rw [← hP, ← hMe]
  exact br_f (nI_ge hM (by omega)) hp
end
end
section
/-! need, needKept, first -/
section
variable {fl fd fc ft fp : Int32} {da ta tg tA pc ip ps re sc ns : Nat → Int32}
theorem cb_xf36 {L D C M g0 : Nat} {K : Nat → Nat} {v : Nat} {post : Int32 → SX → Prop} (hC : C ≤ 81) (hM : M ≤ 8) (hr : cb_Rm L D C K M C re) (hV : ∀ t, cb_V L D C K M false t ≤ 9) (hn : ∀ t, t < 2 ^ M → ns t = nI (cb_V L D C K M false t)) (hg0 : g0 < C) (hv : v ≤ 9) (he : cb_W L D K M (cb_V L D C K M false) g0 (2 ^ M - 1) = v) (hne : ∀ g, g < g0 → ¬ cb_W L D K M (cb_V L D C K M false) g (2 ^ M - 1) = v) (hp : post (nI g0) (fl, fd, nI C, ft, nI M, da, ta, tg, tA, pc, ip, ps, re, sc, ns)) : ∀ d g, g + d = g0 → wX_first_36 post (nI v) (nI (2 ^ M - 1)) fl fd (nI C) ft (nI M) da ta tg tA pc ip ps re sc ns (d + 1) (nI g) := by
  have h256 := cb_p8 hM
  have h1 : 1 ≤ 2 ^ M := Nat.one_le_two_pow
  intro d
  induction d with
  | zero =>
    intro g hd
    have e1 : g = g0 := by omega
    subst e1
    refine br_f (nI_ge hg0 (by omega)) (cb_xnw hC hM hg0 (by omega) hr hV (fun t ht => hn t (by omega)) ?_)
    rw [he]
    exact br_t rfl hp
  | succ d ih =>
    intro g hd
    have b := cb_W_9 (L := L) (D := D) (M := M) (K := K) (g := g) (s := 2 ^ M - 1) hV
    refine br_f (nI_ge (by omega) (by omega)) (cb_xnw hC hM (show g < C by omega) (by omega) hr hV (fun t ht => hn t (by omega)) (br_f (fun z => ?_) (nm_r (nI_1 _) (ih (g + 1) (by omega)))))
    rw [nI_eq (by omega) (by omega)] at z
    exact hne g (by omega) z
end
section
variable {yl yd yc yr yf : Int32} {yg ya yw ye yz yt : Nat → Int32}
theorem cb_yf24 {L D C M g0 : Nat} {K : Nat → Nat} {v : Nat} {post : Int32 → SY → Prop} (hz : cb_Sz L D C) (hy : cb_Sy L D C yt) (hK : cb_Kg C M K) (hkv : cb_Kv M K yw) (hM : M ≤ 8) (hv : v < 100) (hE : ∀ p, p < 2 ^ M → ∃ e, e ≤ 100 ∧ ye p = nI e ∧ (e ≤ v ↔ cb_V L D C K M false p ≤ v)) (hg0 : g0 < C) (he : cb_LV L D C K M false v g0 (2 ^ M - 1)) (hne : ∀ g, g < g0 → ¬ cb_LV L D C K M false v g (2 ^ M - 1)) (hp : post (nI g0) (nI L, yd, yc, yr, nI M, yg, ya, yw, ye, yz, yt)) : ∀ d g, g + d = g0 → wY_first_24 post (nI (v + 1)) (nI L) yd yc yr (nI M) yg ya yw ye yz yt (d + 1) (nI g) := by
  have h1 : 1 ≤ 2 ^ M := Nat.one_le_two_pow
  intro d
  induction d with
  | zero =>
    intro g hd
    have e1 : g = g0 := by omega
    subst e1
    unfold wY_first_24
    rw [cb_wh hM, nI_pred]
    exact cb_ylv hz hy hK hkv hM hg0 hv (by omega) hE (fun _ => br_f (by decide) hp) (fun h => absurd he h)
  | succ d ih =>
    intro g hd
    unfold wY_first_24
    rw [cb_wh hM, nI_pred]
    exact cb_ylv hz hy hK hkv hM (show g < C by omega) hv (by omega) hE (fun h => absurd h (hne g (by omega))) (fun _ => br_t rfl (nm_r (nI_1 _) (ih (g + 1) (by omega))))
end
theorem cb_least {Q : Nat → Prop} (n : Nat) : (∃ g, g < n ∧ Q g) → ∃ g, g < n ∧ Q g ∧ ∀ h, h < g → ¬ Q h := by
  induction n with
  | zero => rintro ⟨g, a, _⟩; exact absurd a (Nat.not_lt_zero _)
  | succ n ih =>
    rintro ⟨g, a, b⟩
    by_cases h : ∃ g, g < n ∧ Q g
    · obtain ⟨g, a, b, c⟩ := ih h
      exact ⟨g, by omega, b, c⟩
    · have e : g = n := Classical.byContradiction (fun z => h ⟨g, by omega, b⟩)
      exact ⟨g, a, b, fun j hj hq => h ⟨j, by omega, hq⟩⟩
theorem cb_V_9 {L D C M : Nat} {K : Nat → Nat} {kb : Bool} (t : Nat) : cb_V L D C K M kb t ≤ 9 := cb_tb_9 _ _
theorem cb_vcn {k : Nat} {kb : Bool} {kI : Int32} {L D C T : Nat} {P : Nat → Bool} {tg tA da ta pc ip ps re sc ns yw ye yz yt : Nat → Int32} {yf : Int32} (hkb : kI = if kb = true then 1 else 0) (hz : cb_Sz L D C) (hs : cb_St L D C da ta) (hy : cb_Sy L D C yt) (ht : cb_To C T tg) (hP : P = cb_ft L D T tg tA 8) (hi : cb_Po C P pc ip) : wpX_leastNeed (fun r u' => wpY_solve (fun r' v' => r' = r ∧ i_Rel (k + 4) u' v') (nI L, nI D, nI C, nI T, yf, tg, tA, yw, ye, yz, yt) kI) (nI L, nI D, nI C, nI T, nI (cb_cn P C), da, ta, tg, tA, pc, ip, ps, re, sc, ns) kI := by
  have h7 := hz.2.2.2.2.2.2
  have c1 := cb_cn_le P C
  have hP2 : P = cb_ft L D T tg tA (-1) := by rw [cb_ft8 ht.1, hP]
  obtain ⟨hK, hv⟩ := cb_K_Kg h7 hi
  by_cases hM : cb_cn P C ≤ 8
  · exact cb_xln hz hs hK hv hM hkb (fun re sc ns hr hn => cb_ysv hz hy ht hP2 rfl (fun x hx hpx => cb_K_at h7 hi hx hpx) hK hM hkb (fun m yw ye _ _ _ => ⟨rfl, cb_rel hz hs hy ht hP hi⟩))
  · exact br_f (nI_ge (a := 8) (by omega) (by omega)) (cb_ysm hz hy ht hP2 rfl (by omega) ⟨rfl, cb_rel hz hs hy ht hP hi⟩)
theorem i_vc_need {k : Nat} {u : SX} {v : SY} (I : i_Rel k u v) (hk : k + 4 ≤ 2050) : wpX_need (fun r u' => wpY_need (fun r' v' => r' = r ∧ i_Rel (k + 4) u' v') v) u := by
  obtain ⟨L, D, C, T, P, tg, tA, da, ta, pc, ip, ps, re, sc, ns, yw, ye, yz, yt, yf, rfl, rfl, hz, hs, hy, ht, hP, hi⟩ := I
  exact cb_vcn (kb := false) (kI := 0) rfl hz hs hy ht hP hi
theorem i_vc_needKept {k : Nat} {u : SX} {v : SY} (I : i_Rel k u v) (hk : k + 4 ≤ 2050) : wpX_needKept (fun r u' => wpY_needKept (fun r' v' => r' = r ∧ i_Rel (k + 4) u' v') v) u := by
  obtain ⟨L, D, C, T, P, tg, tA, da, ta, pc, ip, ps, re, sc, ns, yw, ye, yz, yt, yf, rfl, rfl, hz, hs, hy, ht, hP, hi⟩ := I
  exact cb_vcn (kb := true) (kI := 1) rfl hz hs hy ht hP hi
theorem i_vc_first {k : Nat} {u : SX} {v : SY} (I : i_Rel k u v) (hk : k + 4 ≤ 2050) : wpX_first (fun r u' => wpY_first (fun r' v' => r' = r ∧ i_Rel (k + 4) u' v') v) u := by
  obtain ⟨L, D, C, T, P, tg, tA, da, ta, pc, ip, ps, re, sc, ns, yw, ye, yz, yt, yf, rfl, rfl, hz, hs, hy, ht, hP, hi⟩ := I
  unfold wpX_first wpY_first
  dsimp only
  have h7 := hz.2.2.2.2.2.2
  have c1 := cb_cn_le P C
  have hP2 : P = cb_ft L D T tg tA (-1) := by rw [cb_ft8 ht.1, hP]
  obtain ⟨hK, hv⟩ := cb_K_Kg h7 hi
  refine pk_eq (cb_cn P C) 0 (fun h => ?_) (fun h => ?_)
  · refine cb_ysv (kb := false) (M := cb_cn P C) hz hy ht hP2 rfl (fun x hx hpx => cb_K_at h7 hi hx hpx) hK (by omega) rfl (fun m yw ye _ _ _ => ?_)
    have e0 : cb_V L D C (cb_K pc) (cb_cn P C) false (2 ^ cb_cn P C - 1) = 0 := by
      rw [show 2 ^ cb_cn P C - 1 = 0 by rw [h]]
      exact cb_V_0
    rw [e0]
    exact br_f (by decide) (br_t rfl ⟨rfl, cb_rel hz hs hy ht hP hi⟩)
  · by_cases hM : cb_cn P C ≤ 8
    · have h1 : 2 ≤ 2 ^ cb_cn P C := by
        obtain ⟨n, en⟩ : ∃ n, cb_cn P C = n + 1 := ⟨cb_cn P C - 1, by omega⟩
        rw [en, Nat.pow_succ]
        have := Nat.one_le_two_pow (n := n)
        omega
      have hw0 : 2 ^ cb_cn P C - 1 ≠ 0 := by omega
      have v8 : cb_V L D C (cb_K pc) (cb_cn P C) false (2 ^ cb_cn P C - 1) ≤ 8 := cb_V_8 hz hK hM (by omega)
      have v1 := cb_V_pos (L := L) (D := D) (C := C) (K := cb_K pc) (M := cb_cn P C) (kb := false) hw0
      obtain ⟨v, ev⟩ : ∃ v, cb_V L D C (cb_K pc) (cb_cn P C) false (2 ^ cb_cn P C - 1) = v + 1 := ⟨cb_V L D C (cb_K pc) (cb_cn P C) false (2 ^ cb_cn P C - 1) - 1, by omega⟩
      obtain ⟨gx, hgx, _, hlx⟩ := cb_V_ex hw0 ev (by omega)
      obtain ⟨g0, hg0, hl0, hne⟩ := cb_least (Q := fun g => cb_LV L D C (cb_K pc) (cb_cn P C) false v g (2 ^ cb_cn P C - 1)) C ⟨gx, hgx, hlx⟩
      have hwf : ∀ g, g < C → (cb_W L D (cb_K pc) (cb_cn P C) (cb_V L D C (cb_K pc) (cb_cn P C) false) g (2 ^ cb_cn P C - 1) = v + 1 ↔ cb_LV L D C (cb_K pc) (cb_cn P C) false v g (2 ^ cb_cn P C - 1)) := fun g hg => cb_V_first hw0 ev (by omega) hg rfl
      refine cb_xln (kb := false) hz hs hK hv hM rfl (fun re sc ns hr hn => ?_)
      rw [ev]
      refine br_f (fun z => ?_) (nm_r (cb_wh hM) ⟨g0 + 1, cb_xf36 h7 hM hr cb_V_9 hn hg0 (by omega) ((hwf g0 hg0).mpr hl0) (fun g hg hc => hne g hg ((hwf g (by omega)).mp hc)) ?_ g0 0 (by omega)⟩)
      · have : ∀ j, j < 8 → ¬ nI (j + 1) = -4 := by decide +kernel
        exact this v (by omega) z
      refine cb_ysv (kb := false) hz hy ht hP2 rfl (fun x hx hpx => cb_K_at h7 hi hx hpx) hK hM rfl (fun m yw ye hkv hm hE => ?_)
      rw [ev] at hm ⊢
      refine br_t (nI_lt (a := 0) (by omega) (by omega)) ⟨g0 + 1, cb_yf24 hz hy hK hkv hM (by omega) (fun p hp => ?_) hg0 hl0 hne ⟨rfl, cb_rel hz hs hy ht hP hi⟩ g0 0 (by omega)⟩
      have h3 := cb_Ee (m := v) (b := m) (by omega) (by omega) (cb_V_8 (kb := false) hz hK hM hp)
      exact ⟨_, h3.1, hE p hp, h3.2⟩
    · exact br_f (nI_ge (a := 8) (by omega) (by omega)) (br_t rfl (cb_ysm hz hy ht hP2 rfl (by omega) (br_f (by decide) (br_f (by decide) ⟨rfl, cb_rel hz hs hy ht hP hi⟩))))
end
