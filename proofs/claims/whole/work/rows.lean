section
/-! rows pasted from kit/rows -/
theorem pk_us {f : Nat → Int32} {k : Nat} {x : Int32} : upd f k x k = x := if_pos rfl
theorem pk_un {f : Nat → Int32} {k j : Nat} {x : Int32} (h : j ≠ k) : upd f k x j = f j := if_neg h
theorem pk_sub {a b : Nat} (h : b ≤ a) : nI a - nI b = nI (a - b) := by
  obtain ⟨c, rfl⟩ : ∃ c, a = c + b := ⟨a - b, by omega⟩
  rw [← nI_add, Int32.add_sub_cancel, Nat.add_sub_cancel]
theorem pk_m1 (n : Nat) : nI (n + 1) + (-1) = nI n := by
  rw [← nI_1, Int32.add_assoc, show (1 : Int32) + (-1) = 0 from rfl, Int32.add_zero]
theorem pk_mul (a b : Nat) : nI a * nI b = nI (a * b) := (Int32.ofNat_mul a b).symm
theorem pk_div {a d : Nat} (ha : a < 2 ^ 31) (h0 : 0 < d) (hd : d < 2 ^ 31) : nI a / nI d = nI (a / d) := by
  apply Int32.toInt_inj.mp
  rw [lg_idiv_nonneg (by rw [nI_toInt ha]; omega) (by rw [nI_toInt hd]; omega), nI_toInt ha, nI_toInt hd, nI_toInt (Nat.lt_of_le_of_lt (Nat.div_le_self a d) ha)]
  first | rfl | exact (Int.natCast_ediv _ _).symm
theorem pk_rem {a d : Nat} (ha : a < 2 ^ 31) (h0 : 0 < d) (hd : d < 2 ^ 31) : nI a - nI a / nI d * nI d = nI (a % d) := by
  rw [pk_div ha h0 hd, pk_mul, pk_sub (Nat.div_mul_le_self a d)]
  exact congrArg nI (by have := Nat.div_add_mod' a d; omega)
theorem pk_le {x y : Int32} {A B : Prop} (a b : Nat) (f : a ≤ b → A) (g : b < a → B) (hx : x = nI a := by rfl) (hy : y = nI b := by rfl) (ha : a < 2 ^ 31 := by omega) (hb : b < 2 ^ 31 := by omega) : (x ≤ y → A) ∧ (¬ x ≤ y → B) := by
  subst hx hy
  rw [nI_leI ha hb]
  exact ⟨f, fun z => g (by omega)⟩
theorem pk_lt {x y : Int32} {A B : Prop} (a b : Nat) (f : a < b → A) (g : b ≤ a → B) (hx : x = nI a := by rfl) (hy : y = nI b := by rfl) (ha : a < 2 ^ 31 := by omega) (hb : b < 2 ^ 31 := by omega) : (x < y → A) ∧ (¬ x < y → B) := by
  subst hx hy
  rw [nI_ltI ha hb]
  exact ⟨f, fun z => g (by omega)⟩
theorem pk_eq {x y : Int32} {A B : Prop} (a b : Nat) (f : a = b → A) (g : a ≠ b → B) (hx : x = nI a := by rfl) (hy : y = nI b := by rfl) (ha : a < 2 ^ 31 := by omega) (hb : b < 2 ^ 31 := by omega) : (x = y → A) ∧ (¬ x = y → B) := by
  subst hx hy
  rw [nI_eq ha hb]
  exact ⟨f, g⟩
theorem pk_in {x : Int32} (n N : Nat) (h : n < N) (hx : x = nI n := by rfl) (hN : N < 2 ^ 31 := by omega) : vp_in x N := by
  subst hx
  exact vp_in_nI h hN
theorem pk_cl {x : Int32} (n : Nat) (hx : x = nI n := by rfl) (h : n < 2 ^ 31 := by omega) : x.toNatClampNeg = n := by
  subst hx
  exact nI_clamp h
theorem pk_tn {n : Nat} (h : n < 2 ^ 32) : (nI n).toBitVec.toNat = n := Nat.mod_eq_of_lt h
theorem pk_shl (a s : Int32) (k : Nat) (hs : (s.toBitVec.smod 32).toNat = k) : (a <<< s).toBitVec.toNat = a.toBitVec.toNat * 2 ^ k % 2 ^ 32 := by
  show (a.toBitVec <<< (s.toBitVec.smod 32).toNat).toNat = _
  rw [hs, BitVec.toNat_shiftLeft, Nat.shiftLeft_eq]
theorem pk_shlN {n : Nat} (s : Int32) (k : Nat) (hs : (s.toBitVec.smod 32).toNat = k) (h : n * 2 ^ k < 2 ^ 32) : nI n <<< s = nI (n * 2 ^ k) := by
  apply Int32.toBitVec_inj.mp
  apply BitVec.eq_of_toNat_eq
  have hn : n < 2 ^ 32 := Nat.lt_of_le_of_lt (Nat.le_mul_of_pos_right n (Nat.two_pow_pos k)) h
  rw [pk_shl _ _ k hs, pk_tn hn, pk_tn h, Nat.mod_eq_of_lt h]
theorem pk_shr (a s : Int32) (k : Nat) (hs : (s.toBitVec.smod 32).toNat = k) : (a >>> s).toInt = a.toInt >>> k := by
  show (a.toBitVec.sshiftRight (s.toBitVec.smod 32).toNat).toInt = _
  rw [hs, BitVec.toInt_sshiftRight]
  rfl
theorem pk_shrN {n : Nat} (h : n < 2 ^ 31) (s : Int32) (k : Nat) (hs : (s.toBitVec.smod 32).toNat = k) : nI n >>> s = nI (n / 2 ^ k) := by
  apply Int32.toInt_inj.mp
  have h2 : n / 2 ^ k ≤ n := Nat.div_le_self _ _
  rw [pk_shr _ _ k hs, nI_toInt h, nI_toInt (by omega), Int.shiftRight_eq_div_pow]
  rfl
def bt (x : Int32) (i : Nat) : Bool := x.toBitVec.getLsbD i
theorem b_ext {x y : Int32} (h : ∀ i, i < 32 → bt x i = bt y i) : x = y := Int32.toBitVec_inj.mp (BitVec.eq_of_getLsbD_eq (fun i hi => h i hi))
theorem b_or (x y : Int32) (i : Nat) : bt (x ||| y) i = (bt x i || bt y i) := by unfold bt; rw [Int32.toBitVec_or, BitVec.getLsbD_or]
theorem b_and (x y : Int32) (i : Nat) : bt (x &&& y) i = (bt x i && bt y i) := by unfold bt; rw [Int32.toBitVec_and, BitVec.getLsbD_and]
theorem b_xor (x y : Int32) (i : Nat) : bt (x ^^^ y) i = (bt x i ^^ bt y i) := by unfold bt; rw [Int32.toBitVec_xor, BitVec.getLsbD_xor]
theorem b_m1 : ∀ i, i < 32 → bt (-1) i = true := by decide +kernel
theorem s_l : ∀ n, n < 32 → ((nI n &&& 31).toBitVec.smod 32).toNat = n := by decide +kernel
theorem nx_and (a b : Nat) : nI a &&& nI b = nI (a &&& b) := by
  apply Int32.toBitVec_inj.1
  show BitVec.ofNat 32 a &&& BitVec.ofNat 32 b = BitVec.ofNat 32 (a &&& b)
  apply BitVec.eq_of_getLsbD_eq
  intro i hi
  simp [hi]
end
section
/-! counts, all, exists over n first naturals -/
def cb_cn (P : Nat → Bool) : Nat → Nat
  | 0 => 0
  | n + 1 => if P n then cb_cn P n + 1 else cb_cn P n
def cb_al (P : Nat → Bool) : Nat → Bool
  | 0 => true
  | n + 1 => cb_al P n && P n
def cb_ex (P : Nat → Bool) : Nat → Bool
  | 0 => false
  | n + 1 => cb_ex P n || P n
theorem cb_cn_t {P : Nat → Bool} {n : Nat} (h : P n = true) : cb_cn P (n + 1) = cb_cn P n + 1 := if_pos h
theorem cb_cn_f {P : Nat → Bool} {n : Nat} (h : ¬ P n = true) : cb_cn P (n + 1) = cb_cn P n := if_neg h
theorem cb_cn_le (P : Nat → Bool) (n : Nat) : cb_cn P n ≤ n := by
  induction n with
  | zero => exact Nat.le_refl _
  | succ n ih =>
    by_cases h : P n = true
    · rw [cb_cn_t h]; omega
    · rw [cb_cn_f h]; omega
theorem cb_cn_s (P : Nat → Bool) (n : Nat) : cb_cn P n ≤ cb_cn P (n + 1) := by
  by_cases h : P n = true
  · rw [cb_cn_t h]; omega
  · rw [cb_cn_f h]; omega
theorem cb_cn_mono (P : Nat → Bool) {m n : Nat} (h : m ≤ n) : cb_cn P m ≤ cb_cn P n := by
  induction n with
  | zero => have e : m = 0 := by omega
            rw [e]; exact Nat.le_refl _
  | succ n ih =>
    by_cases e : m = n + 1
    · rw [e]; exact Nat.le_refl _
    · exact Nat.le_trans (ih (by omega)) (cb_cn_s P n)
theorem cb_cn_lt (P : Nat → Bool) {x n : Nat} (h : x < n) (hx : P x = true) : cb_cn P x < cb_cn P n := by
  have h1 := cb_cn_mono P (show x + 1 ≤ n from h)
  rw [cb_cn_t hx] at h1
  omega
theorem cb_cn_uq (P : Nat → Bool) {x y : Nat} (hx : P x = true) (hy : P y = true) (e : cb_cn P x = cb_cn P y) : x = y := by
  rcases Nat.lt_trichotomy x y with h | h | h
  · have := cb_cn_lt P h hx; omega
  · exact h
  · have := cb_cn_lt P h hy; omega
theorem cb_cn_cg {P Q : Nat → Bool} {n : Nat} (h : ∀ x, x < n → P x = Q x) : cb_cn P n = cb_cn Q n := by
  induction n with
  | zero => rfl
  | succ n ih =>
    have e := ih (fun x hx => h x (by omega))
    have e2 := h n (by omega)
    show (if P n then cb_cn P n + 1 else cb_cn P n) = (if Q n then cb_cn Q n + 1 else cb_cn Q n)
    rw [e, e2]
theorem cb_cn_inv (P : Nat → Bool) {k n : Nat} (h : k < cb_cn P n) : ∃ x, x < n ∧ P x = true ∧ cb_cn P x = k := by
  induction n with
  | zero => exact absurd h (Nat.not_lt_zero _)
  | succ n ih =>
    by_cases hp : P n = true
    · rw [cb_cn_t hp] at h
      by_cases e : k = cb_cn P n
      · exact ⟨n, by omega, hp, e.symm⟩
      · obtain ⟨x, a, b, c⟩ := ih (by omega)
        exact ⟨x, by omega, b, c⟩
    · rw [cb_cn_f hp] at h
      obtain ⟨x, a, b, c⟩ := ih h
      exact ⟨x, by omega, b, c⟩
theorem cb_cn_sub {P Q : Nat → Bool} {n : Nat} (h : ∀ x, x < n → P x = true → Q x = true) : cb_cn P n ≤ cb_cn Q n := by
  induction n with
  | zero => exact Nat.le_refl _
  | succ n ih =>
    have e := ih (fun x hx => h x (by omega))
    by_cases hp : P n = true
    · rw [cb_cn_t hp, cb_cn_t (h n (by omega) hp)]; omega
    · rw [cb_cn_f hp]; exact Nat.le_trans e (cb_cn_s Q n)
theorem cb_cn_ssub {P Q : Nat → Bool} {n : Nat} (h : ∀ x, x < n → P x = true → Q x = true) (hx : ∃ x, x < n ∧ ¬ P x = true ∧ Q x = true) : cb_cn P n < cb_cn Q n := by
  induction n with
  | zero => obtain ⟨x, a, _⟩ := hx; omega
  | succ n ih =>
    obtain ⟨x, a, b, c⟩ := hx
    have h' : ∀ x, x < n → P x = true → Q x = true := fun x hx => h x (by omega)
    by_cases e : x = n
    · subst e
      rw [cb_cn_f b, cb_cn_t c]
      have := cb_cn_sub h'
      omega
    · have e2 := ih h' ⟨x, by omega, b, c⟩
      by_cases hp : P n = true
      · rw [cb_cn_t hp, cb_cn_t (h n (by omega) hp)]; omega
      · rw [cb_cn_f hp]; exact Nat.lt_of_lt_of_le e2 (cb_cn_s Q n)
theorem cb_cn_all {P : Nat → Bool} {n : Nat} (h : cb_cn P n = n) : ∀ x, x < n → P x = true := by
  induction n with
  | zero => intro x hx; omega
  | succ n ih =>
    have h1 := cb_cn_le P n
    by_cases hp : P n = true
    · rw [cb_cn_t hp] at h
      intro x hx
      by_cases e : x = n
      · rw [e]; exact hp
      · exact ih (by omega) x (by omega)
    · rw [cb_cn_f hp] at h; omega
theorem cb_al_iff (P : Nat → Bool) (n : Nat) : cb_al P n = true ↔ ∀ x, x < n → P x = true := by
  induction n with
  | zero => exact ⟨fun _ x hx => absurd hx (Nat.not_lt_zero _), fun _ => rfl⟩
  | succ n ih =>
    show (cb_al P n && P n) = true ↔ _
    rw [Bool.and_eq_true, ih]
    exact ⟨fun h x hx => if e : x = n then by rw [e]; exact h.2 else h.1 x (by omega), fun h => ⟨fun x hx => h x (by omega), h n (by omega)⟩⟩
theorem cb_ex_iff (P : Nat → Bool) (n : Nat) : cb_ex P n = true ↔ ∃ x, x < n ∧ P x = true := by
  induction n with
  | zero => exact ⟨fun h => Bool.noConfusion h, fun ⟨x, hx, _⟩ => absurd hx (Nat.not_lt_zero _)⟩
  | succ n ih =>
    show (cb_ex P n || P n) = true ↔ _
    rw [Bool.or_eq_true, ih]
    constructor
    · rintro (⟨x, a, b⟩ | h)
      · exact ⟨x, by omega, b⟩
      · exact ⟨n, by omega, h⟩
    · rintro ⟨x, a, b⟩
      by_cases e : x = n
      · exact Or.inr (e ▸ b)
      · exact Or.inl ⟨x, by omega, b⟩
/-! digits and answers -/
def cb_dg (D x i : Nat) : Nat := x / D ^ i % D
def cb_tm (L D x d : Nat) : Nat := cb_cn (fun i => cb_dg D x i == d) L
def cb_sm (D g s : Nat) (n : Nat) : Nat := cb_cn (fun i => cb_dg D g i == cb_dg D s i) n
def cb_mi (L D g s : Nat) : Nat → Nat
  | 0 => 0
  | d + 1 => cb_mi L D g s d + (if cb_tm L D s d ≤ cb_tm L D g d then cb_tm L D s d else cb_tm L D g d)
def cb_an (L D g s : Nat) : Nat := 10 * cb_sm D g s L + cb_mi L D g s D - cb_sm D g s L
def cb_ck (L D : Nat) : Bool := cb_al (fun g => cb_al (fun s => decide (cb_an L D g s < 45) && ((cb_an L D g s == 10 * L) == (g == s))) (D ^ L)) (D ^ L)
theorem cb_ck_1 : cb_al (fun l => cb_al (fun d => cb_ck (l + 1) (d + 1)) 2) 4 = true := by decide +kernel
theorem cb_ck_2 : cb_al (fun l => cb_ck (l + 1) 3) 3 = true := by decide +kernel
theorem cb_ck_3 : cb_ck 4 3 = true := by decide +kernel
theorem cb_ck_all {L D : Nat} (hL : 1 ≤ L) (hL4 : L ≤ 4) (hD : 1 ≤ D) (hD3 : D ≤ 3) : cb_ck L D = true := by
  by_cases h3 : D = 3
  · subst h3
    by_cases h4 : L = 4
    · subst h4; exact cb_ck_3
    · have h := (cb_al_iff _ _).mp cb_ck_2 (L - 1) (by omega)
      rw [show L - 1 + 1 = L from by omega] at h
      exact h
  · have h := (cb_al_iff _ _).mp ((cb_al_iff _ _).mp cb_ck_1 (L - 1) (by omega)) (D - 1) (by omega)
    rw [show L - 1 + 1 = L from by omega, show D - 1 + 1 = D from by omega] at h
    exact h
theorem cb_an_ck {L D : Nat} (hL : 1 ≤ L) (hL4 : L ≤ 4) (hD : 1 ≤ D) (hD3 : D ≤ 3) {g s : Nat} (hg : g < D ^ L) (hs : s < D ^ L) : cb_an L D g s < 45 ∧ (cb_an L D g s = 10 * L ↔ g = s) := by
  have h := (cb_al_iff _ _).mp ((cb_al_iff _ _).mp (cb_ck_all hL hL4 hD hD3) g hg) s hs
  rw [Bool.and_eq_true] at h
  refine ⟨of_decide_eq_true h.1, ?_⟩
  have h2 := eq_of_beq h.2
  rw [← beq_iff_eq (a := g), ← h2, beq_iff_eq]
theorem cb_pw {L D : Nat} (hL4 : L ≤ 4) (hD : 1 ≤ D) (hD3 : D ≤ 3) : 1 ≤ D ^ L ∧ D ^ L ≤ 81 := by
  have h : ∀ l, l < 5 → ∀ d, d < 3 → 1 ≤ (d + 1) ^ l ∧ (d + 1) ^ l ≤ 81 := by decide +kernel
  have h2 := h L (by omega) (D - 1) (by omega)
  rw [show D - 1 + 1 = D from by omega] at h2
  exact h2
theorem cb_rev {L : Nat} (hL4 : L ≤ 4) (f : Nat → Bool) : cb_cn (fun p => f (L - 1 - p)) L = cb_cn f L := by
  have h : L = 0 ∨ L = 1 ∨ L = 2 ∨ L = 3 ∨ L = 4 := by omega
  rcases h with rfl | rfl | rfl | rfl | rfl
  · rfl
  · rfl
  · by_cases h0 : f 0 = true <;> by_cases h1 : f 1 = true <;> simp [cb_cn, h0, h1]
  · by_cases h0 : f 0 = true <;> by_cases h1 : f 1 = true <;> by_cases h2 : f 2 = true <;> simp [cb_cn, h0, h1, h2]
  · by_cases h0 : f 0 = true <;> by_cases h1 : f 1 = true <;> by_cases h2 : f 2 = true <;> by_cases h3 : f 3 = true <;> simp [cb_cn, h0, h1, h2, h3]
end
section
/-! sets of naturals below 8, as numbers -/
theorem cb_btN (n : Nat) {i : Nat} (hi : i < 32) : bt (nI n) i = n.testBit i := by
  show (BitVec.ofNat 32 n).getLsbD i = n.testBit i
  rw [BitVec.getLsbD_ofNat]
  simp [hi]
theorem cb_or (a b : Nat) : nI a ||| nI b = nI (a ||| b) := by
  apply b_ext
  intro i hi
  rw [b_or, cb_btN _ hi, cb_btN _ hi, cb_btN _ hi, Nat.testBit_or]
theorem cb_anN (a b : Nat) : nI a &&& (nI b ^^^ (-1)) = nI (a ^^^ (a &&& b)) := by
  apply b_ext
  intro i hi
  rw [b_and, b_xor, b_m1 i hi, cb_btN _ hi, cb_btN _ hi, cb_btN _ hi, Nat.testBit_xor, Nat.testBit_and]
  cases a.testBit i <;> cases b.testBit i <;> rfl
theorem cb_shl {k : Nat} (hk : k < 31) : (1 : Int32) <<< (nI k &&& 31) = nI (2 ^ k) := by
  have h := pk_shlN (n := 1) (nI k &&& 31) k (s_l k (by omega)) (by
    have : 2 ^ k < 2 ^ 32 := Nat.pow_lt_pow_right (by decide) (by omega)
    omega)
  rw [Nat.one_mul] at h
  exact h
theorem cb_bit {s k : Nat} (hs : s < 256) (hk : k < 31) : (nI s >>> (nI k &&& 31)) &&& 1 = nI (s / 2 ^ k % 2) := by
  rw [pk_shrN (by omega) (nI k &&& 31) k (s_l k (by omega))]
  show nI (s / 2 ^ k) &&& nI 1 = _
  rw [nx_and, Nat.and_one_is_mod]
theorem cb_bit1 {s k : Nat} (hs : s < 256) (hk : k < 31) : (nI s >>> (nI k &&& 31)) &&& 1 = 1 ↔ s.testBit k = true := by
  rw [cb_bit hs hk, Nat.testBit_eq_decide_div_mod_eq, decide_eq_true_iff]
  show nI _ = nI 1 ↔ _
  rw [nI_eq (by omega) (by omega)]
theorem cb_bit0 {s k : Nat} (hs : s < 256) (hk : k < 31) : (nI s >>> (nI k &&& 31)) &&& 1 = 0 ↔ ¬ s.testBit k = true := by
  rw [cb_bit hs hk, Nat.testBit_eq_decide_div_mod_eq, decide_eq_true_iff]
  show nI _ = nI 0 ↔ _
  rw [nI_eq (by omega) (by omega)]
  omega
/-- the set of the k below n with f k -/
def cb_mk (f : Nat → Bool) : Nat → Nat
  | 0 => 0
  | n + 1 => if f n then cb_mk f n ||| 2 ^ n else cb_mk f n
theorem cb_mk_t {f : Nat → Bool} {n : Nat} (h : f n = true) : cb_mk f (n + 1) = cb_mk f n ||| 2 ^ n := if_pos h
theorem cb_mk_f {f : Nat → Bool} {n : Nat} (h : ¬ f n = true) : cb_mk f (n + 1) = cb_mk f n := if_neg h
theorem cb_mk_bit (f : Nat → Bool) (n k : Nat) : (cb_mk f n).testBit k = (decide (k < n) && f k) := by
  induction n with
  | zero => simp [cb_mk]
  | succ n ih =>
    by_cases h : f n = true
    · rw [cb_mk_t h, Nat.testBit_or, ih, Nat.testBit_two_pow]
      by_cases e : n = k
      · subst e; simp [h]
      · have : decide (k < n) = decide (k < n + 1) := decide_eq_decide.mpr (by omega)
        simp [e, this]
    · rw [cb_mk_f h, ih]
      by_cases e : n = k
      · subst e
        have h' : f n = false := Bool.eq_false_iff.mpr h
        rw [h', Bool.and_false, Bool.and_false]
      · have : decide (k < n) = decide (k < n + 1) := decide_eq_decide.mpr (by omega)
        rw [this]
theorem cb_mk_lt (f : Nat → Bool) (n : Nat) : cb_mk f n < 2 ^ n := by
  apply Nat.lt_pow_two_of_testBit
  intro i hi
  rw [cb_mk_bit, decide_eq_false (by omega), Bool.false_and]
theorem cb_bit_lt {s M k : Nat} (hs : s < 2 ^ M) (h : s.testBit k = true) : k < M := by
  rcases Nat.lt_or_ge k M with h1 | h1
  · exact h1
  · rw [Nat.testBit_lt_two_pow (Nat.lt_of_lt_of_le hs (Nat.pow_le_pow_right (by decide) h1))] at h
    exact absurd h (by decide)
theorem cb_p8 {M : Nat} (h : M ≤ 8) : 2 ^ M ≤ 256 := Nat.pow_le_pow_right (n := 2) (by decide) h
theorem cb_full {M k : Nat} : (2 ^ M - 1).testBit k = decide (k < M) := Nat.testBit_two_pow_sub_one M k
theorem cb_nz {s M : Nat} (hs : s < 2 ^ M) (h : s ≠ 0) : ∃ k, k < M ∧ s.testBit k = true := by
  obtain ⟨k, hk⟩ := Nat.exists_testBit_of_ne_zero h
  exact ⟨k, cb_bit_lt hs hk, hk⟩
end
section
theorem cb_zz : True := trivial
end
