/-! sets of naturals below 8, as numbers -/
theorem cb_btN (n : Nat) {i : Nat} (hi : i < 32) : bt (nI n) i = n.testBit i := by
  show (BitVec.ofNat 32 n).getLsbD i = n.testBit i
  rw [BitVec.getLsbD_ofNat]
  simp [hi]
theorem cb_or (a b : Nat) : nI a ||| nI b = nI (a ||| b) := by
  apply b_ext
  intro i hi
  rw [b_or, cb_btN _ hi, cb_btN _ hi, cb_btN _ hi, Nat.testBit_or]
theorem cb_anN (a b : Nat) : nI a &&& (nI b ^^^ (-1)) = nI (a ^^^ (a &&& b)) := by
  apply b_ext
  intro i hi
  rw [b_and, b_xor, b_m1 i hi, cb_btN _ hi, cb_btN _ hi, cb_btN _ hi, Nat.testBit_xor, Nat.testBit_and]
  cases a.testBit i <;> cases b.testBit i <;> rfl
theorem cb_shl {k : Nat} (hk : k < 31) : (1 : Int32) <<< (nI k &&& 31) = nI (2 ^ k) := by
  have h := pk_shlN (n := 1) (nI k &&& 31) k (s_l k (by omega)) (by
    have : 2 ^ k < 2 ^ 32 := Nat.pow_lt_pow_right (by decide) (by omega)
    omega)
  rw [Nat.one_mul] at h
  exact h
theorem cb_bit {s k : Nat} (hs : s < 256) (hk : k < 31) : (nI s >>> (nI k &&& 31)) &&& 1 = nI (s / 2 ^ k % 2) := by
  rw [pk_shrN (by omega) (nI k &&& 31) k (s_l k (by omega))]
  show nI (s / 2 ^ k) &&& nI 1 = _
  rw [nx_and, Nat.and_one_is_mod]
theorem cb_bit1 {s k : Nat} (hs : s < 256) (hk : k < 31) : (nI s >>> (nI k &&& 31)) &&& 1 = 1 ↔ s.testBit k = true := by
  rw [cb_bit hs hk, Nat.testBit_eq_decide_div_mod_eq, decide_eq_true_iff]
  show nI _ = nI 1 ↔ _
  rw [nI_eq (by omega) (by omega)]
theorem cb_bit0 {s k : Nat} (hs : s < 256) (hk : k < 31) : (nI s >>> (nI k &&& 31)) &&& 1 = 0 ↔ ¬ s.testBit k = true := by
  rw [cb_bit hs hk, Nat.testBit_eq_decide_div_mod_eq, decide_eq_true_iff]
  show nI _ = nI 0 ↔ _
  rw [nI_eq (by omega) (by omega)]
  omega
/-- the set of the k below n with f k -/
def cb_mk (f : Nat → Bool) : Nat → Nat
  | 0 => 0
  | n + 1 => if f n then cb_mk f n ||| 2 ^ n else cb_mk f n
theorem cb_mk_t {f : Nat → Bool} {n : Nat} (h : f n = true) : cb_mk f (n + 1) = cb_mk f n ||| 2 ^ n := if_pos h
theorem cb_mk_f {f : Nat → Bool} {n : Nat} (h : ¬ f n = true) : cb_mk f (n + 1) = cb_mk f n := if_neg h
theorem cb_mk_bit (f : Nat → Bool) (n k : Nat) : (cb_mk f n).testBit k = (decide (k < n) && f k) := by
  induction n with
  | zero => simp [cb_mk]
  | succ n ih =>
    by_cases h : f n = true
    · rw [cb_mk_t h, Nat.testBit_or, ih, Nat.testBit_two_pow]
      by_cases e : n = k
      · subst e; simp [h]
      · have : decide (k < n) = decide (k < n + 1) := decide_eq_decide.mpr (by omega)
        simp [e, this]
    · rw [cb_mk_f h, ih]
      by_cases e : n = k
      · subst e
        have h' : f n = false := Bool.eq_false_iff.mpr h
        rw [h', Bool.and_false, Bool.and_false]
      · have : decide (k < n) = decide (k < n + 1) := decide_eq_decide.mpr (by omega)
        rw [this]
theorem cb_mk_lt (f : Nat → Bool) (n : Nat) : cb_mk f n < 2 ^ n := by
  apply Nat.lt_pow_two_of_testBit
  intro i hi
  rw [cb_mk_bit, decide_eq_false (by omega), Bool.false_and]
theorem cb_bit_lt {s M k : Nat} (hs : s < 2 ^ M) (h : s.testBit k = true) : k < M := by
  rcases Nat.lt_or_ge k M with h1 | h1
  · exact h1
  · rw [Nat.testBit_lt_two_pow (Nat.lt_of_lt_of_le hs (Nat.pow_le_pow_right (by decide) h1))] at h
    exact absurd h (by decide)
theorem cb_p8 {M : Nat} (h : M ≤ 8) : 2 ^ M ≤ 256 := Nat.pow_le_pow_right (n := 2) (by decide) h
theorem cb_full {M k : Nat} : (2 ^ M - 1).testBit k = decide (k < M) := Nat.testBit_two_pow_sub_one M k
theorem cb_nz {s M : Nat} (hs : s < 2 ^ M) (h : s ≠ 0) : ∃ k, k < M ∧ s.testBit k = true := by
  obtain ⟨k, hk⟩ := Nat.exists_testBit_of_ne_zero h
  exact ⟨k, cb_bit_lt hs hk, hk⟩
