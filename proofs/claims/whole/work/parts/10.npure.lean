/-! needs of sets of possible codes: the mathematics -/
def cb_cl (L D : Nat) (K : Nat → Nat) (M g a : Nat) : Nat := cb_mk (fun j => cb_an L D g (K j) == a) M
def cb_rm (L D : Nat) (K : Nat → Nat) (M g k : Nat) : Nat := if g = K k then 0 else cb_cl L D K M g (cb_an L D g (K k))
def cb_nm (f : Nat → Nat) (s : Nat) : Nat → Nat
  | 0 => 0
  | n + 1 => if s.testBit n = true then (if f n ≤ cb_nm f s n then cb_nm f s n else f n) else cb_nm f s n
theorem cb_nm_le {f : Nat → Nat} {s v : Nat} (n : Nat) : cb_nm f s n ≤ v ↔ ∀ k, k < n → s.testBit k = true → f k ≤ v := by
  induction n with
  | zero => exact ⟨fun _ k hk => absurd hk (Nat.not_lt_zero _), fun _ => Nat.zero_le _⟩
  | succ n ih =>
    have st : (∀ k, k < n + 1 → s.testBit k = true → f k ≤ v) ↔ (cb_nm f s n ≤ v ∧ (s.testBit n = true → f n ≤ v)) := by
      rw [ih]
      constructor
      · intro h
        exact ⟨fun k hk => h k (by omega), h n (by omega)⟩
      · intro h k hk hb
        by_cases e : k = n
        · subst e; exact h.2 hb
        · exact h.1 k (by omega) hb
    rw [st]
    by_cases hb : s.testBit n = true
    · by_cases hf : f n ≤ cb_nm f s n
      · have e : cb_nm f s (n + 1) = cb_nm f s n := (if_pos hb).trans (if_pos hf)
        rw [e]
        exact ⟨fun h => ⟨h, fun _ => Nat.le_trans hf h⟩, fun h => h.1⟩
      · have e : cb_nm f s (n + 1) = f n := (if_pos hb).trans (if_neg hf)
        rw [e]
        exact ⟨fun h => ⟨by omega, fun _ => h⟩, fun h => h.2 hb⟩
    · have e : cb_nm f s (n + 1) = cb_nm f s n := if_neg hb
      rw [e]
      exact ⟨fun h => ⟨h, fun z => absurd z hb⟩, fun h => h.1⟩
theorem cb_nm_cg {f f' : Nat → Nat} {s n : Nat} (h : ∀ k, k < n → f k = f' k) : cb_nm f s n = cb_nm f' s n := by
  induction n with
  | zero => rfl
  | succ n ih =>
    show (if _ then (if f n ≤ cb_nm f s n then cb_nm f s n else f n) else cb_nm f s n) = (if _ then (if f' n ≤ cb_nm f' s n then cb_nm f' s n else f' n) else cb_nm f' s n)
    rw [ih (fun k hk => h k (by omega)), h n (by omega)]
def cb_mn (al : Nat → Bool) (w : Nat → Nat) : Nat → Nat
  | 0 => 9
  | n + 1 => if al n = true then (if cb_mn al w n ≤ w n then cb_mn al w n else w n) else cb_mn al w n
theorem cb_mn_9 (al : Nat → Bool) (w : Nat → Nat) (n : Nat) : cb_mn al w n ≤ 9 := by
  induction n with
  | zero => exact Nat.le_refl _
  | succ n ih =>
    show (if _ then (if _ then _ else _) else _) ≤ 9
    split
    · split <;> omega
    · exact ih
theorem cb_mn_le {al : Nat → Bool} {w : Nat → Nat} {v : Nat} (n : Nat) : cb_mn al w n ≤ v ↔ 9 ≤ v ∨ ∃ g, g < n ∧ al g = true ∧ w g ≤ v := by
  induction n with
  | zero => exact ⟨fun h => Or.inl h, fun h => h.elim id (fun ⟨g, hg, _⟩ => absurd hg (Nat.not_lt_zero _))⟩
  | succ n ih =>
    have st : (9 ≤ v ∨ ∃ g, g < n + 1 ∧ al g = true ∧ w g ≤ v) ↔ (cb_mn al w n ≤ v ∨ (al n = true ∧ w n ≤ v)) := by
      rw [ih]
      constructor
      · rintro (h | ⟨g, a, b, c⟩)
        · exact Or.inl (Or.inl h)
        · by_cases e : g = n
          · subst e; exact Or.inr ⟨b, c⟩
          · exact Or.inl (Or.inr ⟨g, by omega, b, c⟩)
      · rintro ((h | ⟨g, a, b, c⟩) | ⟨b, c⟩)
        · exact Or.inl h
        · exact Or.inr ⟨g, by omega, b, c⟩
        · exact Or.inr ⟨n, by omega, b, c⟩
    rw [st]
    by_cases hb : al n = true
    · by_cases hf : cb_mn al w n ≤ w n
      · have e : cb_mn al w (n + 1) = cb_mn al w n := (if_pos hb).trans (if_pos hf)
        rw [e]
        exact ⟨fun h => Or.inl h, fun h => h.elim id (fun z => Nat.le_trans hf z.2)⟩
      · have e : cb_mn al w (n + 1) = w n := (if_pos hb).trans (if_neg hf)
        rw [e]
        exact ⟨fun h => Or.inr ⟨hb, h⟩, fun h => h.elim (fun z => by omega) (fun z => z.2)⟩
    · have e : cb_mn al w (n + 1) = cb_mn al w n := if_neg hb
      rw [e]
      exact ⟨fun h => Or.inl h, fun h => h.elim id (fun z => absurd z.1 hb)⟩
theorem cb_mn_cg {al : Nat → Bool} {w w' : Nat → Nat} (h : ∀ g, w g = w' g) (n : Nat) : cb_mn al w n = cb_mn al w' n := by
  have : w = w' := funext h
  rw [this]
/-- may g be guessed with the set s (kept: it must be in it) -/
def cb_ok (K : Nat → Nat) (M : Nat) (kb : Bool) (s g : Nat) : Bool := !kb || cb_ex (fun k => s.testBit k && (K k == g)) M
theorem cb_ok_of {K : Nat → Nat} {M : Nat} {kb : Bool} {s g : Nat} (k : Nat) (hk : k < M) (hb : s.testBit k = true) (e : K k = g) : cb_ok K M kb s g = true := by
  unfold cb_ok
  rw [(cb_ex_iff _ _).mpr ⟨k, hk, by simp [hb, e]⟩, Bool.or_true]
def cb_W (L D : Nat) (K : Nat → Nat) (M : Nat) (V : Nat → Nat) (g s : Nat) : Nat := cb_nm (fun k => V (cb_rm L D K M g k &&& s)) s M + 1
/-- the table of needs when the sets below the argument are done -/
def cb_tb (L D C : Nat) (K : Nat → Nat) (M : Nat) (kb : Bool) : Nat → Nat → Nat
  | 0 => fun _ => 0
  | s + 1 => fun t => if t = s then (if s = 0 then 0 else cb_mn (cb_ok K M kb s) (fun g => cb_W L D K M (fun t => if t = s then 9 else cb_tb L D C K M kb s t) g s) C) else cb_tb L D C K M kb s t
def cb_V (L D C : Nat) (K : Nat → Nat) (M : Nat) (kb : Bool) (t : Nat) : Nat := cb_tb L D C K M kb (t + 1) t
section
variable {L D C M : Nat} {K : Nat → Nat} {kb : Bool}
theorem cb_tb_V : ∀ s t, t < s → cb_tb L D C K M kb s t = cb_V L D C K M kb t := by
  intro s
  induction s with
  | zero => intro t ht; exact absurd ht (Nat.not_lt_zero _)
  | succ s ih =>
    intro t ht
    by_cases e : t = s
    · subst e; rfl
    · have e1 : cb_tb L D C K M kb (s + 1) t = cb_tb L D C K M kb s t := if_neg e
      rw [e1]
      exact ih t (by omega)
theorem cb_tb_9 : ∀ s t, cb_tb L D C K M kb s t ≤ 9 := by
  intro s
  induction s with
  | zero => intro t; exact Nat.zero_le _
  | succ s ih =>
    intro t
    show (if _ then (if _ then _ else _) else _) ≤ 9
    split
    · split
      · omega
      · exact cb_mn_9 _ _ _
    · exact ih t
theorem cb_V_0 : cb_V L D C K M kb 0 = 0 := rfl
theorem cb_V_s {s : Nat} (hs : s ≠ 0) : cb_V L D C K M kb s = cb_mn (cb_ok K M kb s) (fun g => cb_W L D K M (fun t => if t = s then 9 else cb_V L D C K M kb t) g s) C := by
  have e1 : cb_V L D C K M kb s = cb_mn (cb_ok K M kb s) (fun g => cb_W L D K M (fun t => if t = s then 9 else cb_tb L D C K M kb s t) g s) C := (if_pos rfl).trans (if_neg hs)
  rw [e1]
  apply cb_mn_cg
  intro g
  unfold cb_W
  congr 1
  apply cb_nm_cg
  intro k hk
  have hle : cb_rm L D K M g k &&& s ≤ s := Nat.and_le_right
  by_cases e : cb_rm L D K M g k &&& s = s
  · simp only [e, if_true]
  · simp only [e, if_false]
    exact cb_tb_V s _ (by omega)
theorem cb_V_le {s n : Nat} (hs : s ≠ 0) (hn : n < 8) : cb_V L D C K M kb s ≤ n + 1 ↔ ∃ g, g < C ∧ cb_ok K M kb s g = true ∧ ∀ k, k < M → s.testBit k = true → (if cb_rm L D K M g k &&& s = s then 9 else cb_V L D C K M kb (cb_rm L D K M g k &&& s)) ≤ n := by
  rw [cb_V_s hs, cb_mn_le]
  constructor
  · rintro (h | ⟨g, a, b, c⟩)
    · omega
    · exact ⟨g, a, b, (cb_nm_le M).mp (by dsimp only [cb_W] at c; omega)⟩
  · rintro ⟨g, a, b, c⟩
    have := (cb_nm_le (f := fun k => if cb_rm L D K M g k &&& s = s then 9 else cb_V L D C K M kb (cb_rm L D K M g k &&& s)) M).mpr c
    exact Or.inr ⟨g, a, b, by dsimp only [cb_W]; omega⟩
theorem cb_V_pos {s : Nat} (hs : s ≠ 0) : 1 ≤ cb_V L D C K M kb s := by
  refine Classical.byContradiction (fun hc => ?_)
  have h : cb_V L D C K M kb s ≤ 0 := by omega
  rw [cb_V_s hs, cb_mn_le] at h
  rcases h with h | ⟨g, a, b, c⟩
  · omega
  · unfold cb_W at c
    omega
/-- the codes K 0 .. K (M - 1) are codes, one each -/
def cb_Kg (C M : Nat) (K : Nat → Nat) : Prop := (∀ k, k < M → K k < C) ∧ ∀ k j, k < M → j < M → K k = K j → k = j
theorem cb_V_cd (hz : cb_Sz L D C) (hK : cb_Kg C M K) (hM : M ≤ 8) : ∀ s, s < 2 ^ M → cb_V L D C K M kb s ≤ cb_cn (fun k => s.testBit k) M := by
  intro s
  induction s using Nat.strongRecOn with
  | _ s ih =>
    intro hs
    by_cases h0 : s = 0
    · subst h0; rw [cb_V_0]; exact Nat.zero_le _
    · obtain ⟨k0, hk0, hb0⟩ := cb_nz hs h0
      have hc8 := cb_cn_le (fun k => s.testBit k) M
      have hcp : 1 ≤ cb_cn (fun k => s.testBit k) M := by
        have := cb_cn_lt (fun k => s.testBit k) hk0 hb0
        omega
      obtain ⟨n, en⟩ : ∃ n, cb_cn (fun k => s.testBit k) M = n + 1 := ⟨cb_cn (fun k => s.testBit k) M - 1, by omega⟩
      rw [en]
      refine (cb_V_le h0 (by omega)).mpr ⟨K k0, hK.1 k0 hk0, cb_ok_of k0 hk0 hb0 rfl, fun k hk hb => ?_⟩
      by_cases e : K k0 = K k
      · have er : cb_rm L D K M (K k0) k = 0 := if_pos e
        rw [er, Nat.zero_and, if_neg (fun z => h0 z.symm), cb_V_0]
        exact Nat.zero_le _
      · have er : cb_rm L D K M (K k0) k = cb_cl L D K M (K k0) (cb_an L D (K k0) (K k)) := if_neg e
        rw [er]
        have hne : ¬ cb_an L D (K k0) (K k0) = cb_an L D (K k0) (K k) := by
          intro z
          have z1 := (cb_an10 hz (hK.1 k0 hk0) (hK.1 k0 hk0)).mpr rfl
          exact e ((cb_an10 hz (hK.1 k0 hk0) (hK.1 k hk)).mp (by rw [← z]; exact z1))
        have hb1 : ¬ (cb_cl L D K M (K k0) (cb_an L D (K k0) (K k)) &&& s).testBit k0 = true := by
          rw [Nat.testBit_and]
          unfold cb_cl
          rw [cb_mk_bit]
          simp [hne]
        have hle : cb_cl L D K M (K k0) (cb_an L D (K k0) (K k)) &&& s ≤ s := Nat.and_le_right
        have hns : ¬ (cb_cl L D K M (K k0) (cb_an L D (K k0) (K k)) &&& s) = s := by
          intro z
          rw [z] at hb1
          exact hb1 hb0
        rw [if_neg hns]
        refine Nat.le_trans (ih _ (by omega) (by omega)) ?_
        have := cb_cn_ssub (P := fun j => (cb_cl L D K M (K k0) (cb_an L D (K k0) (K k)) &&& s).testBit j) (Q := fun j => s.testBit j) (n := M) (fun j hj hj2 => by
          simp only [Nat.testBit_and, Bool.and_eq_true] at hj2
          exact hj2.2) ⟨k0, hk0, hb1, hb0⟩
        omega
theorem cb_V_8 (hz : cb_Sz L D C) (hK : cb_Kg C M K) (hM : M ≤ 8) {s : Nat} (hs : s < 2 ^ M) : cb_V L D C K M kb s ≤ 8 :=
  Nat.le_trans (cb_V_cd hz hK hM s hs) (Nat.le_trans (cb_cn_le _ _) hM)
/-- after the guess g, with the set s, each part needs at most m guesses -/
def cb_LV (L D C : Nat) (K : Nat → Nat) (M : Nat) (kb : Bool) (m g s : Nat) : Prop := ∀ k, k < M → s.testBit k = true → g = K k ∨ cb_V L D C K M kb (cb_cl L D K M g (cb_an L D g (K k)) &&& s) ≤ m
theorem cb_LV_rm {m g s : Nat} : cb_LV L D C K M kb m g s ↔ ∀ k, k < M → s.testBit k = true → cb_V L D C K M kb (cb_rm L D K M g k &&& s) ≤ m := by
  constructor
  · intro h k hk hb
    by_cases e : g = K k
    · have er : cb_rm L D K M g k = 0 := if_pos e
      rw [er, Nat.zero_and, cb_V_0]
      exact Nat.zero_le _
    · have er : cb_rm L D K M g k = cb_cl L D K M g (cb_an L D g (K k)) := if_neg e
      rw [er]
      exact (h k hk hb).resolve_left e
  · intro h k hk hb
    by_cases e : g = K k
    · exact Or.inl e
    · have er : cb_rm L D K M g k = cb_cl L D K M g (cb_an L D g (K k)) := if_neg e
      have := h k hk hb
      rw [er] at this
      exact Or.inr this
/-- with m + 1 guesses s can be done, if it can't be with m -/
theorem cb_V_done {m s : Nat} (hs : s ≠ 0) (hm : m < 8) (hn : ¬ cb_V L D C K M kb s ≤ m) : cb_V L D C K M kb s ≤ m + 1 ↔ ∃ g, g < C ∧ cb_ok K M kb s g = true ∧ cb_LV L D C K M kb m g s := by
  rw [cb_V_le hs hm]
  constructor
  · rintro ⟨g, a, b, c⟩
    refine ⟨g, a, b, cb_LV_rm.mpr (fun k hk hb => ?_)⟩
    have := c k hk hb
    split at this
    · omega
    · exact this
  · rintro ⟨g, a, b, c⟩
    refine ⟨g, a, b, fun k hk hb => ?_⟩
    have := cb_LV_rm.mp c k hk hb
    split
    · rename_i e
      rw [e] at this
      exact absurd this hn
    · exact this
/-- the guesses that the needs of s begin with -/
theorem cb_V_first {s v g : Nat} (hs : s ≠ 0) (hv : cb_V L D C K M kb s = v + 1) (hv8 : v < 8) (hg : g < C) (hok : cb_ok K M kb s g = true) : cb_W L D K M (cb_V L D C K M kb) g s = v + 1 ↔ cb_LV L D C K M kb v g s := by
  rw [cb_LV_rm, ← cb_nm_le (f := fun k => cb_V L D C K M kb (cb_rm L D K M g k &&& s)) M]
  unfold cb_W
  constructor
  · intro h; omega
  · intro h
    have : ¬ cb_nm (fun k => cb_V L D C K M kb (cb_rm L D K M g k &&& s)) s M + 1 ≤ v := by
      intro z
      obtain ⟨w, rfl⟩ : ∃ w, v = w + 1 := ⟨v - 1, by omega⟩
      have z2 := (cb_nm_le (f := fun k => cb_V L D C K M kb (cb_rm L D K M g k &&& s)) (s := s) M).mp (show _ ≤ w by omega)
      have : cb_V L D C K M kb s ≤ w + 1 := (cb_V_le hs (by omega)).mpr ⟨g, hg, hok, fun k hk hb => by
        have := z2 k hk hb
        split
        · rename_i e
          simp only [e] at this
          omega
        · exact this⟩
      omega
    omega
theorem cb_V_ex {s v : Nat} (hs : s ≠ 0) (hv : cb_V L D C K M kb s = v + 1) (hv8 : v < 8) : ∃ g, g < C ∧ cb_ok K M kb s g = true ∧ cb_LV L D C K M kb v g s :=
  (cb_V_done hs hv8 (by omega)).mp (by omega)
end
