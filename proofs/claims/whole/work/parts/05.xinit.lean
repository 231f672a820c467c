/-! the class: its making -/
abbrev cb_J10 : Type := Int32 → (Nat → Int32) → (Nat → Int32) → (Nat → Int32) → (Nat → Int32) → (Nat → Int32) → (Nat → Int32) → (Nat → Int32) → (Nat → Int32) → (Nat → Int32) → (Nat → Int32) → Prop
def cb_Wi (L D x j : Nat) (da ta : Nat → Int32) : Prop := cb_St L D x da ta ∧ (∀ i, i < j → da (x * 4 + (L - 1 - i)) = nI (cb_dg D x i)) ∧ (∀ d, d < D → ta (x * 3 + d) = nI (cb_cn (fun i => cb_dg D x i == d) j)) ∧ ∀ m, (x + 1) * 3 ≤ m → ta m = 0
def cb_Cl (p : Int32) (n l : Nat) : Prop := 1 ≤ l ∧ l ≤ n ∧ ((1 ≤ p ∧ p ≤ nI n ∧ p = nI l) ∨ (1 ≤ p ∧ ¬ p ≤ nI n ∧ l = n) ∨ (¬ 1 ≤ p ∧ l = 1))
theorem cb_Cl_ex (p : Int32) {n : Nat} (h1 : 1 ≤ n) (hn : n < 100) : ∃ l, cb_Cl p n l := by
  by_cases a : (1 : Int32) ≤ p
  · by_cases b : p ≤ nI n
    · have h0 : ¬ p < 0 := by
        intro c
        have := Int32.lt_of_lt_of_le c (Int32.le_trans (show (0 : Int32) ≤ 1 by decide) a)
        exact Int32.lt_irrefl this
      obtain ⟨j, hj, e⟩ := nI_of h0
      have a2 : nI 1 ≤ nI j := e ▸ a
      have b2 : nI j ≤ nI n := e ▸ b
      rw [nI_leI (by omega) hj] at a2
      rw [nI_leI hj (by omega)] at b2
      exact ⟨j, a2, b2, Or.inl ⟨a, b, e⟩⟩
    · exact ⟨n, h1, Nat.le_refl _, Or.inr (Or.inl ⟨a, b, rfl⟩)⟩
  · exact ⟨1, Nat.le_refl _, h1, Or.inr (Or.inr ⟨a, rfl⟩)⟩
theorem cb_xcl {p : Int32} {n l : Nat} {post : Int32 → Prop} (h : cb_Cl p n l) (hp : post (nI l)) : wpX_clamp post p (nI n) := by
  obtain ⟨_, _, ⟨a, b, e⟩ | ⟨a, b, e⟩ | ⟨a, e⟩⟩ := h
  · rw [e] at a b ⊢; exact br_t a (br_t b hp)
  · subst e; exact br_t a (br_f b hp)
  · subst e; exact br_f a hp
section
variable {fl fd fc ft fp : Int32} {da ta tg tA pc ip ps re sc ns : Nat → Int32}
theorem cb_xw19 {L D C x : Nat} {post : SX → Prop} {J2 : cb_J10} (hz : cb_Sz L D C) (hx : x < C) (hJ : ∀ da ta, cb_Wi L D x L da ta → J2 (nI (x + 1)) da ta tg tA pc ip ps re sc ns) : ∀ i j da ta, j + i = L → cb_Wi L D x j da ta → wX_writeDigits_19 post J2 (nI x) (nI L) (nI D) fc ft fp (i + 1) (nI (x / D ^ j)) (nI i + (-1)) da ta tg tA pc ip ps re sc ns := by
  obtain ⟨h1, h2, h3, h4, h5, h6, h7⟩ := hz
  intro i
  induction i with
  | zero =>
    intro j da ta hj hi
    have e1 : j = L := by omega
    subst e1
    exact br_t (by decide) (nm_r (nI_1 _) (hJ da ta hi))
  | succ i ih =>
    intro j da ta hj hi
    rw [pk_m1]
    have hd0 : ¬ nI D = 0 := nI_ne0 (by omega) (by omega)
    have hq : x / D ^ j ≤ x := Nat.div_le_self _ _
    have hdg : cb_dg D x j < D := Nat.mod_lt _ (by omega)
    obtain ⟨i1, i2, i3, i4⟩ := hi
    refine br_f (nI_pos (by omega)) ⟨hd0, nm_r (e' := nI (cb_dg D x j)) (pk_rem (by omega) (by omega) (by omega)) ⟨hd0, nm_r (e' := nI (x / D ^ (j + 1))) ?_ ⟨pk_in (x * 4 + i) 324 (by omega) (cb_i4 x i), nm_r (e' := upd da (x * 4 + i) (nI (cb_dg D x j))) ?_ ⟨pk_in (x * 3 + cb_dg D x j) 243 (by omega) (cb_i3 _ _), pk_in (x * 3 + cb_dg D x j) 243 (by omega) (cb_i3 _ _), nm_r (e' := upd ta (x * 3 + cb_dg D x j) (nI (cb_cn (fun i => cb_dg D x i == cb_dg D x j) j + 1))) ?_ (nm_e (ih (j + 1) _ _ (by omega) ?_))⟩⟩⟩⟩
    · rw [pk_div (by omega) (by omega) (by omega), Nat.div_div_eq_div_mul, Nat.pow_succ]
    · rw [cb_i4, nI_clamp (by omega)]
    · rw [cb_i3, nI_clamp (by omega), i3 _ hdg, nI_1]
    · refine ⟨⟨?_, ?_⟩, ?_, ?_, ?_⟩
      · intro y p hy hp
        rw [pk_un (by omega)]; exact i1.1 y p hy hp
      · intro y d hy hd
        rw [pk_un (by omega)]; exact i1.2 y d hy hd
      · intro k hk
        by_cases e1 : k = j
        · subst e1
          rw [show L - 1 - k = i by omega]; exact pk_us
        · rw [pk_un (by omega)]; exact i2 k (by omega)
      · intro d hd
        by_cases e1 : d = cb_dg D x j
        · subst e1
          rw [pk_us, cb_cn_t (P := fun i => cb_dg D x i == cb_dg D x j) (n := j) (by simp)]
        · rw [pk_un (by omega), cb_cn_f (P := fun i => cb_dg D x i == d) (n := j) (by simp; omega)]
          exact i3 d hd
      · intro m hm
        rw [pk_un (by omega)]; exact i4 m hm
theorem cb_xw2 {L D C : Nat} {post : SX → Prop} (hz : cb_Sz L D C) (hp : ∀ da ta, cb_St L D C da ta → post (nI L, nI D, nI C, ft, fp, da, ta, tg, tA, pc, ip, ps, re, sc, ns)) : ∀ d x da ta, x + d = C → cb_St L D x da ta → (∀ m, x * 3 ≤ m → ta m = 0) → wX_writeDigits_2 post (nI L) (nI D) (nI C) ft fp (d + 1) (nI x) da ta tg tA pc ip ps re sc ns := by
  have hz' := hz
  obtain ⟨h1, h2, h3, h4, h5, h6, h7⟩ := hz
  intro d
  induction d with
  | zero =>
    intro x da ta hx hs h0
    have e1 : x = C := by omega
    subst e1
    exact br_t (nI_le (Nat.le_refl _) (by omega)) (hp da ta hs)
  | succ d ih =>
    intro x da ta hx hs h0
    refine br_f (nI_ge (by omega) (by omega)) (nm_r (e' := nI L + (-1)) (Int32.sub_eq_add_neg _ _) ⟨L + 1, ?_⟩)
    have h := cb_xw19 (post := post) (J2 := wX_writeDigits_2 post (nI L) (nI D) (nI C) ft fp (d + 1)) (fc := nI C) (ft := ft) (fp := fp) (tg := tg) (tA := tA) (pc := pc) (ip := ip) (ps := ps) (re := re) (sc := sc) (ns := ns) hz' (show x < C by omega) (fun da ta hi => ih (x + 1) da ta (by omega) ?_ (fun m hm => hi.2.2.2 m hm)) L 0 da ta (by omega) ?_
    · rw [Nat.pow_zero, Nat.div_one] at h
      exact h
    · obtain ⟨i1, i2, i3, i4⟩ := hi
      refine ⟨?_, ?_⟩
      · intro y p hy hp2
        by_cases e1 : y = x
        · subst e1
          have := i2 (L - 1 - p) (by omega)
          rw [show L - 1 - (L - 1 - p) = p by omega] at this
          exact this
        · exact i1.1 y p (by omega) hp2
      · intro y d hy hd
        by_cases e1 : y = x
        · subst e1; exact i3 d hd
        · exact i1.2 y d (by omega) hd
    · refine ⟨hs, fun i hi => absurd hi (Nat.not_lt_zero _), ?_, ?_⟩
      · intro d hd
        exact h0 _ (by omega)
      · intro m hm
        exact h0 m (by omega)
end
theorem cb_Sz_of {k0 k1 : Int32} {L D : Nat} (h0 : cb_Cl k0 4 L) (h1 : cb_Cl k1 3 D) : cb_Sz L D (D ^ L) := by
  obtain ⟨a, b⟩ := cb_pw h0.2.1 h1.1 h1.2.1
  exact ⟨h0.1, h0.2.1, h1.1, h1.2.1, rfl, a, b⟩
theorem cb_xinit {post : SX → Prop} {k0 k1 : Int32} {L D : Nat} (h0 : cb_Cl k0 4 L) (h1 : cb_Cl k1 3 D) (hp : ∀ da ta pc ip, cb_St L D (D ^ L) da ta → cb_Po (D ^ L) (cb_ft L D 0 (fun _ => 0) (fun _ => 0) 8) pc ip → post (nI L, nI D, nI (D ^ L), nI 0, nI (cb_cn (cb_ft L D 0 (fun _ => 0) (fun _ => 0) 8) (D ^ L)), da, ta, (fun _ => 0), (fun _ => 0), pc, ip, (fun _ => 0), (fun _ => 0), (fun _ => 0), (fun _ => 0))) : wpX_init post k0 k1 := by
  have hz := cb_Sz_of h0 h1
  have hL := h0.2.1
  unfold wpX_init
  refine cb_xcl h0 (cb_xcl h1 ⟨L + 1, cb_pow (by omega) ?_ L 0 (by omega)⟩)
  refine ⟨D ^ L + 1, cb_xw2 hz (fun da ta hs => ?_) (D ^ L) 0 _ _ (by omega) ⟨fun y p hy => absurd hy (Nat.not_lt_zero _), fun y p hy => absurd hy (Nat.not_lt_zero _)⟩ (fun _ _ => rfl)⟩
  exact cb_xfp (T := 0) hz hs ⟨by omega, fun i hi => absurd hi (Nat.not_lt_zero _)⟩ rfl (fun pc ip hi => hp da ta pc ip hs hi)
