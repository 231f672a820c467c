/-! the best guess -/
def cb_ky (sf : Nat → Nat) (P : Nat → Bool) (g : Nat) : Nat := 2 * sf g + (if P g = true then 0 else 1)
def cb_bs (key : Nat → Nat) : Nat → Nat
  | 0 => 0
  | n + 1 => if key n < key (cb_bs key n) then n else cb_bs key n
theorem cb_bs_lt (key : Nat → Nat) (n : Nat) : cb_bs key (n + 1) < n + 1 := by
  induction n with
  | zero =>
    show (if _ then _ else _) < 1
    split
    · omega
    · exact Nat.lt_succ_self 0
  | succ n ih =>
    show (if _ then _ else _) < _
    split
    · exact Nat.lt_succ_self _
    · exact Nat.lt_succ_of_lt ih
theorem cb_ky_lt {sf : Nat → Nat} {P : Nat → Bool} {g b : Nat} : cb_ky sf P g < cb_ky sf P b ↔ (sf g < sf b ∨ (sf g = sf b ∧ P g = true ∧ ¬ P b = true)) := by
  unfold cb_ky
  by_cases h1 : P g = true <;> by_cases h2 : P b = true <;> simp only [h1, h2, if_true, if_false] <;> simp <;> omega
section
variable {fl fd fc ft fp : Int32} {da ta tg tA pc ip ps re sc ns : Nat → Int32}
theorem cb_xb18 {L D C : Nat} {P : Nat → Bool} {sf : Nat → Nat} {x1 : Int32} {post : Int32 → SX → Prop} (hz : cb_Sz L D C) (hi : cb_Po C P pc ip) (hb : ∀ g, sf g < 1000000) (hsf : ∀ g ps (q : Int32 → SX → Prop), g < C → (∀ ps, q (nI (sf g)) (nI L, nI D, nI C, ft, nI (cb_cn P C), da, ta, tg, tA, pc, ip, ps, re, sc, ns)) → (x1 = 0 → wpX_greatestPart q (nI L, nI D, nI C, ft, nI (cb_cn P C), da, ta, tg, tA, pc, ip, ps, re, sc, ns) (nI g)) ∧ (¬ x1 = 0 → wpX_sumOfSquares q (nI L, nI D, nI C, ft, nI (cb_cn P C), da, ta, tg, tA, pc, ip, ps, re, sc, ns) (nI g))) (hp : ∀ ps, post (nI (cb_bs (cb_ky sf P) C)) (nI L, nI D, nI C, ft, nI (cb_cn P C), da, ta, tg, tA, pc, ip, ps, re, sc, ns)) : ∀ d g x2 x3 ps, g + d = C → ((g = 0 ∧ x2 = -3) ∨ (1 ≤ g ∧ x2 = nI (cb_bs (cb_ky sf P) g) ∧ x3 = nI (sf (cb_bs (cb_ky sf P) g)))) → wX_bestGuess_18 post x1 (d + 1) x2 x3 (nI g) (nI L) (nI D) (nI C) ft (nI (cb_cn P C)) da ta tg tA pc ip ps re sc ns := by
  obtain ⟨h1, h2, h3, h4, h5, h6, h7⟩ := hz
  intro d
  induction d with
  | zero =>
    intro g x2 x3 ps hd hv
    have e1 : g = C := by omega
    subst e1
    obtain ⟨a, _⟩ | ⟨a, b, c⟩ := hv
    · omega
    · rw [b]
      exact br_t (nI_le (Nat.le_refl _) (by omega)) (hp ps)
  | succ d ih =>
    intro g x2 x3 ps hd hv
    have hg : g < C := by omega
    have hbg := hb g
    refine br_f (nI_ge (by omega) (by omega)) (hsf g ps _ hg (fun ps => ?_))
    obtain ⟨a, b⟩ | ⟨a, b, c⟩ := hv
    · subst a
      refine br_t b (br_f (by decide) (nm_r (nI_1 _) (ih 1 _ _ ps (by omega) (Or.inr ⟨by omega, ?_, ?_⟩))))
      · have e : cb_bs (cb_ky sf P) 1 = 0 := by
          show (if _ then 0 else 0) = 0
          split <;> rfl
        rw [e]
      · have e : cb_bs (cb_ky sf P) 1 = 0 := by
          show (if _ then 0 else 0) = 0
          split <;> rfl
        rw [e]
    · have hlt : cb_bs (cb_ky sf P) g < g := by
        have := cb_bs_lt (cb_ky sf P) (g - 1)
        rw [show g - 1 + 1 = g by omega] at this
        exact this
      have ht : cb_ky sf P g < cb_ky sf P (cb_bs (cb_ky sf P) g) → cb_bs (cb_ky sf P) (g + 1) = g := fun h => if_pos h
      have hf : ¬ cb_ky sf P g < cb_ky sf P (cb_bs (cb_ky sf P) g) → cb_bs (cb_ky sf P) (g + 1) = cb_bs (cb_ky sf P) g := fun h => if_neg h
      have hih := ih (g + 1)
      have hk := cb_ky_lt (sf := sf) (P := P) (g := g) (b := cb_bs (cb_ky sf P) g)
      generalize cb_bs (cb_ky sf P) (g + 1) = b1 at hih ht hf
      generalize cb_bs (cb_ky sf P) g = b0 at b c hlt ht hf hk
      have hb0 := hb b0
      have n3 : ¬ x2 = -3 := by
        rw [b]
        have : ∀ k, k < 81 → ¬ nI k = -3 := by decide +kernel
        exact this b0 (by omega)
      have ixg : (nI g).toNatClampNeg = g := nI_clamp (by omega)
      have ixb : x2.toNatClampNeg = b0 := by rw [b]; exact nI_clamp (by omega)
      have hpg := hi.2 g hg
      have hpb := hi.2 b0 (by omega)
      have new : b1 = g → ∀ y, y = nI g + 1 → wX_bestGuess_18 post x1 (d + 1) (nI g) (nI (sf g)) y (nI L) (nI D) (nI C) ft (nI (cb_cn P C)) da ta tg tA pc ip ps re sc ns := fun e => nm_r (nI_1 _) (hih _ _ ps (by omega) (Or.inr ⟨by omega, by rw [e], by rw [e]⟩))
      have old : b1 = b0 → ∀ y, y = nI g + 1 → wX_bestGuess_18 post x1 (d + 1) x2 x3 y (nI L) (nI D) (nI C) ft (nI (cb_cn P C)) da ta tg tA pc ip ps re sc ns := fun e => nm_r (nI_1 _) (hih _ _ ps (by omega) (Or.inr ⟨by omega, by rw [e, b], by rw [e, c]⟩))
      refine br_f n3 (br_t rfl (pk_lt (sf g) (sf b0) (fun h => new (ht (hk.mpr (Or.inl h)))) (fun h => pk_eq (sf g) (sf b0) (fun h' => ⟨pk_in g 81 (by omega), ?_⟩) (fun h' => old (hf (fun z => by rcases hk.mp z with w | w <;> omega))) rfl c) rfl c))
      rw [ixg, hpg]
      by_cases p1 : P g = true
      · rw [if_pos p1]
        refine br_f (by decide) ⟨pk_in b0 81 (by omega) b, ?_⟩
        rw [ixb, hpb]
        by_cases p2 : P b0 = true
        · rw [if_pos p2]
          refine br_f (by decide) (old (hf (fun z => ?_)))
          rcases hk.mp z with w | w
          · omega
          · exact w.2.2 p2
        · rw [if_neg p2]
          exact br_t rfl (new (ht (hk.mpr (Or.inr ⟨h', p1, p2⟩))))
      · rw [if_neg p1]
        refine br_t rfl (old (hf (fun z => ?_)))
        rcases hk.mp z with w | w
        · omega
        · exact p1 w.2.1
end
section
variable {yl yd yc yr yf : Int32} {yg ya yw ye yz yt : Nat → Int32}
theorem cb_yb18 {L D C T : Nat} {P : Nat → Bool} {sf : Nat → Nat} {x1 : Int32} {post : Int32 → SY → Prop} (hz : cb_Sz L D C) (hy : cb_Sy L D C yt) (ht0 : cb_To C T yg) (hP : P = cb_ft L D T yg ya (-1)) (hb : ∀ g, sf g < 1000000) (hsf : ∀ g yz (q : Int32 → SY → Prop), g < C → (∀ yz, q (nI (sf g)) (yl, yd, nI C, nI T, yf, yg, ya, yw, ye, yz, yt)) → (x1 = 0 → wpY_weightOf q (yl, yd, nI C, nI T, yf, yg, ya, yw, ye, yz, yt) (nI g)) ∧ (¬ x1 = 0 → wpY_worstOf q (yl, yd, nI C, nI T, yf, yg, ya, yw, ye, yz, yt) (nI g))) (hp : ∀ yz, post (nI (cb_bs (cb_ky sf P) C)) (yl, yd, nI C, nI T, yf, yg, ya, yw, ye, yz, yt)) : ∀ d g x2 x3 yz, g + d = C → ((g = 0 ∧ x2 = -1) ∨ (1 ≤ g ∧ x2 = nI (cb_bs (cb_ky sf P) g) ∧ x3 = nI (cb_ky sf P (cb_bs (cb_ky sf P) g)))) → wY_best_18 post x1 (d + 1) x2 x3 (nI g) yl yd (nI C) (nI T) yf yg ya yw ye yz yt := by
  have hz' := hz
  obtain ⟨h1, h2, h3, h4, h5, h6, h7⟩ := hz
  intro d
  induction d with
  | zero =>
    intro g x2 x3 yz hd hv
    have e1 : g = C := by omega
    subst e1
    obtain ⟨a, _⟩ | ⟨a, b, c⟩ := hv
    · omega
    · rw [b]
      exact br_t (nI_le (Nat.le_refl _) (by omega)) (hp yz)
  | succ d ih =>
    intro g x2 x3 yz hd hv
    have hg : g < C := by omega
    have hbg := hb g
    have hkb : ∀ g, cb_ky sf P g < 3000000 := by
      intro g
      have := hb g
      unfold cb_ky
      split <;> omega
    refine br_f (nI_ge (by omega) (by omega)) (hsf g yz _ hg (fun yz => cb_yag hz' hy ht0 hg ?_))
    rw [← hP]
    have key : ∀ z : Int32, (2 : Int32) * nI (sf g) + z = nI (cb_ky sf P g) → wY_best_63 post (wY_best_18 post x1 (d + 1)) x1 x2 x3 (nI g) z (2 * nI (sf g)) yl yd (nI C) (nI T) yf yg ya yw ye yz yt := by
      intro z ez
      refine nm_r ez ?_
      obtain ⟨a, b⟩ | ⟨a, b, c⟩ := hv
      · subst a
        refine br_t (by rw [b]; decide) (nm_r (nI_1 _) (ih 1 _ _ yz (by omega) (Or.inr ⟨by omega, ?_, ?_⟩)))
        · have e : cb_bs (cb_ky sf P) 1 = 0 := by
            show (if _ then 0 else 0) = 0
            split <;> rfl
          rw [e]
        · have e : cb_bs (cb_ky sf P) 1 = 0 := by
            show (if _ then 0 else 0) = 0
            split <;> rfl
          rw [e]
      · have hlt : cb_bs (cb_ky sf P) g < g := by
          have := cb_bs_lt (cb_ky sf P) (g - 1)
          rw [show g - 1 + 1 = g by omega] at this
          exact this
        have k1 := hkb g
        have k2 := hkb (cb_bs (cb_ky sf P) g)
        refine br_f (by rw [b]; exact nI_pos (by omega)) (pk_le (cb_ky sf P (cb_bs (cb_ky sf P) g)) (cb_ky sf P g) (fun h => nm_r (nI_1 _) (ih (g + 1) _ _ yz (by omega) (Or.inr ⟨by omega, ?_, ?_⟩))) (fun h => nm_r (nI_1 _) (ih (g + 1) _ _ yz (by omega) (Or.inr ⟨by omega, ?_, ?_⟩))) c rfl)
        · rw [show cb_bs (cb_ky sf P) (g + 1) = cb_bs (cb_ky sf P) g from if_neg (by omega)]; exact b
        · rw [show cb_bs (cb_ky sf P) (g + 1) = cb_bs (cb_ky sf P) g from if_neg (by omega)]; exact c
        · rw [show cb_bs (cb_ky sf P) (g + 1) = g from if_pos h]
        · rw [show cb_bs (cb_ky sf P) (g + 1) = g from if_pos h]
    by_cases hq : P g = true
    · rw [if_pos hq]
      refine br_f (by decide) (key 0 ?_)
      show nI 2 * nI (sf g) + nI 0 = _
      rw [pk_mul, nI_add]
      unfold cb_ky
      rw [if_pos hq]
    · rw [if_neg hq]
      refine br_t rfl (key 1 ?_)
      show nI 2 * nI (sf g) + nI 1 = _
      rw [pk_mul, nI_add]
      unfold cb_ky
      rw [if_neg hq]
end
