/-! the relation, and the methods but need, needKept, first -/
/-- both sides hold the same recorded guesses and answers; the class's tables say its digits, the reference's table says the answers; the class's possible codes are those that fit -/
def i_Rel (_ : Nat) (u : SX) (v : SY) : Prop := ∃ (L D C T : Nat) (P : Nat → Bool) (tg tA da ta pc ip ps re sc ns yw ye yz yt : Nat → Int32) (yf : Int32), u = (nI L, nI D, nI C, nI T, nI (cb_cn P C), da, ta, tg, tA, pc, ip, ps, re, sc, ns) ∧ v = (nI L, nI D, nI C, nI T, yf, tg, tA, yw, ye, yz, yt) ∧ cb_Sz L D C ∧ cb_St L D C da ta ∧ cb_Sy L D C yt ∧ cb_To C T tg ∧ P = cb_ft L D T tg tA 8 ∧ cb_Po C P pc ip
theorem i_up {k : Nat} {u : SX} {v : SY} (h : i_Rel k u v) : i_Rel (k + 4) u v := h
theorem cb_rel {k L D C T : Nat} {P : Nat → Bool} {tg tA da ta pc ip ps re sc ns yw ye yz yt : Nat → Int32} {yf : Int32} (hz : cb_Sz L D C) (hs : cb_St L D C da ta) (hy : cb_Sy L D C yt) (ht : cb_To C T tg) (hP : P = cb_ft L D T tg tA 8) (hi : cb_Po C P pc ip) : i_Rel k (nI L, nI D, nI C, nI T, nI (cb_cn P C), da, ta, tg, tA, pc, ip, ps, re, sc, ns) (nI L, nI D, nI C, nI T, yf, tg, tA, yw, ye, yz, yt) :=
  ⟨L, D, C, T, P, tg, tA, da, ta, pc, ip, ps, re, sc, ns, yw, ye, yz, yt, yf, rfl, rfl, hz, hs, hy, ht, hP, hi⟩
theorem i_vc0 (k0 : Int32) (k1 : Int32) : wpX_init (fun u => wpY_init (fun v => i_Rel 2 u v) k0 k1) k0 k1 := by
  obtain ⟨L, h0⟩ := cb_Cl_ex k0 (n := 4) (by omega) (by omega)
  obtain ⟨D, h1⟩ := cb_Cl_ex k1 (n := 3) (by omega) (by omega)
  exact cb_xinit h0 h1 (fun da ta pc ip hs hi => cb_yinit h0 h1 (fun yt hy => cb_rel (cb_Sz_of h0 h1) hs hy ⟨by omega, fun i hi => absurd hi (Nat.not_lt_zero _)⟩ rfl hi))
def cb_Bd (C : Nat) (p : Int32) : Prop := p < 0 ∨ (¬ p < 0 ∧ nI C ≤ p)
theorem cb_code (p : Int32) {C : Nat} (hC : C ≤ 81) : cb_Bd C p ∨ ∃ j, j < C ∧ p = nI j := by
  by_cases h : p < 0
  · exact Or.inl (Or.inl h)
  · obtain ⟨j, hj, e⟩ := nI_of h
    by_cases h2 : j < C
    · exact Or.inr ⟨j, h2, e⟩
    · exact Or.inl (Or.inr ⟨h, by rw [e]; exact nI_le (by omega) hj⟩)
section
variable {fl fd fc ft fp : Int32} {da ta tg tA pc ip ps re sc ns : Nat → Int32}
theorem cb_xic0 {C : Nat} {p : Int32} {post : Int32 → Prop} (h : cb_Bd C p) (hp : post 0) : wpX_isCode post (fl, fd, nI C, ft, fp, da, ta, tg, tA, pc, ip, ps, re, sc, ns) p := by
  obtain a | ⟨a, b⟩ := h
  · exact br_t a hp
  · exact br_f a (br_t b hp)
theorem cb_xic1 {C j : Nat} {post : Int32 → Prop} (hC : C ≤ 81) (h : j < C) (hp : post 1) : wpX_isCode post (fl, fd, nI C, ft, fp, da, ta, tg, tA, pc, ip, ps, re, sc, ns) (nI j) :=
  br_f (nI_pos (by omega)) (br_f (nI_ge h (by omega)) hp)
theorem cb_xro2 {L D C T r : Nat} {P : Nat → Bool} {post : Int32 → Prop} (hz : cb_Sz L D C) (hs : cb_St L D C da ta) (ht : cb_To C T tg) (hi : cb_Po C P pc ip) (hp : post (if cb_ex (fun x => !P x && cb_ft L D T tg tA (nI r) x) C = true then 1 else 0)) : ∀ d x, x + d = C → (∀ y, y < x → ¬ (!P y && cb_ft L D T tg tA (nI r) y) = true) → wX_rulesOutAlone_2 post (nI r) (nI L) (nI D) (nI C) (nI T) fp da ta tg tA pc ip ps re sc ns (d + 1) (nI x) := by
  have h7 := hz.2.2.2.2.2.2
  intro d
  induction d with
  | zero =>
    intro x hx hn
    have e1 : x = C := by omega
    subst e1
    rw [if_neg (fun hc => by obtain ⟨y, a, b⟩ := (cb_ex_iff _ _).mp hc; exact hn y a b)] at hp
    exact br_t (nI_le (Nat.le_refl _) (by omega)) hp
  | succ d ih =>
    intro x hx hn
    have ex : (nI x).toNatClampNeg = x := nI_clamp (by omega)
    refine br_f (nI_ge (by omega) (by omega)) ⟨pk_in x 81 (by omega), ?_⟩
    rw [ex, hi.2 x (by omega)]
    have nx : ¬ (!P x && cb_ft L D T tg tA (nI r) x) = true → wX_rulesOutAlone_2 post (nI r) (nI L) (nI D) (nI C) (nI T) fp da ta tg tA pc ip ps re sc ns (d + 1) (nI (x + 1)) := by
      intro hq
      refine ih (x + 1) (by omega) ?_
      intro y hy
      by_cases e1 : y = x
      · rw [e1]; exact hq
      · exact hn y (by omega)
    by_cases hq : P x = true
    · rw [if_pos hq]
      exact br_f (by decide) (nm_r (nI_1 _) (nx (by simp [hq])))
    · rw [if_neg hq]
      refine br_t rfl (cb_xfab hz hs ht (show x < C by omega) ?_)
      by_cases hf : cb_ft L D T tg tA (nI r) x = true
      · rw [if_pos hf]
        rw [if_pos ((cb_ex_iff _ _).mpr ⟨x, by omega, by simp [hq, hf]⟩)] at hp
        exact br_f (by decide) hp
      · rw [if_neg hf]
        exact br_t rfl (nm_r (nI_1 _) (nx (by simp [hf])))
theorem cb_xus4 {L D C T : Nat} {P : Nat → Bool} {us : Nat → Bool} {post : Int32 → Prop} (hz : cb_Sz L D C) (hs : cb_St L D C da ta) (ht : cb_To C T tg) (hi : cb_Po C P pc ip) (hu : ∀ r, r < T → us r = cb_ex (fun x => !P x && cb_ft L D T tg tA (nI r) x) C) (hp : post (nI (cb_cn us T))) : ∀ d r, r + d = T → wX_useful_4 post (nI L) (nI D) (nI C) (nI T) fp da ta tg tA pc ip ps re sc ns (d + 1) (nI (cb_cn us r)) (nI r) := by
  have h8 := ht.1
  intro d
  induction d with
  | zero =>
    intro r hr
    have e1 : r = T := by omega
    subst e1
    exact br_t (nI_le (Nat.le_refl _) (by omega)) hp
  | succ d ih =>
    intro r hr
    refine br_f (nI_ge (by omega) (by omega)) ⟨C + 1, cb_xro2 hz hs ht hi ?_ C 0 (by omega) (fun y hy => absurd hy (Nat.not_lt_zero _))⟩
    rw [← hu r (by omega)]
    by_cases hq : us r = true
    · rw [if_pos hq]
      refine br_f (by decide) (nm_r (nI_1 _) (nm_r (nI_1 _) ?_))
      rw [← cb_cn_t hq]
      exact ih (r + 1) (by omega)
    · rw [if_neg hq]
      refine br_t rfl (nm_r (nI_1 _) ?_)
      rw [← cb_cn_f hq]
      exact ih (r + 1) (by omega)
end
section
variable {yl yd yc yr yf : Int32} {yg ya yw ye yz yt : Nat → Int32}
theorem cb_yic0 {C : Nat} {p : Int32} {post : Int32 → Prop} (h : cb_Bd C p) (hp : post 0) : wpY_isCode post (yl, yd, nI C, yr, yf, yg, ya, yw, ye, yz, yt) p := by
  obtain a | ⟨a, b⟩ := h
  · exact br_t a hp
  · exact br_f a (br_t b hp)
theorem cb_yic1 {C j : Nat} {post : Int32 → Prop} (hC : C ≤ 81) (h : j < C) (hp : post 1) : wpY_isCode post (yl, yd, nI C, yr, yf, yg, ya, yw, ye, yz, yt) (nI j) :=
  br_f (nI_pos (by omega)) (br_f (nI_ge h (by omega)) hp)
theorem cb_yco4 {L D C T : Nat} {P : Nat → Bool} {v : Int32} {post : Int32 → Prop} (hz : cb_Sz L D C) (hy : cb_Sy L D C yt) (ht : cb_To C T yg) (hP : P = cb_ft L D T yg ya (-1)) (hn : (∀ k, k < cb_cn P C → ¬ v = nI k) → post (-3)) (hs : ∀ x, x < C → P x = true → v = nI (cb_cn P x) → post (nI x)) : ∀ d y, y + d = C → (∀ k, k < cb_cn P y → ¬ v = nI k) → wY_code_4 post yl yd (nI C) (nI T) yf yg ya yw ye yz yt (d + 1) (v - nI (cb_cn P y)) (nI y) := by
  have h7 := hz.2.2.2.2.2.2
  intro d
  induction d with
  | zero =>
    intro y hd hv
    have e1 : y = C := by omega
    subst e1
    exact br_t (nI_le (Nat.le_refl _) (by omega)) (hn hv)
  | succ d ih =>
    intro y hd hv
    refine br_f (nI_ge (by omega) (by omega)) (cb_yag hz hy ht (show y < C by omega) ?_)
    rw [← hP]
    by_cases hq : P y = true
    · rw [if_pos hq]
      refine br_f (by decide) (br_c (fun h => hs y (by omega) hq (by grind)) (fun h => nm_r (e' := v - nI (cb_cn P (y + 1))) ?_ (nm_r (nI_1 _) (ih (y + 1) (by omega) ?_))))
      · rw [cb_cn_t hq, ← nI_1]
        grind
      · rw [cb_cn_t hq]
        intro k hk
        by_cases e1 : k = cb_cn P y
        · rw [e1]; intro hc; apply h; rw [hc]; exact Int32.sub_self _
        · exact hv k (by omega)
    · rw [if_neg hq]
      refine br_t rfl (nm_r (nI_1 _) ?_)
      rw [← cb_cn_f hq] at hv ⊢
      exact ih (y + 1) (by omega) hv
theorem cb_yus10 {L D C T : Nat} {P : Nat → Bool} {us : Nat → Bool} {post : Int32 → Prop} (hz : cb_Sz L D C) (hy : cb_Sy L D C yt) (ht : cb_To C T yg) (hu : ∀ r, r < T → (us r = true ↔ cb_cn P C < cb_cn (cb_ft L D T yg ya (nI r)) C)) (hp : post (nI (cb_cn us T))) : ∀ d r, r + d = T → wY_useful_10 post (nI (cb_cn P C)) yl yd (nI C) (nI T) yf yg ya yw ye yz yt (d + 1) (nI (cb_cn us r)) (nI r) := by
  have h8 := ht.1
  have h7 := hz.2.2.2.2.2.2
  intro d
  induction d with
  | zero =>
    intro r hr
    have e1 : r = T := by omega
    subst e1
    exact br_t (nI_le (Nat.le_refl _) (by omega)) hp
  | succ d ih =>
    intro r hr
    have c1 := cb_cn_le P C
    have c2 := cb_cn_le (cb_ft L D T yg ya (nI r)) C
    have hur := hu r (by omega)
    refine br_f (nI_ge (by omega) (by omega)) (cb_ycp hz hy ht (pk_le (cb_cn (cb_ft L D T yg ya (nI r)) C) (cb_cn P C) (fun h => nm_r (nI_1 _) ?_) (fun h => nm_r (nI_1 _) (nm_r (nI_1 _) ?_))))
    · rw [← cb_cn_f (P := us) (n := r) (fun hc => by have := hur.mp hc; omega)]
      exact ih (r + 1) (by omega)
    · rw [← cb_cn_t (P := us) (n := r) (hur.mpr h)]
      exact ih (r + 1) (by omega)
end
theorem i_vc_codes {k : Nat} {u : SX} {v : SY} (I : i_Rel k u v) (hk : k + 4 ≤ 2050) : wpX_codes (fun r => wpY_codes (fun r' => r' = r ∧ i_Rel (k + 4) u v) v) u := by
  obtain ⟨L, D, C, T, P, tg, tA, da, ta, pc, ip, ps, re, sc, ns, yw, ye, yz, yt, yf, rfl, rfl, hz, hs, hy, ht, hP, hi⟩ := I
  exact ⟨rfl, cb_rel hz hs hy ht hP hi⟩
theorem i_vc_told {k : Nat} {u : SX} {v : SY} (I : i_Rel k u v) (hk : k + 4 ≤ 2050) : wpX_told (fun r => wpY_told (fun r' => r' = r ∧ i_Rel (k + 4) u v) v) u := by
  obtain ⟨L, D, C, T, P, tg, tA, da, ta, pc, ip, ps, re, sc, ns, yw, ye, yz, yt, yf, rfl, rfl, hz, hs, hy, ht, hP, hi⟩ := I
  exact ⟨rfl, cb_rel hz hs hy ht hP hi⟩
theorem i_vc_possible {k : Nat} {u : SX} {v : SY} (I : i_Rel k u v) (hk : k + 4 ≤ 2050) : wpX_possible (fun r => wpY_possible (fun r' => r' = r ∧ i_Rel (k + 4) u v) v) u := by
  obtain ⟨L, D, C, T, P, tg, tA, da, ta, pc, ip, ps, re, sc, ns, yw, ye, yz, yt, yf, rfl, rfl, hz, hs, hy, ht, hP, hi⟩ := I
  exact cb_ycp hz hy ht ⟨by rw [cb_ft8 ht.1, ← hP], cb_rel hz hs hy ht hP hi⟩
theorem i_vc_answer {k : Nat} {u : SX} {v : SY} (I : i_Rel k u v) (hk : k + 4 ≤ 2050) (v1 : Int32) (v2 : Int32) : wpX_answer (fun r => wpY_answer (fun r' => r' = r ∧ i_Rel (k + 4) u v) v v1 v2) u v1 v2 := by
  obtain ⟨L, D, C, T, P, tg, tA, da, ta, pc, ip, ps, re, sc, ns, yw, ye, yz, yt, yf, rfl, rfl, hz, hs, hy, ht, hP, hi⟩ := I
  unfold wpX_answer wpY_answer
  dsimp only
  have h7 := hz.2.2.2.2.2.2
  have R := cb_rel (k := k + 4) (ps := ps) (re := re) (sc := sc) (ns := ns) (yw := yw) (ye := ye) (yz := yz) (yf := yf) hz hs hy ht hP hi
  obtain b1 | ⟨g, hg, rfl⟩ := cb_code v1 h7
  · exact cb_xic0 b1 (br_t rfl (cb_yic0 b1 (br_t rfl ⟨rfl, R⟩)))
  · obtain b2 | ⟨s, hh, rfl⟩ := cb_code v2 h7
    · exact cb_xic1 h7 hg (br_f (by decide) (cb_xic0 b2 (br_t rfl (cb_yic1 h7 hg (br_f (by decide) (cb_yic0 b2 (br_t rfl ⟨rfl, R⟩)))))))
    · exact cb_xic1 h7 hg (br_f (by decide) (cb_xic1 h7 hh (br_f (by decide) (cb_xans hz hs hg hh (cb_yic1 h7 hg (br_f (by decide) (cb_yic1 h7 hh (br_f (by decide) (cb_yans hz hy hg hh ⟨rfl, R⟩)))))))))
theorem i_vc_canBe {k : Nat} {u : SX} {v : SY} (I : i_Rel k u v) (hk : k + 4 ≤ 2050) (v1 : Int32) : wpX_canBe (fun r => wpY_canBe (fun r' => r' = r ∧ i_Rel (k + 4) u v) v v1) u v1 := by
  obtain ⟨L, D, C, T, P, tg, tA, da, ta, pc, ip, ps, re, sc, ns, yw, ye, yz, yt, yf, rfl, rfl, hz, hs, hy, ht, hP, hi⟩ := I
  unfold wpX_canBe wpY_canBe
  dsimp only
  have h7 := hz.2.2.2.2.2.2
  have R := cb_rel (k := k + 4) (ps := ps) (re := re) (sc := sc) (ns := ns) (yw := yw) (ye := ye) (yz := yz) (yf := yf) hz hs hy ht hP hi
  obtain b1 | ⟨g, hg, rfl⟩ := cb_code v1 h7
  · exact cb_xic0 b1 (br_t rfl (cb_yic0 b1 (br_t rfl ⟨rfl, R⟩)))
  · have eg : (nI g).toNatClampNeg = g := nI_clamp (by omega)
    refine cb_xic1 h7 hg (br_f (by decide) ⟨pk_in g 81 (by omega), ?_⟩)
    rw [eg, hi.2 g hg]
    have hP2 : cb_ft L D T tg tA (-1) = P := by rw [cb_ft8 ht.1, hP]
    by_cases hq : P g = true
    · rw [if_pos hq]
      refine br_f (by decide) (cb_yic1 h7 hg (br_f (by decide) (cb_yag hz hy ht hg ?_)))
      rw [hP2, if_pos hq]
      exact br_f (by decide) ⟨rfl, R⟩
    · rw [if_neg hq]
      refine br_t rfl (cb_yic1 h7 hg (br_f (by decide) (cb_yag hz hy ht hg ?_)))
      rw [hP2, if_neg hq]
      exact br_t rfl ⟨rfl, R⟩
theorem i_vc_code {k : Nat} {u : SX} {v : SY} (I : i_Rel k u v) (hk : k + 4 ≤ 2050) (v1 : Int32) : wpX_code (fun r => wpY_code (fun r' => r' = r ∧ i_Rel (k + 4) u v) v v1) u v1 := by
  obtain ⟨L, D, C, T, P, tg, tA, da, ta, pc, ip, ps, re, sc, ns, yw, ye, yz, yt, yf, rfl, rfl, hz, hs, hy, ht, hP, hi⟩ := I
  have h7 := hz.2.2.2.2.2.2
  have c1 := cb_cn_le P C
  have R := cb_rel (k := k + 4) (ps := ps) (re := re) (sc := sc) (ns := ns) (yw := yw) (ye := ye) (yz := yz) (yf := yf) hz hs hy ht hP hi
  have hP2 : P = cb_ft L D T tg tA (-1) := by rw [cb_ft8 ht.1, hP]
  have e0 : v1 - nI (cb_cn P 0) = v1 := by
    show v1 - nI 0 = v1
    rw [nI_0, Int32.sub_zero]
  have Y : ∀ post : Int32 → Prop, ((∀ k, k < cb_cn P C → ¬ v1 = nI k) → post (-3)) → (∀ x, x < C → P x = true → v1 = nI (cb_cn P x) → post (nI x)) → wpY_code post (nI L, nI D, nI C, nI T, yf, tg, tA, yw, ye, yz, yt) v1 := by
    intro post hn hx
    have h := cb_yco4 (yl := nI L) (yd := nI D) (yf := yf) (yw := yw) (ye := ye) (yz := yz) hz hy ht hP2 hn hx C 0 (by omega) (fun k hk => absurd hk (Nat.not_lt_zero _))
    rw [e0] at h
    exact ⟨C + 1, h⟩
  by_cases h0 : v1 < 0
  · refine br_t h0 (Y _ (fun _ => ⟨rfl, R⟩) (fun x hx hx2 e => ?_))
    have hx3 := cb_cn_le P x
    rw [e] at h0
    exact absurd h0 (nI_pos (by omega))
  · obtain ⟨j, hj, rfl⟩ := nI_of h0
    refine br_f h0 (pk_lt j (cb_cn P C) (fun h => ⟨pk_in j 81 (by omega), Y _ (fun hn => absurd rfl (hn j h)) (fun x hx hx2 e => ⟨?_, R⟩)⟩) (fun h => Y _ (fun _ => ⟨rfl, R⟩) (fun x hx hx2 e => ?_)))
    · have hx3 := cb_cn_le P x
      rw [nI_eq hj (by omega)] at e
      rw [nI_clamp hj, e]
      exact (hi.1 x hx hx2).symm
    · have hx3 := cb_cn_lt P hx hx2
      rw [nI_eq hj (by omega)] at e
      omega
theorem cb_peg (p : Int32) : p < 0 ∨ (¬ p < 0 ∧ 4 < p) ∨ (¬ p < 0 ∧ ¬ 4 < p ∧ p ≤ 4) := by
  by_cases h : p < 0
  · exact Or.inl h
  · by_cases h4 : 4 < p
    · exact Or.inr (Or.inl ⟨h, h4⟩)
    · exact Or.inr (Or.inr ⟨h, h4, Int32.not_lt.mp h4⟩)
theorem i_vc_tell {k : Nat} {u : SX} {v : SY} (I : i_Rel k u v) (hk : k + 4 ≤ 2050) (v1 : Int32) (v2 : Int32) (v3 : Int32) : wpX_tell (fun r u' => wpY_tell (fun r' v' => r' = r ∧ i_Rel (k + 4) u' v') v v1 v2 v3) u v1 v2 v3 := by
  obtain ⟨L, D, C, T, P, tg, tA, da, ta, pc, ip, ps, re, sc, ns, yw, ye, yz, yt, yf, rfl, rfl, hz, hs, hy, ht, hP, hi⟩ := I
  unfold wpX_tell wpY_tell
  dsimp only
  have h7 := hz.2.2.2.2.2.2
  have h8 := ht.1
  have R := cb_rel (k := k + 4) (ps := ps) (re := re) (sc := sc) (ns := ns) (yw := yw) (ye := ye) (yz := yz) (yf := yf) hz hs hy ht hP hi
  obtain b1 | ⟨g, hg, rfl⟩ := cb_code v1 h7
  · exact cb_xic0 b1 (br_t rfl (cb_yic0 b1 (br_t rfl ⟨rfl, R⟩)))
  obtain b2 | ⟨b2, b3⟩ | ⟨b2, b3, b4⟩ := cb_peg v2
  · exact cb_xic1 h7 hg (br_f (by decide) (br_t b2 (br_t rfl (cb_yic1 h7 hg (br_f (by decide) (br_t b2 ⟨rfl, R⟩))))))
  · exact cb_xic1 h7 hg (br_f (by decide) (br_f b2 (br_t b3 (br_t rfl (cb_yic1 h7 hg (br_f (by decide) (br_f b2 (br_t b3 ⟨rfl, R⟩))))))))
  obtain c2 | ⟨c2, c3⟩ | ⟨c2, c3, c4⟩ := cb_peg v3
  · exact cb_xic1 h7 hg (br_f (by decide) (br_f b2 (br_f b3 (br_f (by decide) (br_t c2 (br_t rfl (cb_yic1 h7 hg (br_f (by decide) (br_f b2 (br_f b3 (br_t c2 ⟨rfl, R⟩)))))))))))
  · exact cb_xic1 h7 hg (br_f (by decide) (br_f b2 (br_f b3 (br_f (by decide) (br_f c2 (br_t c3 (br_t rfl (cb_yic1 h7 hg (br_f (by decide) (br_f b2 (br_f b3 (br_f c2 (br_f (Int32.not_le.mpr c3) ⟨rfl, R⟩)))))))))))))
  have er : (nI T).toNatClampNeg = T := nI_clamp (by omega)
  refine cb_xic1 h7 hg (br_f (by decide) (br_f b2 (br_f b3 (br_f (by decide) (br_f c2 (br_f c3 (br_f (by decide) (pk_lt T 8 (fun h => ?_) (fun h => ?_)))))))))
  · refine ⟨pk_in T 8 h, nm_e ⟨pk_in T 8 h, nm_e (nm_r (nI_1 _) ?_)⟩⟩
    rw [er]
    have ht' : cb_To C (T + 1) (upd tg T (nI g)) := by
      refine ⟨by omega, fun i hi2 => ?_⟩
      by_cases e1 : i = T
      · subst e1; exact ⟨g, hg, pk_us⟩
      · rw [pk_un e1]; exact ht.2 i (by omega)
    refine cb_xfp hz hs ht' rfl (fun pc ip hi' => ?_)
    refine cb_yic1 h7 hg (br_f (by decide) (br_f b2 (br_f b3 (br_f c2 (br_t c4 (br_f ?_ ⟨pk_in T 8 h, nm_e ⟨pk_in T 8 h, nm_e (nm_r (nI_1 _) ?_)⟩⟩))))))
    · exact fun hc => by rw [show (8 : Int32) = nI 8 from rfl, nI_eq (by omega) (by omega)] at hc; omega
    · exact cb_ycp hz hy ht' ⟨by rw [cb_ft8 (by omega)], cb_rel hz hs hy ht' rfl hi'⟩
  · exact cb_yic1 h7 hg (br_f (by decide) (br_f b2 (br_f b3 (br_f c2 (br_t c4 (br_t (by rw [show T = 8 by omega]; rfl) ⟨rfl, R⟩))))))
theorem i_vc_forget {k : Nat} {u : SX} {v : SY} (I : i_Rel k u v) (hk : k + 4 ≤ 2050) : wpX_forget (fun r u' => wpY_forget (fun r' v' => r' = r ∧ i_Rel (k + 4) u' v') v) u := by
  obtain ⟨L, D, C, T, P, tg, tA, da, ta, pc, ip, ps, re, sc, ns, yw, ye, yz, yt, yf, rfl, rfl, hz, hs, hy, ht, hP, hi⟩ := I
  have h7 := hz.2.2.2.2.2.2
  have h8 := ht.1
  have R := cb_rel (k := k + 4) (ps := ps) (re := re) (sc := sc) (ns := ns) (yw := yw) (ye := ye) (yz := yz) (yf := yf) hz hs hy ht hP hi
  refine pk_eq T 0 (fun h => ?_) (fun h => ?_)
  · subst h
    exact br_t rfl ⟨rfl, R⟩
  · obtain ⟨T', rfl⟩ : ∃ t, T = t + 1 := ⟨T - 1, by omega⟩
    have ht' : cb_To C T' tg := ⟨by omega, fun i hi2 => ht.2 i (by omega)⟩
    refine nm_r (nI_pred _) (cb_xfp hz hs ht' rfl (fun pc ip hi' => ?_))
    exact br_f (nI_ne0 (by omega) (by omega)) (nm_r (nI_pred _) (cb_ycp hz hy ht' ⟨by rw [cb_ft8 (by omega)], cb_rel hz hs hy ht' rfl hi'⟩))
theorem i_vc_parts {k : Nat} {u : SX} {v : SY} (I : i_Rel k u v) (hk : k + 4 ≤ 2050) (v1 : Int32) : wpX_parts (fun r u' => wpY_parts (fun r' v' => r' = r ∧ i_Rel (k + 4) u' v') v v1) u v1 := by
  obtain ⟨L, D, C, T, P, tg, tA, da, ta, pc, ip, ps, re, sc, ns, yw, ye, yz, yt, yf, rfl, rfl, hz, hs, hy, ht, hP, hi⟩ := I
  unfold wpX_parts wpY_parts
  dsimp only
  have h7 := hz.2.2.2.2.2.2
  have hP2 : P = cb_ft L D T tg tA (-1) := by rw [cb_ft8 ht.1, hP]
  obtain b1 | ⟨g, hg, rfl⟩ := cb_code v1 h7
  · exact cb_xic0 b1 (br_t rfl (cb_yic0 b1 (br_t rfl ⟨rfl, cb_rel hz hs hy ht hP hi⟩)))
  · have hb : ∀ a, cb_sz L D C P g a ≤ 81 := fun a => Nat.le_trans (cb_sz_le _ _ _ _ _ _) h7
    refine cb_xic1 h7 hg (br_f (by decide) (cb_xmp hz hs hi hg (fun ps hv => ⟨46, cb_xp19 hb hv ?_ 45 0 (by omega)⟩)))
    refine cb_yic1 h7 hg (br_f (by decide) (cb_ymp hz hy ht hP2 hg (fun yz hv => ⟨61, cb_yp19 hb hv ?_ 60 0 (by omega)⟩)))
    exact ⟨congrArg nI (cb_cn_60 (cb_sz_0 hz P hg) 15), cb_rel hz hs hy ht hP hi⟩
theorem i_vc_worst {k : Nat} {u : SX} {v : SY} (I : i_Rel k u v) (hk : k + 4 ≤ 2050) (v1 : Int32) : wpX_worst (fun r u' => wpY_worst (fun r' v' => r' = r ∧ i_Rel (k + 4) u' v') v v1) u v1 := by
  obtain ⟨L, D, C, T, P, tg, tA, da, ta, pc, ip, ps, re, sc, ns, yw, ye, yz, yt, yf, rfl, rfl, hz, hs, hy, ht, hP, hi⟩ := I
  unfold wpX_worst wpY_worst
  dsimp only
  have h7 := hz.2.2.2.2.2.2
  have hP2 : P = cb_ft L D T tg tA (-1) := by rw [cb_ft8 ht.1, hP]
  obtain b1 | ⟨g, hg, rfl⟩ := cb_code v1 h7
  · exact cb_xic0 b1 (br_t rfl (cb_yic0 b1 (br_t rfl ⟨rfl, cb_rel hz hs hy ht hP hi⟩)))
  · exact cb_xic1 h7 hg (br_f (by decide) (cb_xgp hz hs hi hg (fun ps => cb_yic1 h7 hg (br_f (by decide) (cb_ygp hz hy ht hP2 hg (fun yz => ⟨rfl, cb_rel hz hs hy ht hP hi⟩))))))
theorem i_vc_weight {k : Nat} {u : SX} {v : SY} (I : i_Rel k u v) (hk : k + 4 ≤ 2050) (v1 : Int32) : wpX_weight (fun r u' => wpY_weight (fun r' v' => r' = r ∧ i_Rel (k + 4) u' v') v v1) u v1 := by
  obtain ⟨L, D, C, T, P, tg, tA, da, ta, pc, ip, ps, re, sc, ns, yw, ye, yz, yt, yf, rfl, rfl, hz, hs, hy, ht, hP, hi⟩ := I
  unfold wpX_weight wpY_weight
  dsimp only
  have h7 := hz.2.2.2.2.2.2
  have hP2 : P = cb_ft L D T tg tA (-1) := by rw [cb_ft8 ht.1, hP]
  obtain b1 | ⟨g, hg, rfl⟩ := cb_code v1 h7
  · exact cb_xic0 b1 (br_t rfl (cb_yic0 b1 (br_t rfl ⟨rfl, cb_rel hz hs hy ht hP hi⟩)))
  · exact cb_xic1 h7 hg (br_f (by decide) (cb_xss hz hs hi hg (fun ps => cb_yic1 h7 hg (br_f (by decide) (cb_yss hz hy ht hP2 hg (fun yz => ⟨rfl, cb_rel hz hs hy ht hP hi⟩))))))
theorem i_vc_safest {k : Nat} {u : SX} {v : SY} (I : i_Rel k u v) (hk : k + 4 ≤ 2050) : wpX_safest (fun r u' => wpY_safest (fun r' v' => r' = r ∧ i_Rel (k + 4) u' v') v) u := by
  obtain ⟨L, D, C, T, P, tg, tA, da, ta, pc, ip, ps, re, sc, ns, yw, ye, yz, yt, yf, rfl, rfl, hz, hs, hy, ht, hP, hi⟩ := I
  unfold wpX_safest wpY_safest
  dsimp only
  have h7 := hz.2.2.2.2.2.2
  have c1 := cb_cn_le P C
  have hP2 : P = cb_ft L D T tg tA (-1) := by rw [cb_ft8 ht.1, hP]
  have hb : ∀ g, cb_mx (cb_sz L D C P g) 45 < 1000000 := fun g => Nat.lt_of_le_of_lt (cb_mx_le (fun a => Nat.le_trans (cb_sz_le _ _ _ _ _ _) h7) 45) (by omega)
  refine pk_eq (cb_cn P C) 0 (fun h => ?_) (fun h => ?_)
  · refine cb_ycp hz hy ht ?_
    rw [← hP2, h]
    exact br_t rfl ⟨rfl, h ▸ cb_rel hz hs hy ht hP hi⟩
  · refine ⟨C + 1, cb_xb18 (sf := fun g => cb_mx (cb_sz L D C P g) 45) hz hi hb (fun g ps q hg hq => br_t rfl (cb_xgp hz hs hi hg hq)) (fun ps => ?_) C 0 (-3) 0 ps (by omega) (Or.inl ⟨rfl, rfl⟩)⟩
    refine cb_ycp hz hy ht ?_
    rw [← hP2]
    refine br_f (nI_ne0 (by omega) (by omega)) ⟨C + 1, cb_yb18 (sf := fun g => cb_mx (cb_sz L D C P g) 45) hz hy ht hP2 hb (fun g yz q hg hq => br_f (by decide) (cb_ygp hz hy ht hP2 hg hq)) (fun yz => ⟨rfl, cb_rel hz hs hy ht hP hi⟩) C 0 (-1) 0 yz (by omega) (Or.inl ⟨rfl, rfl⟩)⟩
theorem i_vc_sharpest {k : Nat} {u : SX} {v : SY} (I : i_Rel k u v) (hk : k + 4 ≤ 2050) : wpX_sharpest (fun r u' => wpY_sharpest (fun r' v' => r' = r ∧ i_Rel (k + 4) u' v') v) u := by
  obtain ⟨L, D, C, T, P, tg, tA, da, ta, pc, ip, ps, re, sc, ns, yw, ye, yz, yt, yf, rfl, rfl, hz, hs, hy, ht, hP, hi⟩ := I
  unfold wpX_sharpest wpY_sharpest
  dsimp only
  have h7 := hz.2.2.2.2.2.2
  have c1 := cb_cn_le P C
  have hP2 : P = cb_ft L D T tg tA (-1) := by rw [cb_ft8 ht.1, hP]
  have hb : ∀ g, cb_sq (cb_sz L D C P g) 45 < 1000000 := fun g => Nat.lt_of_le_of_lt (cb_sq_le (b := 81) (fun a => Nat.le_trans (cb_sz_le _ _ _ _ _ _) h7) 45) (by omega)
  refine pk_eq (cb_cn P C) 0 (fun h => ?_) (fun h => ?_)
  · refine cb_ycp hz hy ht ?_
    rw [← hP2, h]
    exact br_t rfl ⟨rfl, h ▸ cb_rel hz hs hy ht hP hi⟩
  · refine ⟨C + 1, cb_xb18 (sf := fun g => cb_sq (cb_sz L D C P g) 45) hz hi hb (fun g ps q hg hq => br_f (by decide) (cb_xss hz hs hi hg hq)) (fun ps => ?_) C 0 (-3) 0 ps (by omega) (Or.inl ⟨rfl, rfl⟩)⟩
    refine cb_ycp hz hy ht ?_
    rw [← hP2]
    refine br_f (nI_ne0 (by omega) (by omega)) ⟨C + 1, cb_yb18 (sf := fun g => cb_sq (cb_sz L D C P g) 45) hz hy ht hP2 hb (fun g yz q hg hq => br_t rfl (cb_yss hz hy ht hP2 hg hq)) (fun yz => ⟨rfl, cb_rel hz hs hy ht hP hi⟩) C 0 (-1) 0 yz (by omega) (Or.inl ⟨rfl, rfl⟩)⟩
theorem i_vc_useful {k : Nat} {u : SX} {v : SY} (I : i_Rel k u v) (hk : k + 4 ≤ 2050) : wpX_useful (fun r => wpY_useful (fun r' => r' = r ∧ i_Rel (k + 4) u v) v) u := by
  obtain ⟨L, D, C, T, P, tg, tA, da, ta, pc, ip, ps, re, sc, ns, yw, ye, yz, yt, yf, rfl, rfl, hz, hs, hy, ht, hP, hi⟩ := I
  have h7 := hz.2.2.2.2.2.2
  have h8 := ht.1
  have hP2 : P = cb_ft L D T tg tA (-1) := by rw [cb_ft8 ht.1, hP]
  refine ⟨T + 1, cb_xus4 (us := fun r => cb_ex (fun x => !P x && cb_ft L D T tg tA (nI r) x) C) hz hs ht hi (fun r hr => rfl) ?_ T 0 (by omega)⟩
  refine cb_ycp hz hy ht ⟨T + 1, ?_⟩
  rw [← hP2]
  refine cb_yus10 (P := P) (us := fun r => cb_ex (fun x => !P x && cb_ft L D T tg tA (nI r) x) C) hz hy ht (fun r hr => ?_) ⟨rfl, cb_rel hz hs hy ht hP hi⟩ T 0 (by omega)
  have sub : ∀ x, x < C → P x = true → cb_ft L D T tg tA (nI r) x = true := by
    intro x hx hpx
    rw [hP] at hpx
    refine (cb_al_iff _ _).mpr (fun i hi2 => ?_)
    have a := (cb_al_iff _ _).mp hpx i hi2
    have n8 : ∀ i, i < 8 → ¬ nI i = 8 := by decide +kernel
    simp only [n8 i (by omega), decide_false, Bool.false_or] at a
    simp only [a, Bool.or_true]
  constructor
  · intro h
    obtain ⟨x, a, b⟩ := (cb_ex_iff _ _).mp h
    refine cb_cn_ssub sub ⟨x, a, ?_⟩
    simp only [Bool.and_eq_true, Bool.not_eq_true'] at b
    exact ⟨by rw [b.1]; decide, b.2⟩
  · intro h
    refine Classical.byContradiction (fun hc => ?_)
    have : cb_cn (cb_ft L D T tg tA (nI r)) C ≤ cb_cn P C := by
      refine cb_cn_sub (fun x hx hfx => Classical.byContradiction (fun hq => hc ((cb_ex_iff _ _).mpr ⟨x, hx, ?_⟩)))
      simp [hq, hfx]
    omega
