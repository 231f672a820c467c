/-! need, needKept, first -/
section
variable {fl fd fc ft fp : Int32} {da ta tg tA pc ip ps re sc ns : Nat → Int32}
theorem cb_xf36 {L D C M g0 : Nat} {K : Nat → Nat} {v : Nat} {post : Int32 → SX → Prop} (hC : C ≤ 81) (hM : M ≤ 8) (hr : cb_Rm L D C K M C re) (hV : ∀ t, cb_V L D C K M false t ≤ 9) (hn : ∀ t, t < 2 ^ M → ns t = nI (cb_V L D C K M false t)) (hg0 : g0 < C) (hv : v ≤ 9) (he : cb_W L D K M (cb_V L D C K M false) g0 (2 ^ M - 1) = v) (hne : ∀ g, g < g0 → ¬ cb_W L D K M (cb_V L D C K M false) g (2 ^ M - 1) = v) (hp : post (nI g0) (fl, fd, nI C, ft, nI M, da, ta, tg, tA, pc, ip, ps, re, sc, ns)) : ∀ d g, g + d = g0 → wX_first_36 post (nI v) (nI (2 ^ M - 1)) fl fd (nI C) ft (nI M) da ta tg tA pc ip ps re sc ns (d + 1) (nI g) := by
  have h256 := cb_p8 hM
  have h1 : 1 ≤ 2 ^ M := Nat.one_le_two_pow
  intro d
  induction d with
  | zero =>
    intro g hd
    have e1 : g = g0 := by omega
    subst e1
    refine br_f (nI_ge hg0 (by omega)) (cb_xnw hC hM hg0 (by omega) hr hV (fun t ht => hn t (by omega)) ?_)
    rw [he]
    exact br_t rfl hp
  | succ d ih =>
    intro g hd
    have b := cb_W_9 (L := L) (D := D) (M := M) (K := K) (g := g) (s := 2 ^ M - 1) hV
    refine br_f (nI_ge (by omega) (by omega)) (cb_xnw hC hM (show g < C by omega) (by omega) hr hV (fun t ht => hn t (by omega)) (br_f (fun z => ?_) (nm_r (nI_1 _) (ih (g + 1) (by omega)))))
    rw [nI_eq (by omega) (by omega)] at z
    exact hne g (by omega) z
end
section
variable {yl yd yc yr yf : Int32} {yg ya yw ye yz yt : Nat → Int32}
theorem cb_yf24 {L D C M g0 : Nat} {K : Nat → Nat} {v : Nat} {post : Int32 → SY → Prop} (hz : cb_Sz L D C) (hy : cb_Sy L D C yt) (hK : cb_Kg C M K) (hkv : cb_Kv M K yw) (hM : M ≤ 8) (hv : v < 100) (hE : ∀ p, p < 2 ^ M → ∃ e, e ≤ 100 ∧ ye p = nI e ∧ (e ≤ v ↔ cb_V L D C K M false p ≤ v)) (hg0 : g0 < C) (he : cb_LV L D C K M false v g0 (2 ^ M - 1)) (hne : ∀ g, g < g0 → ¬ cb_LV L D C K M false v g (2 ^ M - 1)) (hp : post (nI g0) (nI L, yd, yc, yr, nI M, yg, ya, yw, ye, yz, yt)) : ∀ d g, g + d = g0 → wY_first_24 post (nI (v + 1)) (nI L) yd yc yr (nI M) yg ya yw ye yz yt (d + 1) (nI g) := by
  have h1 : 1 ≤ 2 ^ M := Nat.one_le_two_pow
  intro d
  induction d with
  | zero =>
    intro g hd
    have e1 : g = g0 := by omega
    subst e1
    unfold wY_first_24
    rw [cb_wh hM, nI_pred]
    exact cb_ylv hz hy hK hkv hM hg0 hv (by omega) hE (fun _ => br_f (by decide) hp) (fun h => absurd he h)
  | succ d ih =>
    intro g hd
    unfold wY_first_24
    rw [cb_wh hM, nI_pred]
    exact cb_ylv hz hy hK hkv hM (show g < C by omega) hv (by omega) hE (fun h => absurd h (hne g (by omega))) (fun _ => br_t rfl (nm_r (nI_1 _) (ih (g + 1) (by omega))))
end
theorem cb_least {Q : Nat → Prop} (n : Nat) : (∃ g, g < n ∧ Q g) → ∃ g, g < n ∧ Q g ∧ ∀ h, h < g → ¬ Q h := by
  induction n with
  | zero => rintro ⟨g, a, _⟩; exact absurd a (Nat.not_lt_zero _)
  | succ n ih =>
    rintro ⟨g, a, b⟩
    by_cases h : ∃ g, g < n ∧ Q g
    · obtain ⟨g, a, b, c⟩ := ih h
      exact ⟨g, by omega, b, c⟩
    · have e : g = n := Classical.byContradiction (fun z => h ⟨g, by omega, b⟩)
      exact ⟨g, a, b, fun j hj hq => h ⟨j, by omega, hq⟩⟩
theorem cb_V_9 {L D C M : Nat} {K : Nat → Nat} {kb : Bool} (t : Nat) : cb_V L D C K M kb t ≤ 9 := cb_tb_9 _ _
theorem cb_vcn {k : Nat} {kb : Bool} {kI : Int32} {L D C T : Nat} {P : Nat → Bool} {tg tA da ta pc ip ps re sc ns yw ye yz yt : Nat → Int32} {yf : Int32} (hkb : kI = if kb = true then 1 else 0) (hz : cb_Sz L D C) (hs : cb_St L D C da ta) (hy : cb_Sy L D C yt) (ht : cb_To C T tg) (hP : P = cb_ft L D T tg tA 8) (hi : cb_Po C P pc ip) : wpX_leastNeed (fun r u' => wpY_solve (fun r' v' => r' = r ∧ i_Rel (k + 4) u' v') (nI L, nI D, nI C, nI T, yf, tg, tA, yw, ye, yz, yt) kI) (nI L, nI D, nI C, nI T, nI (cb_cn P C), da, ta, tg, tA, pc, ip, ps, re, sc, ns) kI := by
  have h7 := hz.2.2.2.2.2.2
  have c1 := cb_cn_le P C
  have hP2 : P = cb_ft L D T tg tA (-1) := by rw [cb_ft8 ht.1, hP]
  obtain ⟨hK, hv⟩ := cb_K_Kg h7 hi
  by_cases hM : cb_cn P C ≤ 8
  · exact cb_xln hz hs hK hv hM hkb (fun re sc ns hr hn => cb_ysv hz hy ht hP2 rfl (fun x hx hpx => cb_K_at h7 hi hx hpx) hK hM hkb (fun m yw ye _ _ _ => ⟨rfl, cb_rel hz hs hy ht hP hi⟩))
  · exact br_f (nI_ge (a := 8) (by omega) (by omega)) (cb_ysm hz hy ht hP2 rfl (by omega) ⟨rfl, cb_rel hz hs hy ht hP hi⟩)
theorem i_vc_need {k : Nat} {u : SX} {v : SY} (I : i_Rel k u v) (hk : k + 4 ≤ 2050) : wpX_need (fun r u' => wpY_need (fun r' v' => r' = r ∧ i_Rel (k + 4) u' v') v) u := by
  obtain ⟨L, D, C, T, P, tg, tA, da, ta, pc, ip, ps, re, sc, ns, yw, ye, yz, yt, yf, rfl, rfl, hz, hs, hy, ht, hP, hi⟩ := I
  exact cb_vcn (kb := false) (kI := 0) rfl hz hs hy ht hP hi
theorem i_vc_needKept {k : Nat} {u : SX} {v : SY} (I : i_Rel k u v) (hk : k + 4 ≤ 2050) : wpX_needKept (fun r u' => wpY_needKept (fun r' v' => r' = r ∧ i_Rel (k + 4) u' v') v) u := by
  obtain ⟨L, D, C, T, P, tg, tA, da, ta, pc, ip, ps, re, sc, ns, yw, ye, yz, yt, yf, rfl, rfl, hz, hs, hy, ht, hP, hi⟩ := I
  exact cb_vcn (kb := true) (kI := 1) rfl hz hs hy ht hP hi
theorem i_vc_first {k : Nat} {u : SX} {v : SY} (I : i_Rel k u v) (hk : k + 4 ≤ 2050) : wpX_first (fun r u' => wpY_first (fun r' v' => r' = r ∧ i_Rel (k + 4) u' v') v) u := by
  obtain ⟨L, D, C, T, P, tg, tA, da, ta, pc, ip, ps, re, sc, ns, yw, ye, yz, yt, yf, rfl, rfl, hz, hs, hy, ht, hP, hi⟩ := I
  unfold wpX_first wpY_first
  dsimp only
  have h7 := hz.2.2.2.2.2.2
  have c1 := cb_cn_le P C
  have hP2 : P = cb_ft L D T tg tA (-1) := by rw [cb_ft8 ht.1, hP]
  obtain ⟨hK, hv⟩ := cb_K_Kg h7 hi
  refine pk_eq (cb_cn P C) 0 (fun h => ?_) (fun h => ?_)
  · refine cb_ysv (kb := false) (M := cb_cn P C) hz hy ht hP2 rfl (fun x hx hpx => cb_K_at h7 hi hx hpx) hK (by omega) rfl (fun m yw ye _ _ _ => ?_)
    have e0 : cb_V L D C (cb_K pc) (cb_cn P C) false (2 ^ cb_cn P C - 1) = 0 := by
      rw [show 2 ^ cb_cn P C - 1 = 0 by rw [h]]
      exact cb_V_0
    rw [e0]
    exact br_f (by decide) (br_t rfl ⟨rfl, cb_rel hz hs hy ht hP hi⟩)
  · by_cases hM : cb_cn P C ≤ 8
    · have h1 : 2 ≤ 2 ^ cb_cn P C := by
        obtain ⟨n, en⟩ : ∃ n, cb_cn P C = n + 1 := ⟨cb_cn P C - 1, by omega⟩
        rw [en, Nat.pow_succ]
        have := Nat.one_le_two_pow (n := n)
        omega
      have hw0 : 2 ^ cb_cn P C - 1 ≠ 0 := by omega
      have v8 : cb_V L D C (cb_K pc) (cb_cn P C) false (2 ^ cb_cn P C - 1) ≤ 8 := cb_V_8 hz hK hM (by omega)
      have v1 := cb_V_pos (L := L) (D := D) (C := C) (K := cb_K pc) (M := cb_cn P C) (kb := false) hw0
      obtain ⟨v, ev⟩ : ∃ v, cb_V L D C (cb_K pc) (cb_cn P C) false (2 ^ cb_cn P C - 1) = v + 1 := ⟨cb_V L D C (cb_K pc) (cb_cn P C) false (2 ^ cb_cn P C - 1) - 1, by omega⟩
      obtain ⟨gx, hgx, _, hlx⟩ := cb_V_ex hw0 ev (by omega)
      obtain ⟨g0, hg0, hl0, hne⟩ := cb_least (Q := fun g => cb_LV L D C (cb_K pc) (cb_cn P C) false v g (2 ^ cb_cn P C - 1)) C ⟨gx, hgx, hlx⟩
      have hwf : ∀ g, g < C → (cb_W L D (cb_K pc) (cb_cn P C) (cb_V L D C (cb_K pc) (cb_cn P C) false) g (2 ^ cb_cn P C - 1) = v + 1 ↔ cb_LV L D C (cb_K pc) (cb_cn P C) false v g (2 ^ cb_cn P C - 1)) := fun g hg => cb_V_first hw0 ev (by omega) hg rfl
      refine cb_xln (kb := false) hz hs hK hv hM rfl (fun re sc ns hr hn => ?_)
      rw [ev]
      refine br_f (fun z => ?_) (nm_r (cb_wh hM) ⟨g0 + 1, cb_xf36 h7 hM hr cb_V_9 hn hg0 (by omega) ((hwf g0 hg0).mpr hl0) (fun g hg hc => hne g hg ((hwf g (by omega)).mp hc)) ?_ g0 0 (by omega)⟩)
      · have : ∀ j, j < 8 → ¬ nI (j + 1) = -4 := by decide +kernel
        exact this v (by omega) z
      refine cb_ysv (kb := false) hz hy ht hP2 rfl (fun x hx hpx => cb_K_at h7 hi hx hpx) hK hM rfl (fun m yw ye hkv hm hE => ?_)
      rw [ev] at hm ⊢
      refine br_t (nI_lt (a := 0) (by omega) (by omega)) ⟨g0 + 1, cb_yf24 hz hy hK hkv hM (by omega) (fun p hp => ?_) hg0 hl0 hne ⟨rfl, cb_rel hz hs hy ht hP hi⟩ g0 0 (by omega)⟩
      have h3 := cb_Ee (m := v) (b := m) (by omega) (by omega) (cb_V_8 (kb := false) hz hK hM hp)
      exact ⟨_, h3.1, hE p hp, h3.2⟩
    · exact br_f (nI_ge (a := 8) (by omega) (by omega)) (br_t rfl (cb_ysm hz hy ht hP2 rfl (by omega) (br_f (by decide) (br_f (by decide) ⟨rfl, cb_rel hz hs hy ht hP hi⟩))))
