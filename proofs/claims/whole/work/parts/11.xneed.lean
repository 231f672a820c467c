/-! the class: needs -/
def cb_Kv (M : Nat) (K : Nat → Nat) (pc : Nat → Int32) : Prop := ∀ k, k < M → pc k = nI (K k)
def cb_Sc (C : Nat) (K : Nat → Nat) (i : Nat) (sc : Nat → Int32) : Prop := ∀ x, x < C → (∀ k, k < i → K k = x → sc x = nI (2 ^ k)) ∧ ((∀ k, k < i → ¬ K k = x) → sc x = 0)
def cb_Rm (L D C : Nat) (K : Nat → Nat) (M : Nat) (g : Nat) (re : Nat → Int32) : Prop := ∀ h k, h < g → k < M → re (h * 8 + k) = nI (cb_rm L D K M h k)
theorem cb_K_Kg {C : Nat} {P : Nat → Bool} {pc ip : Nat → Int32} (hC : C ≤ 81) (hi : cb_Po C P pc ip) : cb_Kg C (cb_cn P C) (cb_K pc) ∧ cb_Kv (cb_cn P C) (cb_K pc) pc := by
  refine ⟨⟨fun k hk => (cb_K_of hC hi hk).2.1, fun k j hk hj e => ?_⟩, fun k hk => (cb_K_of hC hi hk).1⟩
  have a := (cb_K_of hC hi hk).2.2.2
  have b := (cb_K_of hC hi hj).2.2.2
  rw [e] at a
  exact a.symm.trans b
theorem cb_2k {s k : Nat} : 2 ^ k &&& s = 0 ↔ ¬ s.testBit k = true := by
  constructor
  · intro h hb
    have : (2 ^ k &&& s).testBit k = true := by
      rw [Nat.testBit_and, hb, Bool.and_true, Nat.testBit_two_pow_self]
    rw [h, Nat.zero_testBit] at this
    exact absurd this (by decide)
  · intro h
    apply Nat.eq_of_testBit_eq
    intro i
    rw [Nat.testBit_and, Nat.zero_testBit, Nat.testBit_two_pow]
    by_cases e : k = i
    · subst e
      rw [Bool.eq_false_iff.mpr h, Bool.and_false]
    · simp [e]
theorem cb_sc_iff {C M s g : Nat} {K : Nat → Nat} {sc : Nat → Int32} (hK : cb_Kg C M K) (hM : M ≤ 8) (hS : cb_Sc C K M sc) (hg : g < C) (hs : s < 256) : sc g &&& nI s = 0 ↔ ¬ cb_ex (fun k => s.testBit k && (K k == g)) M = true := by
  by_cases h : ∃ k, k < M ∧ K k = g
  · obtain ⟨k, hk, e⟩ := h
    have hp : 2 ^ k ≤ 256 := cb_p8 (by omega)
    have hle : 2 ^ k &&& s ≤ s := Nat.and_le_right
    rw [(hS g hg).1 k hk e, nx_and, ← nI_0, nI_eq (by omega) (by omega), cb_2k]
    constructor
    · intro hb hc
      obtain ⟨j, hj, hx⟩ := (cb_ex_iff _ _).mp hc
      simp only [Bool.and_eq_true, beq_iff_eq] at hx
      have : j = k := hK.2 j k hj hk (hx.2.trans e.symm)
      rw [this] at hx
      exact hb hx.1
    · intro hc hb
      exact hc ((cb_ex_iff _ _).mpr ⟨k, hk, by simp [hb, e]⟩)
  · have h' : ∀ k, k < M → ¬ K k = g := fun k hk e => h ⟨k, hk, e⟩
    rw [(hS g hg).2 h']
    constructor
    · intro _ hc
      obtain ⟨j, hj, hx⟩ := (cb_ex_iff _ _).mp hc
      simp only [Bool.and_eq_true, beq_iff_eq] at hx
      exact h' j hj hx.2
    · intro _
      show nI 0 &&& nI s = nI 0
      rw [nx_and, Nat.zero_and]
section
variable {fl fd fc ft fp : Int32} {da ta tg tA pc ip ps re sc ns : Nat → Int32}
theorem cb_xs25 {C M : Nat} {K : Nat → Nat} {post : SX → Prop} (hC : C ≤ 81) (hK : cb_Kg C M K) (hv : cb_Kv M K pc) (hM : M ≤ 8) (hp : ∀ sc, cb_Sc C K M sc → post (fl, fd, nI C, ft, nI M, da, ta, tg, tA, pc, ip, ps, re, sc, ns)) : ∀ d i sc, i + d = M → cb_Sc C K i sc → wX_findSetsOfCodes_25 post fl fd (nI C) ft (nI M) (d + 1) (nI i) da ta tg tA pc ip ps re sc ns := by
  intro d
  induction d with
  | zero =>
    intro i sc hd hs
    have e1 : i = M := by omega
    subst e1
    exact br_t (nI_le (Nat.le_refl _) (by omega)) (hp sc hs)
  | succ d ih =>
    intro i sc hd hs
    have er : (nI i).toNatClampNeg = i := nI_clamp (by omega)
    have hk := hK.1 i (by omega)
    have ek : (nI (K i)).toNatClampNeg = K i := nI_clamp (by omega)
    refine br_f (nI_ge (by omega) (by omega)) ⟨pk_in i 81 (by omega), ?_⟩
    rw [er, hv i (by omega), ek, cb_shl (by omega)]
    refine ⟨pk_in (K i) 81 (by omega), nm_e (nm_r (nI_1 _) (ih (i + 1) _ (by omega) ?_))⟩
    intro x hx
    by_cases e1 : x = K i
    · subst e1
      refine ⟨fun k hk2 e2 => ?_, fun hn => absurd rfl (hn i (by omega))⟩
      rw [hK.2 k i (by omega) (by omega) e2]
      exact pk_us
    · refine ⟨fun k hk2 e2 => ?_, fun hn => ?_⟩
      · rw [pk_un e1]
        by_cases e3 : k = i
        · rw [e3] at e2; exact absurd e2.symm e1
        · exact (hs x hx).1 k (by omega) e2
      · rw [pk_un e1]
        exact (hs x hx).2 (fun k hk2 => hn k (by omega))
theorem cb_xs2 {C M : Nat} {K : Nat → Nat} {post : SX → Prop} (hC : C ≤ 81) (hK : cb_Kg C M K) (hv : cb_Kv M K pc) (hM : M ≤ 8) (hp : ∀ sc, cb_Sc C K M sc → post (fl, fd, nI C, ft, nI M, da, ta, tg, tA, pc, ip, ps, re, sc, ns)) : ∀ d i sc, i + d = C → (∀ x, x < i → sc x = 0) → wX_findSetsOfCodes_2 post fl fd (nI C) ft (nI M) (d + 1) (nI i) da ta tg tA pc ip ps re sc ns := by
  intro d
  induction d with
  | zero =>
    intro i sc hd hs
    have e1 : i = C := by omega
    subst e1
    exact br_t (nI_le (Nat.le_refl _) (by omega)) ⟨M + 1, cb_xs25 hC hK hv hM hp M 0 sc (by omega) (fun x hx => ⟨fun k hk => absurd hk (Nat.not_lt_zero _), fun _ => hs x hx⟩)⟩
  | succ d ih =>
    intro i sc hd hs
    have er : (nI i).toNatClampNeg = i := nI_clamp (by omega)
    refine br_f (nI_ge (by omega) (by omega)) ⟨pk_in i 81 (by omega), ?_⟩
    rw [er]
    refine nm_e (nm_r (nI_1 _) (ih (i + 1) _ (by omega) ?_))
    intro x hx
    by_cases e1 : x = i
    · rw [e1]; exact pk_us
    · rw [pk_un e1]; exact hs x (by omega)
theorem cb_xs {C M : Nat} {K : Nat → Nat} {post : SX → Prop} (hC : C ≤ 81) (hK : cb_Kg C M K) (hv : cb_Kv M K pc) (hM : M ≤ 8) (hp : ∀ sc, cb_Sc C K M sc → post (fl, fd, nI C, ft, nI M, da, ta, tg, tA, pc, ip, ps, re, sc, ns)) : wpX_findSetsOfCodes post (fl, fd, nI C, ft, nI M, da, ta, tg, tA, pc, ip, ps, re, sc, ns) :=
  ⟨C + 1, cb_xs2 hC hK hv hM hp C 0 sc (by omega) (fun x hx => absurd hx (Nat.not_lt_zero _))⟩
theorem cb_xr20 {L D C M g a : Nat} {K : Nat → Nat} {post : Int32 → Prop} (hz : cb_Sz L D C) (hs : cb_St L D C da ta) (hK : cb_Kg C M K) (hv : cb_Kv M K pc) (hM : M ≤ 8) (hg : g < C) (ha : a < 45) (hp : post (nI (cb_cl L D K M g a))) : ∀ d i, i + d = M → wX_remainsAfter_20 post (nI g) (nI a) (nI L) (nI D) fc ft (nI M) da ta tg tA pc ip ps re sc ns (d + 1) (nI (cb_mk (fun j => cb_an L D g (K j) == a) i)) (nI i) := by
  intro d
  induction d with
  | zero =>
    intro i hd
    have e1 : i = M := by omega
    subst e1
    exact br_t (nI_le (Nat.le_refl _) (by omega)) hp
  | succ d ih =>
    intro i hd
    have er : (nI i).toNatClampNeg = i := nI_clamp (by omega)
    have hk := hK.1 i (by omega)
    have h45 := cb_an45 hz hg hk
    refine br_f (nI_ge (by omega) (by omega)) ⟨pk_in i 81 (by omega), ?_⟩
    rw [er, hv i (by omega), cb_shl (by omega), cb_or]
    refine cb_xans hz hs hg hk (pk_eq (cb_an L D g (K i)) a (fun h => nm_e (nm_r (nI_1 _) ?_)) (fun h => nm_r (nI_1 _) ?_))
    · rw [← cb_mk_t (f := fun j => cb_an L D g (K j) == a) (n := i) (by simp [h])]
      exact ih (i + 1) (by omega)
    · rw [← cb_mk_f (f := fun j => cb_an L D g (K j) == a) (n := i) (by simp [h])]
      exact ih (i + 1) (by omega)
theorem cb_xra {L D C M g k : Nat} {K : Nat → Nat} {post : Int32 → Prop} (hz : cb_Sz L D C) (hs : cb_St L D C da ta) (hK : cb_Kg C M K) (hv : cb_Kv M K pc) (hM : M ≤ 8) (hg : g < C) (hk : k < M) (hp : post (nI (cb_rm L D K M g k))) : wpX_remainsAfter post (nI L, nI D, fc, ft, nI M, da, ta, tg, tA, pc, ip, ps, re, sc, ns) (nI g) (nI (K k)) := by
  have h7 := hz.2.2.2.2.2.2
  have hk1 := hK.1 k hk
  refine pk_eq g (K k) (fun h => ?_) (fun h => ?_)
  · have e : cb_rm L D K M g k = 0 := if_pos h
    rw [e] at hp
    exact hp
  · have e : cb_rm L D K M g k = cb_cl L D K M g (cb_an L D g (K k)) := if_neg h
    rw [e] at hp
    exact cb_xans hz hs hg hk1 ⟨M + 1, cb_xr20 hz hs hK hv hM hg (cb_an45 hz hg hk1) hp M 0 (by omega)⟩
theorem cb_xr12 {L D C M g : Nat} {K : Nat → Nat} {post : SX → Prop} {J2 : cb_J10} (hz : cb_Sz L D C) (hs : cb_St L D C da ta) (hK : cb_Kg C M K) (hv : cb_Kv M K pc) (hM : M ≤ 8) (hg : g < C) (hJ : ∀ re, cb_Rm L D C K M (g + 1) re → J2 (nI (g + 1)) da ta tg tA pc ip ps re sc ns) : ∀ d i re, i + d = M → cb_Rm L D C K M g re → (∀ k, k < i → re (g * 8 + k) = nI (cb_rm L D K M g k)) → wX_findRemains_12 post J2 (nI g) (nI L) (nI D) fc ft (nI M) (d + 1) (nI i) da ta tg tA pc ip ps re sc ns := by
  have h7 := hz.2.2.2.2.2.2
  intro d
  induction d with
  | zero =>
    intro i re hd hr hr2
    have e1 : i = M := by omega
    subst e1
    refine br_t (nI_le (Nat.le_refl _) (by omega)) (nm_r (nI_1 _) (hJ re (fun h k hh hk => ?_)))
    by_cases e1 : h = g
    · rw [e1]; exact hr2 k hk
    · exact hr h k (by omega) hk
  | succ d ih =>
    intro i re hd hr hr2
    have er : (nI i).toNatClampNeg = i := nI_clamp (by omega)
    refine br_f (nI_ge (by omega) (by omega)) ⟨pk_in i 81 (by omega), ?_⟩
    rw [er, hv i (by omega)]
    refine cb_xra hz hs hK hv hM hg (show i < M by omega) ⟨pk_in (g * 8 + i) 648 (by omega) (cb_i8 g i), nm_r (e' := upd re (g * 8 + i) (nI (cb_rm L D K M g i))) ?_ (nm_r (nI_1 _) (ih (i + 1) _ (by omega) ?_ ?_))⟩
    · rw [cb_i8, nI_clamp (by omega)]
    · intro h k hh hk
      rw [pk_un (by omega)]; exact hr h k hh hk
    · intro k hk
      by_cases e1 : k = i
      · rw [e1]; exact pk_us
      · rw [pk_un (by omega)]; exact hr2 k (by omega)
theorem cb_xr2 {L D C M : Nat} {K : Nat → Nat} {post : SX → Prop} (hz : cb_Sz L D C) (hs : cb_St L D C da ta) (hK : cb_Kg C M K) (hv : cb_Kv M K pc) (hM : M ≤ 8) (hp : ∀ re, cb_Rm L D C K M C re → post (nI L, nI D, nI C, ft, nI M, da, ta, tg, tA, pc, ip, ps, re, sc, ns)) : ∀ d g re, g + d = C → cb_Rm L D C K M g re → wX_findRemains_2 post (nI L) (nI D) (nI C) ft (nI M) (d + 1) (nI g) da ta tg tA pc ip ps re sc ns := by
  have h7 := hz.2.2.2.2.2.2
  intro d
  induction d with
  | zero =>
    intro g re hd hr
    have e1 : g = C := by omega
    subst e1
    exact br_t (nI_le (Nat.le_refl _) (by omega)) (hp re hr)
  | succ d ih =>
    intro g re hd hr
    exact br_f (nI_ge (by omega) (by omega)) ⟨M + 1, cb_xr12 hz hs hK hv hM (show g < C by omega) (fun re hr => ih (g + 1) re (by omega) hr) M 0 re (by omega) hr (fun k hk => absurd hk (Nat.not_lt_zero _))⟩
theorem cb_xr {L D C M : Nat} {K : Nat → Nat} {post : SX → Prop} (hz : cb_Sz L D C) (hs : cb_St L D C da ta) (hK : cb_Kg C M K) (hv : cb_Kv M K pc) (hM : M ≤ 8) (hp : ∀ re, cb_Rm L D C K M C re → post (nI L, nI D, nI C, ft, nI M, da, ta, tg, tA, pc, ip, ps, re, sc, ns)) : wpX_findRemains post (nI L, nI D, nI C, ft, nI M, da, ta, tg, tA, pc, ip, ps, re, sc, ns) :=
  ⟨C + 1, cb_xr2 hz hs hK hv hM hp C 0 re (by omega) (fun h k hh => absurd hh (Nat.not_lt_zero _))⟩
theorem cb_nm_9 {f : Nat → Nat} {s b : Nat} (h : ∀ k, f k ≤ b) (n : Nat) : cb_nm f s n ≤ b := (cb_nm_le n).mpr (fun k _ _ => h k)
theorem cb_xn5 {L D C M g s : Nat} {K : Nat → Nat} {Vt : Nat → Nat} {post : Int32 → Prop} (hC : C ≤ 81) (hM : M ≤ 8) (hg : g < C) (hs : s < 256) (hr : cb_Rm L D C K M C re) (hb : ∀ t, Vt t ≤ 9) (hn : ∀ t, t ≤ s → ns t = nI (Vt t)) (hp : post (nI (cb_W L D K M Vt g s))) : ∀ d k, k + d = M → wX_needWithGuess_5 post (nI g) (nI s) fl fd fc ft (nI M) da ta tg tA pc ip ps re sc ns (d + 1) (nI (cb_nm (fun k => Vt (cb_rm L D K M g k &&& s)) s k)) (nI k) := by
  intro d
  induction d with
  | zero =>
    intro k hd
    have e1 : k = M := by omega
    subst e1
    refine br_t (nI_le (Nat.le_refl _) (by omega)) ?_
    rw [nI_1]
    exact hp
  | succ d ih =>
    intro k hd
    have hle : cb_rm L D K M g k &&& s ≤ s := Nat.and_le_right
    have hm := cb_nm_9 (f := fun k => Vt (cb_rm L D K M g k &&& s)) (s := s) (b := 9) (fun k => hb _) k
    have hbk := hb (cb_rm L D K M g k &&& s)
    have step : ∀ v, cb_nm (fun k => Vt (cb_rm L D K M g k &&& s)) s (k + 1) = v → wX_needWithGuess_5 post (nI g) (nI s) fl fd fc ft (nI M) da ta tg tA pc ip ps re sc ns (d + 1) (nI v) (nI (k + 1)) := by
      intro v ev
      rw [← ev]
      exact ih (k + 1) (by omega)
    refine br_f (nI_ge (by omega) (by omega)) (br_c (fun h => ⟨pk_in (g * 8 + k) 648 (by omega) (cb_i8 g k), ?_⟩) (fun h => nm_r (nI_1 _) (step _ (if_neg (fun z => h ((cb_bit1 hs (by omega)).mpr z))))))
    have hbit := (cb_bit1 hs (by omega)).mp h
    rw [cb_i8, nI_clamp (by omega), hr g k hg (by omega), nx_and, nI_clamp (by omega), hn _ hle]
    refine ⟨pk_in _ 256 (by omega) rfl, nm_e (pk_le (Vt (cb_rm L D K M g k &&& s)) (cb_nm (fun k => Vt (cb_rm L D K M g k &&& s)) s k) (fun h2 => nm_r (nI_1 _) (step _ ?_)) (fun h2 => nm_r (nI_1 _) (step _ ?_)))⟩
    · exact (if_pos hbit).trans (if_pos h2)
    · exact (if_pos hbit).trans (if_neg (Nat.not_le.mpr h2))
theorem cb_xnw {L D C M g s : Nat} {K : Nat → Nat} {Vt : Nat → Nat} {post : Int32 → Prop} (hC : C ≤ 81) (hM : M ≤ 8) (hg : g < C) (hs : s < 256) (hr : cb_Rm L D C K M C re) (hb : ∀ t, Vt t ≤ 9) (hn : ∀ t, t ≤ s → ns t = nI (Vt t)) (hp : post (nI (cb_W L D K M Vt g s))) : wpX_needWithGuess post (fl, fd, fc, ft, nI M, da, ta, tg, tA, pc, ip, ps, re, sc, ns) (nI g) (nI s) :=
  ⟨M + 1, cb_xn5 hC hM hg hs hr hb hn hp M 0 (by omega)⟩
theorem cb_W_9 {L D M g s : Nat} {K : Nat → Nat} {Vt : Nat → Nat} (hb : ∀ t, Vt t ≤ 9) : cb_W L D K M Vt g s ≤ 10 := by
  have := cb_nm_9 (f := fun k => Vt (cb_rm L D K M g k &&& s)) (s := s) (b := 9) (fun k => hb _) M
  unfold cb_W
  omega
theorem cb_xn36 {L D C M s : Nat} {K : Nat → Nat} {Vt : Nat → Nat} {kb : Bool} {kI x2 : Int32} {post : SX → Prop} {J16 : cb_J10} (hC : C ≤ 81) (hM : M ≤ 8) (hK : cb_Kg C M K) (hkb : kI = if kb = true then 1 else 0) (hs : s < 256) (hS : cb_Sc C K M sc) (hr : cb_Rm L D C K M C re) (hb : ∀ t, Vt t ≤ 9) (hn : ∀ t, t ≤ s → ns t = nI (Vt t)) (hJ : J16 (nI (s + 1)) da ta tg tA pc ip ps re sc (upd ns s (nI (cb_mn (cb_ok K M kb s) (fun g => cb_W L D K M Vt g s) C)))) : ∀ d g, g + d = C → wX_findNeeds_36 post J16 kI x2 (nI s) fl fd (nI C) ft (nI M) da ta tg tA pc ip ps re sc ns (d + 1) (nI (cb_mn (cb_ok K M kb s) (fun g => cb_W L D K M Vt g s) g)) (nI g) := by
  intro d
  induction d with
  | zero =>
    intro g hd
    have e1 : g = C := by omega
    subst e1
    refine br_t (nI_le (Nat.le_refl _) (by omega)) ⟨pk_in s 256 (by omega), ?_⟩
    rw [nI_clamp (by omega)]
    exact nm_e (nm_r (nI_1 _) hJ)
  | succ d ih =>
    intro g hd
    have hg : g < C := by omega
    have b1 := cb_mn_9 (cb_ok K M kb s) (fun g => cb_W L D K M Vt g s) g
    have b2 := cb_W_9 (L := L) (D := D) (M := M) (K := K) (g := g) (s := s) hb
    have step : ∀ v, cb_mn (cb_ok K M kb s) (fun g => cb_W L D K M Vt g s) (g + 1) = v → wX_findNeeds_36 post J16 kI x2 (nI s) fl fd (nI C) ft (nI M) da ta tg tA pc ip ps re sc ns (d + 1) (nI v) (nI (g + 1)) := by
      intro v ev
      rw [← ev]
      exact ih (g + 1) (by omega)
    have look : cb_ok K M kb s g = true → wX_findNeeds_64 post J16 (wX_findNeeds_36 post J16 kI x2 (nI s) fl fd (nI C) ft (nI M) da ta tg tA pc ip ps re sc ns (d + 1)) kI x2 (nI s) (nI (cb_mn (cb_ok K M kb s) (fun g => cb_W L D K M Vt g s) g)) (nI g) fl fd (nI C) ft (nI M) da ta tg tA pc ip ps re sc ns := by
      intro hok
      refine cb_xnw hC hM hg hs hr hb hn (pk_le (cb_mn (cb_ok K M kb s) (fun g => cb_W L D K M Vt g s) g) (cb_W L D K M Vt g s) (fun h => nm_r (nI_1 _) (step _ ?_)) (fun h => nm_r (nI_1 _) (step _ ?_)))
      · exact (if_pos hok).trans (if_pos h)
      · exact (if_pos hok).trans (if_neg (Nat.not_le.mpr h))
    refine br_f (nI_ge (by omega) (by omega)) ?_
    by_cases hk : kb = true
    · subst hk
      have e : kI = 1 := hkb.trans (if_pos rfl)
      rw [e] at step look ⊢
      refine br_f (by decide) ⟨pk_in g 81 (by omega), ?_⟩
      rw [nI_clamp (by omega), cb_sc_iff hK hM hS hg hs]
      have eok : cb_ok K M true s g = cb_ex (fun k => s.testBit k && (K k == g)) M := rfl
      refine br_c (fun h => nm_r (nI_1 _) (step _ ?_)) (fun h => look ?_)
      · exact if_neg (by rw [eok]; exact h)
      · rw [eok]; exact Classical.byContradiction h
    · have e : kI = 0 := hkb.trans (if_neg hk)
      rw [e] at step look ⊢
      refine br_t rfl (look ?_)
      have : kb = false := Bool.eq_false_iff.mpr hk
      subst this
      rfl
theorem cb_xn16 {L D C M : Nat} {K : Nat → Nat} {kb : Bool} {kI : Int32} {post : SX → Prop} (hC : C ≤ 81) (hM : M ≤ 8) (hK : cb_Kg C M K) (hkb : kI = if kb = true then 1 else 0) (hS : cb_Sc C K M sc) (hr : cb_Rm L D C K M C re) (hp : ∀ ns, (∀ t, t < 2 ^ M → ns t = nI (cb_V L D C K M kb t)) → post (fl, fd, nI C, ft, nI M, da, ta, tg, tA, pc, ip, ps, re, sc, ns)) : ∀ d s ns, s + d = 2 ^ M → 1 ≤ s → (∀ t, t < s → ns t = nI (cb_tb L D C K M kb s t)) → wX_findNeeds_16 post kI (nI (2 ^ M)) fl fd (nI C) ft (nI M) (d + 1) (nI s) da ta tg tA pc ip ps re sc ns := by
  have h256 := cb_p8 hM
  intro d
  induction d with
  | zero =>
    intro s ns hd h1 hn
    have e1 : s = 2 ^ M := by omega
    subst e1
    exact br_t (nI_le (Nat.le_refl _) (by omega)) (hp ns (fun t ht => by rw [hn t ht, cb_tb_V _ _ ht]))
  | succ d ih =>
    intro s ns hd h1 hn
    refine br_f (nI_ge (by omega) (by omega)) ⟨pk_in s 256 (by omega), ?_⟩
    rw [nI_clamp (by omega)]
    refine nm_e ⟨C + 1, cb_xn36 (Vt := fun t => if t = s then 9 else cb_tb L D C K M kb s t) hC hM hK hkb (by omega) hS hr ?_ ?_ (ih (s + 1) _ (by omega) (by omega) ?_) C 0 (by omega)⟩
    · intro t
      show (if _ then _ else _) ≤ 9
      split
      · omega
      · exact cb_tb_9 _ _
    · intro t ht
      show _ = nI (if _ then _ else _)
      by_cases e1 : t = s
      · rw [if_pos e1, e1]; exact pk_us
      · rw [if_neg e1, pk_un e1]; exact hn t (by omega)
    · intro t ht
      show _ = nI (if _ then (if _ then _ else _) else _)
      by_cases e1 : t = s
      · rw [if_pos e1, if_neg (by omega), e1]; exact pk_us
      · rw [if_neg e1, pk_un e1, pk_un e1]; exact hn t (by omega)
theorem cb_xfn {L D C M : Nat} {K : Nat → Nat} {kb : Bool} {kI : Int32} {post : SX → Prop} (hC : C ≤ 81) (hM : M ≤ 8) (hK : cb_Kg C M K) (hkb : kI = if kb = true then 1 else 0) (hS : cb_Sc C K M sc) (hr : cb_Rm L D C K M C re) (hp : ∀ ns, (∀ t, t < 2 ^ M → ns t = nI (cb_V L D C K M kb t)) → post (fl, fd, nI C, ft, nI M, da, ta, tg, tA, pc, ip, ps, re, sc, ns)) : wpX_findNeeds post (fl, fd, nI C, ft, nI M, da, ta, tg, tA, pc, ip, ps, re, sc, ns) kI := by
  have h1 : 1 ≤ 2 ^ M := Nat.one_le_two_pow
  refine nm_r (cb_shl (by omega)) (nm_e ⟨2 ^ M - 1 + 1, cb_xn16 hC hM hK hkb hS hr hp (2 ^ M - 1) 1 _ (by omega) (by omega) ?_⟩)
  intro t ht
  have e : t = 0 := by omega
  subst e
  exact pk_us
theorem cb_wh {M : Nat} (hM : M ≤ 8) : (1 : Int32) <<< (nI M &&& 31) - 1 = nI (2 ^ M - 1) := by
  have h1 : 1 ≤ 2 ^ M := Nat.one_le_two_pow
  rw [cb_shl (by omega)]
  show nI (2 ^ M) - nI 1 = _
  rw [pk_sub h1]
theorem cb_xln {L D C M : Nat} {K : Nat → Nat} {kb : Bool} {kI : Int32} {post : Int32 → SX → Prop} (hz : cb_Sz L D C) (hs : cb_St L D C da ta) (hK : cb_Kg C M K) (hv : cb_Kv M K pc) (hM : M ≤ 8) (hkb : kI = if kb = true then 1 else 0) (hp : ∀ re sc ns, cb_Rm L D C K M C re → (∀ t, t < 2 ^ M → ns t = nI (cb_V L D C K M kb t)) → post (nI (cb_V L D C K M kb (2 ^ M - 1))) (nI L, nI D, nI C, ft, nI M, da, ta, tg, tA, pc, ip, ps, re, sc, ns)) : wpX_leastNeed post (nI L, nI D, nI C, ft, nI M, da, ta, tg, tA, pc, ip, ps, re, sc, ns) kI := by
  have h1 : 1 ≤ 2 ^ M := Nat.one_le_two_pow
  have h256 := cb_p8 hM
  have h7 := hz.2.2.2.2.2.2
  refine br_t (nI_le (b := 8) hM (by decide)) (cb_xs h7 hK hv hM (fun sc hS => cb_xr hz hs hK hv hM (fun re hr => cb_xfn h7 hM hK hkb hS hr (fun ns hn => ?_))))
  dsimp only
  rw [cb_wh hM, nI_clamp (by omega), hn _ (by omega)]
  exact ⟨pk_in _ 256 (by omega) rfl, hp re sc ns hr hn⟩
end
