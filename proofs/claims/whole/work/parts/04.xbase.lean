/-! the class: its tables, its answers, its possible codes -/
def cb_Sz (L D C : Nat) : Prop := 1 ≤ L ∧ L ≤ 4 ∧ 1 ≤ D ∧ D ≤ 3 ∧ C = D ^ L ∧ 1 ≤ C ∧ C ≤ 81
def cb_St (L D C : Nat) (da ta : Nat → Int32) : Prop := (∀ x p, x < C → p < L → da (x * 4 + p) = nI (cb_dg D x (L - 1 - p))) ∧ (∀ x d, x < C → d < D → ta (x * 3 + d) = nI (cb_tm L D x d))
def cb_ft (L D T : Nat) (ga aa : Nat → Int32) (e : Int32) (x : Nat) : Bool := cb_al (fun i => decide (nI i = e) || decide (nI (cb_an L D (ga i).toNatClampNeg x) = aa i)) T
def cb_To (C T : Nat) (ga : Nat → Int32) : Prop := T ≤ 8 ∧ ∀ i, i < T → ∃ q, q < C ∧ ga i = nI q
def cb_Po (n : Nat) (P : Nat → Bool) (pc ip : Nat → Int32) : Prop := (∀ y, y < n → P y = true → pc (cb_cn P y) = nI y) ∧ (∀ y, y < n → ip y = if P y = true then 1 else 0)
theorem cb_i3 (a b : Nat) : nI a * 3 + nI b = nI (a * 3 + b) := by
  show nI a * nI 3 + nI b = _
  rw [pk_mul, nI_add]
theorem cb_i4 (a b : Nat) : nI a * 4 + nI b = nI (a * 4 + b) := by
  show nI a * nI 4 + nI b = _
  rw [pk_mul, nI_add]
theorem cb_i8 (a b : Nat) : nI a * 8 + nI b = nI (a * 8 + b) := by
  show nI a * nI 8 + nI b = _
  rw [pk_mul, nI_add]
theorem cb_i10 (a b : Nat) : 10 * nI a + nI b = nI (10 * a + b) := by
  show nI 10 * nI a + nI b = _
  rw [pk_mul, nI_add]
theorem cb_tm_le (L D x d : Nat) : cb_tm L D x d ≤ L := cb_cn_le _ _
theorem cb_anI (m a : Nat) : 10 * nI m + (nI a - nI m) = nI (10 * m + a - m) := by
  rw [← pk_sub (by omega), ← cb_i10]
  grind
theorem cb_pow {b e : Nat} {post : Int32 → Prop} (he : e < 2 ^ 31) (hp : post (nI (b ^ e))) : ∀ d i, i + d = e → wX_power_4 post (nI b) (nI e) (d + 1) (nI (b ^ i)) (nI i) := by
  intro d
  induction d with
  | zero =>
    intro i hi
    have e1 : i = e := by omega
    subst e1
    exact br_t (nI_le (Nat.le_refl _) he) hp
  | succ d ih =>
    intro i hi
    exact br_f (nI_ge (by omega) he) (nm_r ((pk_mul _ _).trans (congrArg nI (Nat.pow_succ (n := b) (m := i)).symm)) (nm_r (nI_1 _) (ih (i + 1) (by omega))))
section
variable {fl fd fc ft fp : Int32} {da ta tg tA pc ip ps re sc ns : Nat → Int32}
theorem cb_xa54 {L D C g s m : Nat} {post : Int32 → Prop} (hz : cb_Sz L D C) (hs : cb_St L D C da ta) (hg : g < C) (hh : s < C) (hp : post (10 * nI m + (nI (cb_mi L D g s D) - nI m))) : ∀ e d, d + e = D → wX_answerTo_54 post (nI g) (nI s) (nI m) (nI L) (nI D) fc ft fp da ta tg tA pc ip ps re sc ns (e + 1) (nI (cb_mi L D g s d)) (nI d) := by
  obtain ⟨h1, h2, h3, h4, h5, h6, h7⟩ := hz
  intro e
  induction e with
  | zero =>
    intro d hd
    have e1 : d = D := by omega
    subst e1
    exact br_t (nI_le (Nat.le_refl _) (by omega)) hp
  | succ e ih =>
    intro d hd
    have t1 := cb_tm_le L D g d
    have t2 := cb_tm_le L D s d
    refine br_f (nI_ge (by omega) (by omega)) ⟨pk_in _ 243 (by omega) (cb_i3 g d), nm_r (e' := nI (cb_tm L D g d)) ?_ ⟨pk_in _ 243 (by omega) (cb_i3 s d), nm_r (e' := nI (cb_tm L D s d)) ?_ ?_⟩⟩
    · rw [cb_i3, nI_clamp (by omega)]; exact hs.2 g d hg (by omega)
    · rw [cb_i3, nI_clamp (by omega)]; exact hs.2 s d hh (by omega)
    · refine pk_le (cb_tm L D s d) (cb_tm L D g d) (fun h => nm_r (nI_add _ _) (nm_r (nI_1 _) ?_)) (fun h => nm_r (nI_add _ _) (nm_r (nI_1 _) ?_))
      · have e1 : cb_mi L D g s (d + 1) = cb_mi L D g s d + cb_tm L D s d := by
          show cb_mi L D g s d + (if _ then _ else _) = _
          rw [if_pos h]
        rw [← e1]
        exact ih (d + 1) (by omega)
      · have e1 : cb_mi L D g s (d + 1) = cb_mi L D g s d + cb_tm L D g d := by
          show cb_mi L D g s d + (if _ then _ else _) = _
          rw [if_neg (by omega)]
        rw [← e1]
        exact ih (d + 1) (by omega)
theorem cb_xa5 {L D C g s : Nat} {post : Int32 → Prop} (hz : cb_Sz L D C) (hs : cb_St L D C da ta) (hg : g < C) (hh : s < C) (hp : post (nI (cb_an L D g s))) : ∀ e p, p + e = L → wX_answerTo_5 post (nI g) (nI s) (nI L) (nI D) fc ft fp da ta tg tA pc ip ps re sc ns (e + 1) (nI (cb_cn (fun p => cb_q D g s (L - 1 - p)) p)) (nI p) := by
  have hz' := hz
  obtain ⟨h1, h2, h3, h4, h5, h6, h7⟩ := hz
  intro e
  induction e with
  | zero =>
    intro p hd
    have e1 : p = L := by omega
    subst e1
    rw [cb_rev h2 (cb_q D g s)]
    refine br_t (nI_le (Nat.le_refl _) (by omega)) ⟨D + 1, ?_⟩
    refine cb_xa54 hz' hs hg hh ?_ D 0 (by omega)
    rw [cb_anI]
    exact hp
  | succ e ih =>
    intro p hd
    refine br_f (nI_ge (by omega) (by omega)) ⟨pk_in _ 324 (by omega) (cb_i4 g p), pk_in _ 324 (by omega) (cb_i4 s p), ?_⟩
    rw [cb_i4, cb_i4, nI_clamp (by omega), nI_clamp (by omega), hs.1 g p hg (by omega), hs.1 s p hh (by omega)]
    have b1 : cb_dg D g (L - 1 - p) < D := Nat.mod_lt _ (by omega)
    have b2 : cb_dg D s (L - 1 - p) < D := Nat.mod_lt _ (by omega)
    refine pk_eq (cb_dg D g (L - 1 - p)) (cb_dg D s (L - 1 - p)) (fun h => nm_r (nI_1 _) (nm_r (nI_1 _) ?_)) (fun h => nm_r (nI_1 _) ?_)
    · rw [← cb_cn_t (P := fun p => cb_q D g s (L - 1 - p)) (n := p) (by simp [cb_q, h])]
      exact ih (p + 1) (by omega)
    · rw [← cb_cn_f (P := fun p => cb_q D g s (L - 1 - p)) (n := p) (by simp [cb_q, h])]
      exact ih (p + 1) (by omega)
theorem cb_xans {L D C g s : Nat} {post : Int32 → Prop} (hz : cb_Sz L D C) (hs : cb_St L D C da ta) (hg : g < C) (hh : s < C) (hp : post (nI (cb_an L D g s))) : wpX_answerTo post (nI L, nI D, fc, ft, fp, da, ta, tg, tA, pc, ip, ps, re, sc, ns) (nI g) (nI s) :=
  ⟨L + 1, cb_xa5 hz hs hg hh hp L 0 (by omega)⟩
theorem cb_xfits {L D C T x r : Nat} {post : Int32 → Prop} (hz : cb_Sz L D C) (hs : cb_St L D C da ta) (ht : cb_To C T tg) (hx : x < C) (hr : r < T) (ha : nI (cb_an L D (tg r).toNatClampNeg x) = tA r → post 1) (hb : ¬ nI (cb_an L D (tg r).toNatClampNeg x) = tA r → post 0) : wpX_fits post (nI L, nI D, fc, nI T, fp, da, ta, tg, tA, pc, ip, ps, re, sc, ns) (nI x) (nI r) := by
  obtain ⟨q, hq, eq⟩ := ht.2 r hr
  have h7 := hz.2.2.2.2.2.2
  have h8 := ht.1
  have er : (nI r).toNatClampNeg = r := nI_clamp (by omega)
  have eq2 : (tg r).toNatClampNeg = q := by rw [eq]; exact nI_clamp (by omega)
  rw [eq2] at ha hb
  refine ⟨pk_in r 8 (by omega), ?_⟩
  rw [er, eq]
  exact cb_xans hz hs hq hx ⟨pk_in r 8 (by omega), br_c ha hb⟩
theorem cb_xf2 {L D C T x : Nat} {e : Int32} {post : Int32 → Prop} (hz : cb_Sz L D C) (hs : cb_St L D C da ta) (ht : cb_To C T tg) (hx : x < C) (hp : post (if cb_ft L D T tg tA e x = true then 1 else 0)) : ∀ d i, i + d = T → (∀ j, j < i → (decide (nI j = e) || decide (nI (cb_an L D (tg j).toNatClampNeg x) = tA j)) = true) → wX_fitsAllBut_2 post (nI x) e (nI L) (nI D) fc (nI T) fp da ta tg tA pc ip ps re sc ns (d + 1) (nI i) := by
  have h8 := ht.1
  intro d
  induction d with
  | zero =>
    intro i hi hj
    have e1 : i = T := by omega
    subst e1
    have hc : cb_ft L D i tg tA e x = true := (cb_al_iff _ _).mpr hj
    rw [if_pos hc] at hp
    exact br_t (nI_le (Nat.le_refl _) (by omega)) hp
  | succ d ih =>
    intro i hi hj
    refine br_f (nI_ge (by omega) (by omega)) (br_c (fun h => nm_r (nI_1 _) (ih (i + 1) (by omega) ?_)) (fun h => cb_xfits hz hs ht hx (show i < T by omega) (fun h2 => br_f (by decide) (nm_r (nI_1 _) (ih (i + 1) (by omega) ?_))) (fun h2 => br_t rfl ?_)))
    · intro j hj2
      by_cases e1 : j = i
      · subst e1; simp [h]
      · exact hj j (by omega)
    · intro j hj2
      by_cases e1 : j = i
      · subst e1; simp [h2]
      · exact hj j (by omega)
    · have hf : ¬ cb_ft L D T tg tA e x = true := by
        intro hc
        have := (cb_al_iff _ _).mp hc i (by omega)
        simp [h, h2] at this
      rw [if_neg hf] at hp
      exact hp
theorem cb_xfab {L D C T x : Nat} {e : Int32} {post : Int32 → Prop} (hz : cb_Sz L D C) (hs : cb_St L D C da ta) (ht : cb_To C T tg) (hx : x < C) (hp : post (if cb_ft L D T tg tA e x = true then 1 else 0)) : wpX_fitsAllBut post (nI L, nI D, fc, nI T, fp, da, ta, tg, tA, pc, ip, ps, re, sc, ns) (nI x) e :=
  ⟨T + 1, cb_xf2 hz hs ht hx hp T 0 (by omega) (fun j hj => absurd hj (Nat.not_lt_zero _))⟩
theorem cb_nb0 : vp_nar .boolean 0 = 0 := by decide
theorem cb_nb1 : vp_nar .boolean 1 = 1 := by decide
theorem cb_xfp7 {L D C T : Nat} {P : Nat → Bool} {post : SX → Prop} (hz : cb_Sz L D C) (hs : cb_St L D C da ta) (ht : cb_To C T tg) (hP : P = cb_ft L D T tg tA 8) (hp : ∀ pc ip, cb_Po C P pc ip → post (nI L, nI D, nI C, nI T, nI (cb_cn P C), da, ta, tg, tA, pc, ip, ps, re, sc, ns)) : ∀ d x pc ip, x + d = C → cb_Po x P pc ip → wX_findPossible_7 post (nI L) (nI D) (nI C) (nI T) (d + 1) (nI x) (nI (cb_cn P x)) da ta tg tA pc ip ps re sc ns := by
  have h7 := hz.2.2.2.2.2.2
  intro d
  induction d with
  | zero =>
    intro x pc ip hx hi
    have e1 : x = C := by omega
    subst e1
    exact br_t (nI_le (Nat.le_refl _) (by omega)) (hp pc ip hi)
  | succ d ih =>
    intro x pc ip hx hi
    have ex : (nI x).toNatClampNeg = x := nI_clamp (by omega)
    have c1 := cb_cn_le P x
    have ec : (nI (cb_cn P x)).toNatClampNeg = cb_cn P x := nI_clamp (by omega)
    refine br_f (nI_ge (by omega) (by omega)) (cb_xfab hz hs ht (show x < C by omega) ?_)
    rw [← hP, ex]
    by_cases hq : P x = true
    · rw [if_pos hq, cb_nb1]
      refine ⟨pk_in x 81 (by omega), nm_e ⟨pk_in x 81 (by omega), br_f ?_ ⟨pk_in (cb_cn P x) 81 (by omega), ?_⟩⟩⟩
      · rw [pk_us]; decide
      rw [ec]
      refine nm_e (nm_r (nI_1 _) (nm_r (nI_1 _) ?_))
      rw [← cb_cn_t hq]
      refine ih (x + 1) _ _ (by omega) ⟨?_, ?_⟩
      · intro y hy hy2
        by_cases e1 : y = x
        · subst e1; exact pk_us
        · rw [pk_un (by have := cb_cn_lt P (show y < x by omega) hy2; omega)]; exact hi.1 y (by omega) hy2
      · intro y hy
        by_cases e1 : y = x
        · subst e1; rw [if_pos hq]; exact pk_us
        · rw [pk_un e1]; exact hi.2 y (by omega)
    · rw [if_neg hq, cb_nb0]
      refine ⟨pk_in x 81 (by omega), nm_e ⟨pk_in x 81 (by omega), br_t pk_us (nm_r (nI_1 _) ?_)⟩⟩
      rw [← cb_cn_f hq]
      refine ih (x + 1) _ _ (by omega) ⟨?_, ?_⟩
      · intro y hy hy2
        by_cases e1 : y = x
        · subst e1; exact absurd hy2 hq
        · exact hi.1 y (by omega) hy2
      · intro y hy
        by_cases e1 : y = x
        · subst e1; rw [if_neg hq]; exact pk_us
        · rw [pk_un e1]; exact hi.2 y (by omega)
theorem cb_xfp {L D C T : Nat} {P : Nat → Bool} {post : SX → Prop} (hz : cb_Sz L D C) (hs : cb_St L D C da ta) (ht : cb_To C T tg) (hP : P = cb_ft L D T tg tA 8) (hp : ∀ pc ip, cb_Po C P pc ip → post (nI L, nI D, nI C, nI T, nI (cb_cn P C), da, ta, tg, tA, pc, ip, ps, re, sc, ns)) : wpX_findPossible post (nI L, nI D, nI C, nI T, fp, da, ta, tg, tA, pc, ip, ps, re, sc, ns) :=
  ⟨C + 1, cb_xfp7 hz hs ht hP hp C 0 pc ip (by omega) ⟨fun y hy => absurd hy (Nat.not_lt_zero _), fun y hy => absurd hy (Nat.not_lt_zero _)⟩⟩
end
