/-! the reference: its table, its possible codes -/
def cb_Sy (L D C : Nat) (yt : Nat → Int32) : Prop := ∀ g s, g < C → s < C → yt (81 * g + s) = nI (cb_an L D g s)
abbrev cb_J6 : Type := Int32 → (Nat → Int32) → (Nat → Int32) → (Nat → Int32) → (Nat → Int32) → (Nat → Int32) → (Nat → Int32) → Prop
theorem cb_i81 (a b : Nat) : 81 * nI a + nI b = nI (81 * a + b) := by
  show nI 81 * nI a + nI b = _
  rw [pk_mul, nI_add]
section
variable {yl yd yc yr yf : Int32} {yg ya yw ye yz yt : Nat → Int32}
theorem cb_yd5 {L D C x i : Nat} {post : Int32 → Prop} (hz : cb_Sz L D C) (hx : x < C) (hi : i ≤ L) (hp : post (nI (cb_dg D x i))) : ∀ e k, k + e = i → wY_digitOf_5 post (nI i) yl (nI D) yc yr yf yg ya yw ye yz yt (e + 1) (nI (x / D ^ k)) (nI k) := by
  obtain ⟨h1, h2, h3, h4, h5, h6, h7⟩ := hz
  have hd0 : ¬ nI D = 0 := nI_ne0 (by omega) (by omega)
  intro e
  induction e with
  | zero =>
    intro k hk
    have e1 : k = i := by omega
    subst e1
    have hq : x / D ^ k ≤ x := Nat.div_le_self _ _
    refine br_t (nI_le (Nat.le_refl _) (by omega)) ⟨hd0, ?_⟩
    rw [pk_rem (by omega) (by omega) (by omega)]
    exact hp
  | succ e ih =>
    intro k hk
    have hq : x / D ^ k ≤ x := Nat.div_le_self _ _
    refine br_f (nI_ge (by omega) (by omega)) ⟨hd0, nm_r (e' := nI (x / D ^ (k + 1))) ?_ (nm_r (nI_1 _) (ih (k + 1) (by omega)))⟩
    rw [pk_div (by omega) (by omega) (by omega), Nat.div_div_eq_div_mul, Nat.pow_succ]
theorem cb_ydg {L D C x i : Nat} {post : Int32 → Prop} (hz : cb_Sz L D C) (hx : x < C) (hi : i ≤ L) (hp : post (nI (cb_dg D x i))) : wpY_digitOf post (yl, nI D, yc, yr, yf, yg, ya, yw, ye, yz, yt) (nI x) (nI i) := by
  have h := cb_yd5 (yl := yl) (yc := yc) (yr := yr) (yf := yf) (yg := yg) (ya := ya) (yw := yw) (ye := ye) (yz := yz) (yt := yt) hz hx hi hp i 0 (by omega)
  rw [Nat.pow_zero, Nat.div_one] at h
  exact ⟨i + 1, h⟩
theorem cb_ytm5 {L D C x d : Nat} {post : Int32 → Prop} (hz : cb_Sz L D C) (hx : x < C) (hd : d < D) (hp : post (nI (cb_tm L D x d))) : ∀ e k, k + e = L → wY_times_5 post (nI x) (nI d) (nI L) (nI D) yc yr yf yg ya yw ye yz yt (e + 1) (nI (cb_cn (fun i => cb_dg D x i == d) k)) (nI k) := by
  have hz' := hz
  obtain ⟨h1, h2, h3, h4, h5, h6, h7⟩ := hz
  intro e
  induction e with
  | zero =>
    intro k hk
    have e1 : k = L := by omega
    subst e1
    exact br_t (nI_le (Nat.le_refl _) (by omega)) hp
  | succ e ih =>
    intro k hk
    have b1 : cb_dg D x k < D := Nat.mod_lt _ (by omega)
    refine br_f (nI_ge (by omega) (by omega)) (cb_ydg hz' hx (by omega) (pk_eq (cb_dg D x k) d (fun h => nm_r (nI_1 _) (nm_r (nI_1 _) ?_)) (fun h => nm_r (nI_1 _) ?_)))
    · rw [← cb_cn_t (P := fun i => cb_dg D x i == d) (n := k) (by simp [h])]
      exact ih (k + 1) (by omega)
    · rw [← cb_cn_f (P := fun i => cb_dg D x i == d) (n := k) (by simp [h])]
      exact ih (k + 1) (by omega)
theorem cb_ytm {L D C x d : Nat} {post : Int32 → Prop} (hz : cb_Sz L D C) (hx : x < C) (hd : d < D) (hp : post (nI (cb_tm L D x d))) : wpY_times post (nI L, nI D, yc, yr, yf, yg, ya, yw, ye, yz, yt) (nI x) (nI d) :=
  ⟨L + 1, cb_ytm5 hz hx hd hp L 0 (by omega)⟩
theorem cb_yc51 {L D C g s m : Nat} {post : Int32 → Prop} (hz : cb_Sz L D C) (hg : g < C) (hh : s < C) (hp : post (nI (10 * m + cb_mi L D g s D - m))) : ∀ e d, d + e = D → wY_compare_51 post (nI g) (nI s) (nI m) (nI L) (nI D) yc yr yf yg ya yw ye yz yt (e + 1) (nI (cb_mi L D g s d)) (nI d) := by
  have hz' := hz
  obtain ⟨h1, h2, h3, h4, h5, h6, h7⟩ := hz
  intro e
  induction e with
  | zero =>
    intro d hd
    have e1 : d = D := by omega
    subst e1
    refine br_t (nI_le (Nat.le_refl _) (by omega)) ?_
    rw [cb_i10, pk_sub (by omega)]
    exact hp
  | succ e ih =>
    intro d hd
    have t1 := cb_tm_le L D g d
    have t2 := cb_tm_le L D s d
    refine br_f (nI_ge (by omega) (by omega)) (cb_ytm hz' hg (by omega) (cb_ytm hz' hh (by omega) (pk_le (cb_tm L D s d) (cb_tm L D g d) (fun h => nm_r (nI_add _ _) (nm_r (nI_1 _) ?_)) (fun h => nm_r (nI_add _ _) (nm_r (nI_1 _) ?_)))))
    · have e1 : cb_mi L D g s (d + 1) = cb_mi L D g s d + cb_tm L D s d := by
        show cb_mi L D g s d + (if _ then _ else _) = _
        rw [if_pos h]
      rw [← e1]
      exact ih (d + 1) (by omega)
    · have e1 : cb_mi L D g s (d + 1) = cb_mi L D g s d + cb_tm L D g d := by
        show cb_mi L D g s d + (if _ then _ else _) = _
        rw [if_neg (by omega)]
      rw [← e1]
      exact ih (d + 1) (by omega)
theorem cb_yc5 {L D C g s : Nat} {post : Int32 → Prop} (hz : cb_Sz L D C) (hg : g < C) (hh : s < C) (hp : post (nI (cb_an L D g s))) : ∀ e k, k + e = L → wY_compare_5 post (nI g) (nI s) (nI L) (nI D) yc yr yf yg ya yw ye yz yt (e + 1) (nI (cb_cn (cb_q D g s) k)) (nI k) := by
  have hz' := hz
  obtain ⟨h1, h2, h3, h4, h5, h6, h7⟩ := hz
  intro e
  induction e with
  | zero =>
    intro k hk
    have e1 : k = L := by omega
    subst e1
    exact br_t (nI_le (Nat.le_refl _) (by omega)) ⟨D + 1, cb_yc51 hz' hg hh hp D 0 (by omega)⟩
  | succ e ih =>
    intro k hk
    have b1 : cb_dg D g k < D := Nat.mod_lt _ (by omega)
    have b2 : cb_dg D s k < D := Nat.mod_lt _ (by omega)
    refine br_f (nI_ge (by omega) (by omega)) (cb_ydg hz' hg (by omega) (cb_ydg hz' hh (by omega) (pk_eq (cb_dg D g k) (cb_dg D s k) (fun h => nm_r (nI_1 _) (nm_r (nI_1 _) ?_)) (fun h => nm_r (nI_1 _) ?_))))
    · rw [← cb_cn_t (P := cb_q D g s) (n := k) (by simp [cb_q, h])]
      exact ih (k + 1) (by omega)
    · rw [← cb_cn_f (P := cb_q D g s) (n := k) (by simp [cb_q, h])]
      exact ih (k + 1) (by omega)
theorem cb_ycm {L D C g s : Nat} {post : Int32 → Prop} (hz : cb_Sz L D C) (hg : g < C) (hh : s < C) (hp : post (nI (cb_an L D g s))) : wpY_compare post (nI L, nI D, yc, yr, yf, yg, ya, yw, ye, yz, yt) (nI g) (nI s) :=
  ⟨L + 1, cb_yc5 hz hg hh hp L 0 (by omega)⟩
theorem cb_yi135 {L D C : Nat} {post : SY → Prop} (hz : cb_Sz L D C) (hp : ∀ yt, cb_Sy L D C yt → post (nI L, nI D, nI C, yr, yf, yg, ya, yw, ye, yz, yt)) : ∀ e n yt, n + e = C * C → (∀ m, m < n → yt (m / C * 81 + m % C) = nI (cb_an L D (m / C) (m % C))) → wY_init_135 post (nI L) (nI D) (nI C) yr yf (e + 1) (nI n) yg ya yw ye yz yt := by
  have hz' := hz
  obtain ⟨h1, h2, h3, h4, h5, h6, h7⟩ := hz
  have hcc : C * C ≤ 81 * 81 := Nat.mul_le_mul h7 h7
  have ecc : nI C * nI C = nI (C * C) := pk_mul _ _
  have hc0 : ¬ nI C = 0 := nI_ne0 (by omega) (by omega)
  intro e
  induction e with
  | zero =>
    intro n yt hn hi
    have e1 : n = C * C := by omega
    subst e1
    refine br_t ?_ (hp yt ?_)
    · rw [ecc]; exact nI_le (Nat.le_refl _) (by omega)
    · intro g s hg hs
      have hm : g * C + s < C * C := by
        have : (g + 1) * C ≤ C * C := Nat.mul_le_mul_right C hg
        rw [Nat.succ_mul] at this
        omega
      have h := hi (g * C + s) hm
      have q1 : (g * C + s) / C = g := by
        rw [Nat.mul_comm, Nat.mul_add_div (by omega), Nat.div_eq_of_lt hs, Nat.add_zero]
      have q2 : (g * C + s) % C = s := by
        rw [Nat.mul_comm, Nat.mul_add_mod, Nat.mod_eq_of_lt hs]
      rw [q1, q2, Nat.mul_comm] at h
      exact h
  | succ e ih =>
    intro n yt hn hi
    have d1 : n / C < C := Nat.div_lt_of_lt_mul (by omega)
    have d2 : n % C < C := Nat.mod_lt _ (by omega)
    have e81 : nI (n / C) * 81 + nI (n % C) = nI (n / C * 81 + n % C) := by
      show nI (n / C) * nI 81 + nI (n % C) = _
      rw [pk_mul, nI_add]
    have ediv : nI n / nI C = nI (n / C) := pk_div (by omega) (by omega) (by omega)
    have erem : nI n - nI n / nI C * nI C = nI (n % C) := pk_rem (by omega) (by omega) (by omega)
    refine br_f ?_ ⟨hc0, hc0, hc0, hc0, ?_⟩
    · rw [ecc]; exact nI_ge (by omega) (by omega)
    rw [erem, ediv]
    refine cb_ycm hz' d1 d2 ⟨pk_in _ 6561 (by omega) e81, nm_r (e' := upd yt (n / C * 81 + n % C) (nI (cb_an L D (n / C) (n % C)))) ?_ (nm_r (nI_1 _) (ih (n + 1) _ (by omega) ?_))⟩
    · rw [e81, nI_clamp (by omega)]
    · intro m hm
      have d3 : m % C < C := Nat.mod_lt _ (by omega)
      by_cases e1 : m = n
      · subst e1; exact pk_us
      · rw [pk_un ?_]
        · exact hi m (by omega)
        · intro hc
          have a1 : m / C = n / C := by omega
          have a2 : m % C = n % C := by omega
          apply e1
          rw [← Nat.div_add_mod m C, ← Nat.div_add_mod n C, a1, a2]
theorem cb_yi105 {L D C : Nat} {post : SY → Prop} (hz : cb_Sz L D C) (hp : ∀ yt, cb_Sy L D C yt → post (nI L, nI D, nI C, yr, yf, yg, ya, yw, ye, yz, yt)) : ∀ e i, i + e = L → wY_init_105 post (nI L) (nI D) yc yr yf yg ya yw ye yz yt (e + 1) (nI (D ^ i)) (nI i) := by
  have hz' := hz
  obtain ⟨h1, h2, h3, h4, h5, h6, h7⟩ := hz
  intro e
  induction e with
  | zero =>
    intro i hi
    have e1 : i = L := by omega
    subst e1
    rw [← h5]
    exact br_t (nI_le (Nat.le_refl _) (by omega)) ⟨C * C + 1, cb_yi135 hz' hp (C * C) 0 yt (by omega) (fun m hm => absurd hm (Nat.not_lt_zero _))⟩
  | succ e ih =>
    intro i hi
    exact br_f (nI_ge (by omega) (by omega)) (nm_r ((pk_mul _ _).trans (congrArg nI (Nat.pow_succ (n := D) (m := i)).symm)) (nm_r (nI_1 _) (ih (i + 1) (by omega))))
theorem cb_yi74 {k1 : Int32} {L D C : Nat} {post : SY → Prop} (hz : cb_Sz L D C) (h : cb_Cl k1 3 D) (hp : ∀ yt, cb_Sy L D C yt → post (nI L, nI D, nI C, yr, yf, yg, ya, yw, ye, yz, yt)) : wY_init_74 post k1 (nI L) yl yd yc yr yf yg ya yw ye yz yt := by
  have g : ∃ n, wY_init_105 post (nI L) (nI D) yc yr yf yg ya yw ye yz yt n 1 0 := ⟨L + 1, cb_yi105 hz hp L 0 (by omega)⟩
  obtain ⟨_, _, ⟨a, b, e⟩ | ⟨a, b, e⟩ | ⟨a, e⟩⟩ := h
  · rw [e] at a b ⊢; exact br_t a (br_t b g)
  · subst e; exact br_t a (br_f b g)
  · subst e; exact br_f a g
end
theorem cb_yinit {post : SY → Prop} {k0 k1 : Int32} {L D : Nat} (h0 : cb_Cl k0 4 L) (h1 : cb_Cl k1 3 D) (hp : ∀ yt, cb_Sy L D (D ^ L) yt → post (nI L, nI D, nI (D ^ L), nI 0, nI 0, (fun _ => 0), (fun _ => 0), (fun _ => 0), (fun _ => 0), (fun _ => 0), yt)) : wpY_init post k0 k1 := by
  have hz := cb_Sz_of h0 h1
  have g : wY_init_74 post k1 (nI L) 0 0 0 0 0 (fun _ => 0) (fun _ => 0) (fun _ => 0) (fun _ => 0) (fun _ => 0) (fun _ => 0) := cb_yi74 hz h1 hp
  obtain ⟨_, _, ⟨a, b, e⟩ | ⟨a, b, e⟩ | ⟨a, e⟩⟩ := h0
  · rw [e] at a b ⊢; exact br_t a (br_t b g)
  · subst e; exact br_t a (br_f b g)
  · subst e; exact br_f a g
section
variable {yl yd yc yr yf : Int32} {yg ya yw ye yz yt : Nat → Int32}
theorem cb_yans {L D C g s : Nat} {post : Int32 → Prop} (hz : cb_Sz L D C) (hy : cb_Sy L D C yt) (hg : g < C) (hs : s < C) (hp : post (nI (cb_an L D g s))) : wpY_answerTo post (yl, yd, yc, yr, yf, yg, ya, yw, ye, yz, yt) (nI g) (nI s) := by
  have h7 := hz.2.2.2.2.2.2
  refine ⟨pk_in _ 6561 (by omega) (cb_i81 g s), ?_⟩
  rw [cb_i81, nI_clamp (by omega), hy g s hg hs]
  exact hp
theorem cb_yag2 {L D C T x : Nat} {e : Int32} {post : Int32 → Prop} (hz : cb_Sz L D C) (hy : cb_Sy L D C yt) (ht : cb_To C T yg) (hx : x < C) (hp : post (if cb_ft L D T yg ya e x = true then 1 else 0)) : ∀ d i, i + d = T → (∀ j, j < i → (decide (nI j = e) || decide (nI (cb_an L D (yg j).toNatClampNeg x) = ya j)) = true) → wY_agrees_2 post (nI x) e yl yd yc (nI T) yf yg ya yw ye yz yt (d + 1) (nI i) := by
  have h8 := ht.1
  have h7 := hz.2.2.2.2.2.2
  intro d
  induction d with
  | zero =>
    intro i hi hj
    have e1 : i = T := by omega
    subst e1
    have hc : cb_ft L D i yg ya e x = true := (cb_al_iff _ _).mpr hj
    rw [if_pos hc] at hp
    exact br_t (nI_le (Nat.le_refl _) (by omega)) hp
  | succ d ih =>
    intro i hi hj
    obtain ⟨q, hq, eq⟩ := ht.2 i (by omega)
    have er : (nI i).toNatClampNeg = i := nI_clamp (by omega)
    have eq2 : (yg i).toNatClampNeg = q := by rw [eq]; exact nI_clamp (by omega)
    refine br_f (nI_ge (by omega) (by omega)) (br_c (fun h => nm_r (nI_1 _) (ih (i + 1) (by omega) ?_)) (fun h => ⟨pk_in i 8 (by omega), ?_⟩))
    · intro j hj2
      by_cases e1 : j = i
      · subst e1; simp [h]
      · exact hj j (by omega)
    rw [er, eq]
    refine cb_yans hz hy hq hx ⟨pk_in i 8 (by omega), br_c (fun h2 => nm_r (nI_1 _) (ih (i + 1) (by omega) ?_)) (fun h2 => ?_)⟩
    · intro j hj2
      by_cases e1 : j = i
      · subst e1; simp [eq2, h2]
      · exact hj j (by omega)
    · have hf : ¬ cb_ft L D T yg ya e x = true := by
        intro hc
        have := (cb_al_iff _ _).mp hc i (by omega)
        simp [h, eq2, h2] at this
      rw [if_neg hf] at hp
      exact hp
theorem cb_yag {L D C T x : Nat} {e : Int32} {post : Int32 → Prop} (hz : cb_Sz L D C) (hy : cb_Sy L D C yt) (ht : cb_To C T yg) (hx : x < C) (hp : post (if cb_ft L D T yg ya e x = true then 1 else 0)) : wpY_agrees post (yl, yd, yc, nI T, yf, yg, ya, yw, ye, yz, yt) (nI x) e :=
  ⟨T + 1, cb_yag2 hz hy ht hx hp T 0 (by omega) (fun j hj => absurd hj (Nat.not_lt_zero _))⟩
theorem cb_ycp4 {L D C T : Nat} {e : Int32} {post : Int32 → Prop} (hz : cb_Sz L D C) (hy : cb_Sy L D C yt) (ht : cb_To C T yg) (hp : post (nI (cb_cn (cb_ft L D T yg ya e) C))) : ∀ d x, x + d = C → wY_countPossible_4 post e yl yd (nI C) (nI T) yf yg ya yw ye yz yt (d + 1) (nI (cb_cn (cb_ft L D T yg ya e) x)) (nI x) := by
  have h7 := hz.2.2.2.2.2.2
  intro d
  induction d with
  | zero =>
    intro x hx
    have e1 : x = C := by omega
    subst e1
    exact br_t (nI_le (Nat.le_refl _) (by omega)) hp
  | succ d ih =>
    intro x hx
    refine br_f (nI_ge (by omega) (by omega)) (cb_yag hz hy ht (show x < C by omega) ?_)
    by_cases hq : cb_ft L D T yg ya e x = true
    · rw [if_pos hq]
      refine br_f (by decide) (nm_r (nI_1 _) (nm_r (nI_1 _) ?_))
      rw [← cb_cn_t hq]
      exact ih (x + 1) (by omega)
    · rw [if_neg hq]
      refine br_t rfl (nm_r (nI_1 _) ?_)
      rw [← cb_cn_f hq]
      exact ih (x + 1) (by omega)
theorem cb_ycp {L D C T : Nat} {e : Int32} {post : Int32 → Prop} (hz : cb_Sz L D C) (hy : cb_Sy L D C yt) (ht : cb_To C T yg) (hp : post (nI (cb_cn (cb_ft L D T yg ya e) C))) : wpY_countPossible post (yl, yd, nI C, nI T, yf, yg, ya, yw, ye, yz, yt) e :=
  ⟨C + 1, cb_ycp4 hz hy ht hp C 0 (by omega)⟩
theorem cb_ft8 {L D T : Nat} {ga aa : Nat → Int32} (hT : T ≤ 8) : cb_ft L D T ga aa (-1) = cb_ft L D T ga aa 8 := by
  funext x
  rw [Bool.eq_iff_iff]
  unfold cb_ft
  rw [cb_al_iff, cb_al_iff]
  have n1 : ∀ i, i < 8 → ¬ nI i = -1 := by decide +kernel
  have n8 : ∀ i, i < 8 → ¬ nI i = 8 := by decide +kernel
  constructor
  · intro h i hi
    have := h i hi
    simp only [n1 i (by omega), n8 i (by omega)] at this ⊢
    exact this
  · intro h i hi
    have := h i hi
    simp only [n1 i (by omega), n8 i (by omega)] at this ⊢
    exact this
end
