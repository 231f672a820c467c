/-! parts of the possible codes: sizes, count, greatest, squares -/
def cb_sz (L D C : Nat) (P : Nat → Bool) (g a : Nat) : Nat := cb_cn (fun x => P x && (cb_an L D g x == a)) C
def cb_mx (f : Nat → Nat) : Nat → Nat
  | 0 => 0
  | n + 1 => if f n ≤ cb_mx f n then cb_mx f n else f n
def cb_sq (f : Nat → Nat) : Nat → Nat
  | 0 => 0
  | n + 1 => cb_sq f n + f n * f n
theorem cb_mx_le {f : Nat → Nat} {b : Nat} (h : ∀ a, f a ≤ b) (n : Nat) : cb_mx f n ≤ b := by
  induction n with
  | zero => exact Nat.zero_le _
  | succ n ih =>
    show (if _ then _ else _) ≤ b
    by_cases e : f n ≤ cb_mx f n
    · rw [if_pos e]; exact ih
    · rw [if_neg e]; exact h n
theorem cb_sq_le {f : Nat → Nat} {b : Nat} (h : ∀ a, f a ≤ b) (n : Nat) : cb_sq f n ≤ n * (b * b) := by
  induction n with
  | zero => exact Nat.zero_le _
  | succ n ih =>
    show cb_sq f n + f n * f n ≤ _
    have := Nat.mul_le_mul (h n) (h n)
    rw [Nat.succ_mul]
    omega
theorem cb_mx_60 {f : Nat → Nat} (h : ∀ a, 45 ≤ a → f a = 0) : ∀ d, cb_mx f (45 + d) = cb_mx f 45 := by
  intro d
  induction d with
  | zero => rfl
  | succ d ih =>
    have e : f (45 + d) ≤ cb_mx f (45 + d) := by rw [h (45 + d) (by omega)]; exact Nat.zero_le _
    exact Eq.trans (if_pos e) ih
theorem cb_sq_60 {f : Nat → Nat} (h : ∀ a, 45 ≤ a → f a = 0) : ∀ d, cb_sq f (45 + d) = cb_sq f 45 := by
  intro d
  induction d with
  | zero => rfl
  | succ d ih =>
    show cb_sq f (45 + d) + f (45 + d) * f (45 + d) = _
    rw [h (45 + d) (by omega), ih, Nat.mul_zero, Nat.add_zero]
theorem cb_cn_60 {f : Nat → Nat} (h : ∀ a, 45 ≤ a → f a = 0) : ∀ d, cb_cn (fun a => decide (0 < f a)) (45 + d) = cb_cn (fun a => decide (0 < f a)) 45 := by
  intro d
  induction d with
  | zero => rfl
  | succ d ih =>
    rw [show 45 + (d + 1) = (45 + d) + 1 from rfl, cb_cn_f (by simp [h (45 + d) (by omega)])]
    exact ih
theorem cb_cn_0 {P : Nat → Bool} {n : Nat} (h : ∀ x, x < n → P x = false) : cb_cn P n = 0 := by
  induction n with
  | zero => rfl
  | succ n ih =>
    rw [cb_cn_f (by rw [h n (by omega)]; decide)]
    exact ih (fun x hx => h x (by omega))
theorem cb_sz_le (L D C : Nat) (P : Nat → Bool) (g a : Nat) : cb_sz L D C P g a ≤ C := cb_cn_le _ _
theorem cb_sz_0 {L D C : Nat} (hz : cb_Sz L D C) (P : Nat → Bool) {g : Nat} (hg : g < C) : ∀ a, 45 ≤ a → cb_sz L D C P g a = 0 := by
  obtain ⟨h1, h2, h3, h4, h5, h6, h7⟩ := hz
  intro a ha
  apply cb_cn_0
  intro x hx
  have := (cb_an_ck h1 h2 h3 h4 (h5 ▸ hg) (h5 ▸ hx)).1
  have e : ¬ cb_an L D g x = a := by omega
  simp [e]
theorem cb_an45 {L D C : Nat} (hz : cb_Sz L D C) {g s : Nat} (hg : g < C) (hs : s < C) : cb_an L D g s < 45 := by
  obtain ⟨h1, h2, h3, h4, h5, h6, h7⟩ := hz
  exact (cb_an_ck h1 h2 h3 h4 (h5 ▸ hg) (h5 ▸ hs)).1
theorem cb_an10 {L D C : Nat} (hz : cb_Sz L D C) {g s : Nat} (hg : g < C) (hs : s < C) : cb_an L D g s = 10 * L ↔ g = s := by
  obtain ⟨h1, h2, h3, h4, h5, h6, h7⟩ := hz
  exact (cb_an_ck h1 h2 h3 h4 (h5 ▸ hg) (h5 ▸ hs)).2
/-- the k-th possible code, as the class keeps it -/
def cb_K (pc : Nat → Int32) (k : Nat) : Nat := (pc k).toNatClampNeg
theorem cb_K_of {C : Nat} {P : Nat → Bool} {pc ip : Nat → Int32} (hC : C ≤ 81) (hi : cb_Po C P pc ip) {k : Nat} (hk : k < cb_cn P C) : pc k = nI (cb_K pc k) ∧ cb_K pc k < C ∧ P (cb_K pc k) = true ∧ cb_cn P (cb_K pc k) = k := by
  obtain ⟨x, a, b, c⟩ := cb_cn_inv P hk
  have e := hi.1 x a b
  rw [c] at e
  have e2 : cb_K pc k = x := by
    unfold cb_K
    rw [e]
    exact nI_clamp (by omega)
  rw [e2]
  exact ⟨e, a, b, c⟩
theorem cb_K_at {C : Nat} {P : Nat → Bool} {pc ip : Nat → Int32} (hC : C ≤ 81) (hi : cb_Po C P pc ip) {x : Nat} (hx : x < C) (h : P x = true) : cb_K pc (cb_cn P x) = x := by
  unfold cb_K
  rw [hi.1 x hx h]
  exact nI_clamp (by omega)
theorem cb_K_cn {C : Nat} {P : Nat → Bool} {pc ip : Nat → Int32} (hC : C ≤ 81) (hi : cb_Po C P pc ip) (Q : Nat → Bool) : ∀ n, n ≤ C → cb_cn (fun k => Q (cb_K pc k)) (cb_cn P n) = cb_cn (fun x => P x && Q x) n := by
  intro n
  induction n with
  | zero => intro _; rfl
  | succ n ih =>
    intro hn
    have e := ih (by omega)
    by_cases hp : P n = true
    · rw [cb_cn_t hp]
      have ek := cb_K_at hC hi (show n < C by omega) hp
      by_cases hq : Q n = true
      · rw [cb_cn_t (P := fun k => Q (cb_K pc k)) (by show Q (cb_K pc _) = true; rw [ek]; exact hq), cb_cn_t (P := fun x => P x && Q x) (by simp [hp, hq]), e]
      · rw [cb_cn_f (P := fun k => Q (cb_K pc k)) (by show ¬ Q (cb_K pc _) = true; rw [ek]; exact hq), cb_cn_f (P := fun x => P x && Q x) (by simp [hq]), e]
    · rw [cb_cn_f hp, cb_cn_f (P := fun x => P x && Q x) (by simp [hp]), e]
section
variable {fl fd fc ft fp : Int32} {da ta tg tA pc ip ps re sc ns : Nat → Int32}
theorem cb_xm23 {L D C g : Nat} {P : Nat → Bool} {post : SX → Prop} (hz : cb_Sz L D C) (hs : cb_St L D C da ta) (hi : cb_Po C P pc ip) (hg : g < C) (hp : ∀ ps, (∀ a, a < 45 → ps a = nI (cb_sz L D C P g a)) → post (nI L, nI D, fc, ft, nI (cb_cn P C), da, ta, tg, tA, pc, ip, ps, re, sc, ns)) : ∀ d i ps, i + d = cb_cn P C → (∀ a, a < 45 → ps a = nI (cb_cn (fun k => cb_an L D g (cb_K pc k) == a) i)) → wX_measureParts_23 post (nI g) (nI L) (nI D) fc ft (nI (cb_cn P C)) (d + 1) (nI i) da ta tg tA pc ip ps re sc ns := by
  have h7 := hz.2.2.2.2.2.2
  have c1 := cb_cn_le P C
  intro d
  induction d with
  | zero =>
    intro i ps hd hv
    have e1 : i = cb_cn P C := by omega
    subst e1
    refine br_t (nI_le (Nat.le_refl _) (by omega)) (hp ps (fun a ha => ?_))
    rw [hv a ha, cb_K_cn h7 hi (fun x => cb_an L D g x == a) C (Nat.le_refl _)]
    rfl
  | succ d ih =>
    intro i ps hd hv
    obtain ⟨k1, k2, k3, k4⟩ := cb_K_of h7 hi (show i < cb_cn P C by omega)
    have b1 := cb_an45 hz hg k2
    have er : (nI i).toNatClampNeg = i := nI_clamp (by omega)
    have ea : (nI (cb_an L D g (cb_K pc i))).toNatClampNeg = cb_an L D g (cb_K pc i) := nI_clamp (by omega)
    refine br_f (nI_ge (by omega) (by omega)) ⟨pk_in i 81 (by omega), ?_⟩
    rw [er, k1]
    refine cb_xans hz hs hg k2 ⟨pk_in (cb_an L D g (cb_K pc i)) 45 b1, pk_in (cb_an L D g (cb_K pc i)) 45 b1, ?_⟩
    rw [ea, hv _ b1]
    refine nm_e (nm_r (nI_1 _) (ih (i + 1) _ (by omega) ?_))
    intro a ha
    by_cases e1 : a = cb_an L D g (cb_K pc i)
    · rw [e1, pk_us, nI_1, cb_cn_t (P := fun k => cb_an L D g (cb_K pc k) == cb_an L D g (cb_K pc i)) (n := i) (by simp)]
    · rw [pk_un e1, cb_cn_f (P := fun k => cb_an L D g (cb_K pc k) == a) (n := i) (by simp; omega)]
      exact hv a ha
theorem cb_xm2 {L D C g : Nat} {P : Nat → Bool} {post : SX → Prop} (hz : cb_Sz L D C) (hs : cb_St L D C da ta) (hi : cb_Po C P pc ip) (hg : g < C) (hp : ∀ ps, (∀ a, a < 45 → ps a = nI (cb_sz L D C P g a)) → post (nI L, nI D, fc, ft, nI (cb_cn P C), da, ta, tg, tA, pc, ip, ps, re, sc, ns)) : ∀ d i ps, i + d = 45 → (∀ a, a < i → ps a = 0) → wX_measureParts_2 post (nI g) (nI L) (nI D) fc ft (nI (cb_cn P C)) (d + 1) (nI i) da ta tg tA pc ip ps re sc ns := by
  intro d
  induction d with
  | zero =>
    intro i ps hd hv
    have e1 : i = 45 := by omega
    subst e1
    exact br_t (by decide) ⟨cb_cn P C + 1, cb_xm23 hz hs hi hg hp (cb_cn P C) 0 ps (by omega) hv⟩
  | succ d ih =>
    intro i ps hd hv
    have er : (nI i).toNatClampNeg = i := nI_clamp (by omega)
    refine br_f (nI_ge (b := 45) (by omega) (by decide)) ⟨pk_in i 45 (by omega), ?_⟩
    rw [er]
    refine nm_e (nm_r (nI_1 _) (ih (i + 1) _ (by omega) ?_))
    intro a ha
    by_cases e1 : a = i
    · rw [e1, pk_us]
    · rw [pk_un e1]; exact hv a (by omega)
theorem cb_xmp {L D C g : Nat} {P : Nat → Bool} {post : SX → Prop} (hz : cb_Sz L D C) (hs : cb_St L D C da ta) (hi : cb_Po C P pc ip) (hg : g < C) (hp : ∀ ps, (∀ a, a < 45 → ps a = nI (cb_sz L D C P g a)) → post (nI L, nI D, fc, ft, nI (cb_cn P C), da, ta, tg, tA, pc, ip, ps, re, sc, ns)) : wpX_measureParts post (nI L, nI D, fc, ft, nI (cb_cn P C), da, ta, tg, tA, pc, ip, ps, re, sc, ns) (nI g) :=
  ⟨46, cb_xm2 hz hs hi hg hp 45 0 ps (by omega) (fun a ha => absurd ha (Nat.not_lt_zero _))⟩
theorem cb_xp19 {f : Nat → Nat} {post : Int32 → SX → Prop} (hb : ∀ a, f a ≤ 81) (hv : ∀ a, a < 45 → ps a = nI (f a)) (hp : post (nI (cb_cn (fun a => decide (0 < f a)) 45)) (fl, fd, fc, ft, fp, da, ta, tg, tA, pc, ip, ps, re, sc, ns)) : ∀ d i, i + d = 45 → wX_parts_19 post fl fd fc ft fp da ta tg tA pc ip ps re sc ns (d + 1) (nI (cb_cn (fun a => decide (0 < f a)) i)) (nI i) := by
  intro d
  induction d with
  | zero =>
    intro i hd
    have e1 : i = 45 := by omega
    subst e1
    exact br_t (by decide) hp
  | succ d ih =>
    intro i hd
    have er : (nI i).toNatClampNeg = i := nI_clamp (by omega)
    have hbi := hb i
    refine br_f (nI_ge (b := 45) (by omega) (by decide)) ⟨pk_in i 45 (by omega), ?_⟩
    rw [er, hv i (by omega)]
    refine pk_le (f i) 0 (fun h => nm_r (nI_1 _) ?_) (fun h => nm_r (nI_1 _) (nm_r (nI_1 _) ?_))
    · rw [← cb_cn_f (P := fun a => decide (0 < f a)) (n := i) (by simp; omega)]
      exact ih (i + 1) (by omega)
    · rw [← cb_cn_t (P := fun a => decide (0 < f a)) (n := i) (by simp; omega)]
      exact ih (i + 1) (by omega)
theorem cb_xg9 {f : Nat → Nat} {post : Int32 → SX → Prop} (hb : ∀ a, f a ≤ 81) (hv : ∀ a, a < 45 → ps a = nI (f a)) (hp : post (nI (cb_mx f 45)) (fl, fd, fc, ft, fp, da, ta, tg, tA, pc, ip, ps, re, sc, ns)) : ∀ d i, i + d = 45 → wX_greatestPart_9 post fl fd fc ft fp da ta tg tA pc ip ps re sc ns (d + 1) (nI (cb_mx f i)) (nI i) := by
  intro d
  induction d with
  | zero =>
    intro i hd
    have e1 : i = 45 := by omega
    subst e1
    exact br_t (by decide) hp
  | succ d ih =>
    intro i hd
    have er : (nI i).toNatClampNeg = i := nI_clamp (by omega)
    have hbi := hb i
    have hm := cb_mx_le hb i
    refine br_f (nI_ge (b := 45) (by omega) (by decide)) ⟨pk_in i 45 (by omega), ?_⟩
    rw [er, hv i (by omega)]
    refine pk_le (f i) (cb_mx f i) (fun h => nm_r (nI_1 _) ?_) (fun h => ⟨pk_in i 45 (by omega), nm_e (nm_r (nI_1 _) ?_)⟩)
    · have e1 : cb_mx f (i + 1) = cb_mx f i := if_pos h
      have := ih (i + 1) (by omega)
      rw [e1] at this
      exact this
    · have e1 : cb_mx f (i + 1) = f i := if_neg (by omega)
      have := ih (i + 1) (by omega)
      rw [e1] at this
      exact this
theorem cb_xs9 {f : Nat → Nat} {post : Int32 → SX → Prop} (hv : ∀ a, a < 45 → ps a = nI (f a)) (hp : post (nI (cb_sq f 45)) (fl, fd, fc, ft, fp, da, ta, tg, tA, pc, ip, ps, re, sc, ns)) : ∀ d i, i + d = 45 → wX_sumOfSquares_9 post fl fd fc ft fp da ta tg tA pc ip ps re sc ns (d + 1) (nI (cb_sq f i)) (nI i) := by
  intro d
  induction d with
  | zero =>
    intro i hd
    have e1 : i = 45 := by omega
    subst e1
    exact br_t (by decide) hp
  | succ d ih =>
    intro i hd
    have er : (nI i).toNatClampNeg = i := nI_clamp (by omega)
    refine br_f (nI_ge (b := 45) (by omega) (by decide)) ⟨pk_in i 45 (by omega), pk_in i 45 (by omega), ?_⟩
    rw [er, hv i (by omega)]
    refine nm_r (e' := nI (cb_sq f (i + 1))) ?_ (nm_r (nI_1 _) (ih (i + 1) (by omega)))
    rw [pk_mul, nI_add]
    rfl
theorem cb_xgp {L D C g : Nat} {P : Nat → Bool} {post : Int32 → SX → Prop} (hz : cb_Sz L D C) (hs : cb_St L D C da ta) (hi : cb_Po C P pc ip) (hg : g < C) (hp : ∀ ps, post (nI (cb_mx (cb_sz L D C P g) 45)) (nI L, nI D, fc, ft, nI (cb_cn P C), da, ta, tg, tA, pc, ip, ps, re, sc, ns)) : wpX_greatestPart post (nI L, nI D, fc, ft, nI (cb_cn P C), da, ta, tg, tA, pc, ip, ps, re, sc, ns) (nI g) :=
  cb_xmp hz hs hi hg (fun ps hv => ⟨46, cb_xg9 (fun a => Nat.le_trans (cb_sz_le _ _ _ _ _ _) hz.2.2.2.2.2.2) hv (hp ps) 45 0 (by omega)⟩)
theorem cb_xss {L D C g : Nat} {P : Nat → Bool} {post : Int32 → SX → Prop} (hz : cb_Sz L D C) (hs : cb_St L D C da ta) (hi : cb_Po C P pc ip) (hg : g < C) (hp : ∀ ps, post (nI (cb_sq (cb_sz L D C P g) 45)) (nI L, nI D, fc, ft, nI (cb_cn P C), da, ta, tg, tA, pc, ip, ps, re, sc, ns)) : wpX_sumOfSquares post (nI L, nI D, fc, ft, nI (cb_cn P C), da, ta, tg, tA, pc, ip, ps, re, sc, ns) (nI g) :=
  cb_xmp hz hs hi hg (fun ps hv => ⟨46, cb_xs9 hv (hp ps) 45 0 (by omega)⟩)
end
section
variable {yl yd yc yr yf : Int32} {yg ya yw ye yz yt : Nat → Int32}
theorem cb_ym23 {L D C T g : Nat} {P : Nat → Bool} {post : SY → Prop} (hz : cb_Sz L D C) (hy : cb_Sy L D C yt) (ht : cb_To C T yg) (hP : P = cb_ft L D T yg ya (-1)) (hg : g < C) (hp : ∀ yz, (∀ a, a < 60 → yz a = nI (cb_sz L D C P g a)) → post (yl, yd, nI C, nI T, yf, yg, ya, yw, ye, yz, yt)) : ∀ d x yz, x + d = C → (∀ a, a < 60 → yz a = nI (cb_cn (fun x => P x && (cb_an L D g x == a)) x)) → wY_part_23 post (nI g) yl yd (nI C) (nI T) yf (d + 1) (nI x) yg ya yw ye yz yt := by
  have h7 := hz.2.2.2.2.2.2
  intro d
  induction d with
  | zero =>
    intro x yz hd hv
    have e1 : x = C := by omega
    subst e1
    exact br_t (nI_le (Nat.le_refl _) (by omega)) (hp yz hv)
  | succ d ih =>
    intro x yz hd hv
    have hx : x < C := by omega
    have b1 := cb_an45 hz hg hx
    have ea : (nI (cb_an L D g x)).toNatClampNeg = cb_an L D g x := nI_clamp (by omega)
    refine br_f (nI_ge (by omega) (by omega)) (cb_yag hz hy ht hx ?_)
    rw [← hP]
    by_cases hq : P x = true
    · rw [if_pos hq]
      refine br_f (by decide) (cb_yans hz hy hg hx ⟨pk_in (cb_an L D g x) 60 (by omega), pk_in (cb_an L D g x) 60 (by omega), ?_⟩)
      rw [ea, hv _ (by omega)]
      refine nm_e (nm_r (nI_1 _) (ih (x + 1) _ (by omega) ?_))
      intro a ha
      by_cases e1 : a = cb_an L D g x
      · rw [e1, pk_us, nI_1, cb_cn_t (P := fun y => P y && (cb_an L D g y == cb_an L D g x)) (n := x) (by simp [hq])]
      · rw [pk_un e1, cb_cn_f (P := fun y => P y && (cb_an L D g y == a)) (n := x) (by simp; omega)]
        exact hv a ha
    · rw [if_neg hq]
      refine br_t rfl (nm_r (nI_1 _) (ih (x + 1) _ (by omega) ?_))
      intro a ha
      rw [cb_cn_f (P := fun y => P y && (cb_an L D g y == a)) (n := x) (by simp [hq])]
      exact hv a ha
theorem cb_ym2 {L D C T g : Nat} {P : Nat → Bool} {post : SY → Prop} (hz : cb_Sz L D C) (hy : cb_Sy L D C yt) (ht : cb_To C T yg) (hP : P = cb_ft L D T yg ya (-1)) (hg : g < C) (hp : ∀ yz, (∀ a, a < 60 → yz a = nI (cb_sz L D C P g a)) → post (yl, yd, nI C, nI T, yf, yg, ya, yw, ye, yz, yt)) : ∀ d i yz, i + d = 60 → (∀ a, a < i → yz a = 0) → wY_part_2 post (nI g) yl yd (nI C) (nI T) yf (d + 1) (nI i) yg ya yw ye yz yt := by
  intro d
  induction d with
  | zero =>
    intro i yz hd hv
    have e1 : i = 60 := by omega
    subst e1
    exact br_t (by decide) ⟨C + 1, cb_ym23 hz hy ht hP hg hp C 0 yz (by omega) hv⟩
  | succ d ih =>
    intro i yz hd hv
    have er : (nI i).toNatClampNeg = i := nI_clamp (by omega)
    refine br_f (nI_ge (b := 60) (by omega) (by decide)) ⟨pk_in i 60 (by omega), ?_⟩
    rw [er]
    refine nm_e (nm_r (nI_1 _) (ih (i + 1) _ (by omega) ?_))
    intro a ha
    by_cases e1 : a = i
    · rw [e1, pk_us]
    · rw [pk_un e1]; exact hv a (by omega)
theorem cb_ymp {L D C T g : Nat} {P : Nat → Bool} {post : SY → Prop} (hz : cb_Sz L D C) (hy : cb_Sy L D C yt) (ht : cb_To C T yg) (hP : P = cb_ft L D T yg ya (-1)) (hg : g < C) (hp : ∀ yz, (∀ a, a < 60 → yz a = nI (cb_sz L D C P g a)) → post (yl, yd, nI C, nI T, yf, yg, ya, yw, ye, yz, yt)) : wpY_part post (yl, yd, nI C, nI T, yf, yg, ya, yw, ye, yz, yt) (nI g) :=
  ⟨61, cb_ym2 hz hy ht hP hg hp 60 0 yz (by omega) (fun a ha => absurd ha (Nat.not_lt_zero _))⟩
theorem cb_yp19 {f : Nat → Nat} {post : Int32 → SY → Prop} (hb : ∀ a, f a ≤ 81) (hv : ∀ a, a < 60 → yz a = nI (f a)) (hp : post (nI (cb_cn (fun a => decide (0 < f a)) 60)) (yl, yd, yc, yr, yf, yg, ya, yw, ye, yz, yt)) : ∀ d i, i + d = 60 → wY_parts_19 post yl yd yc yr yf yg ya yw ye yz yt (d + 1) (nI (cb_cn (fun a => decide (0 < f a)) i)) (nI i) := by
  intro d
  induction d with
  | zero =>
    intro i hd
    have e1 : i = 60 := by omega
    subst e1
    exact br_t (by decide) hp
  | succ d ih =>
    intro i hd
    have er : (nI i).toNatClampNeg = i := nI_clamp (by omega)
    have hbi := hb i
    refine br_f (nI_ge (b := 60) (by omega) (by decide)) ⟨pk_in i 60 (by omega), ?_⟩
    rw [er, hv i (by omega)]
    refine pk_le (f i) 0 (fun h => nm_r (nI_1 _) ?_) (fun h => nm_r (nI_1 _) (nm_r (nI_1 _) ?_))
    · rw [← cb_cn_f (P := fun a => decide (0 < f a)) (n := i) (by simp; omega)]
      exact ih (i + 1) (by omega)
    · rw [← cb_cn_t (P := fun a => decide (0 < f a)) (n := i) (by simp; omega)]
      exact ih (i + 1) (by omega)
theorem cb_yg9 {f : Nat → Nat} {post : Int32 → SY → Prop} (hb : ∀ a, f a ≤ 81) (hv : ∀ a, a < 60 → yz a = nI (f a)) (hp : post (nI (cb_mx f 60)) (yl, yd, yc, yr, yf, yg, ya, yw, ye, yz, yt)) : ∀ d i, i + d = 60 → wY_worstOf_9 post yl yd yc yr yf yg ya yw ye yz yt (d + 1) (nI (cb_mx f i)) (nI i) := by
  intro d
  induction d with
  | zero =>
    intro i hd
    have e1 : i = 60 := by omega
    subst e1
    exact br_t (by decide) hp
  | succ d ih =>
    intro i hd
    have er : (nI i).toNatClampNeg = i := nI_clamp (by omega)
    have hbi := hb i
    have hm := cb_mx_le hb i
    refine br_f (nI_ge (b := 60) (by omega) (by decide)) ⟨pk_in i 60 (by omega), ?_⟩
    rw [er, hv i (by omega)]
    refine pk_le (f i) (cb_mx f i) (fun h => nm_r (nI_1 _) ?_) (fun h => ⟨pk_in i 60 (by omega), nm_e (nm_r (nI_1 _) ?_)⟩)
    · have e1 : cb_mx f (i + 1) = cb_mx f i := if_pos h
      have := ih (i + 1) (by omega)
      rw [e1] at this
      exact this
    · have e1 : cb_mx f (i + 1) = f i := if_neg (by omega)
      have := ih (i + 1) (by omega)
      rw [e1] at this
      exact this
theorem cb_ys9 {f : Nat → Nat} {post : Int32 → SY → Prop} (hv : ∀ a, a < 60 → yz a = nI (f a)) (hp : post (nI (cb_sq f 60)) (yl, yd, yc, yr, yf, yg, ya, yw, ye, yz, yt)) : ∀ d i, i + d = 60 → wY_weightOf_9 post yl yd yc yr yf yg ya yw ye yz yt (d + 1) (nI (cb_sq f i)) (nI i) := by
  intro d
  induction d with
  | zero =>
    intro i hd
    have e1 : i = 60 := by omega
    subst e1
    exact br_t (by decide) hp
  | succ d ih =>
    intro i hd
    have er : (nI i).toNatClampNeg = i := nI_clamp (by omega)
    refine br_f (nI_ge (b := 60) (by omega) (by decide)) ⟨pk_in i 60 (by omega), pk_in i 60 (by omega), ?_⟩
    rw [er, hv i (by omega)]
    refine nm_r (e' := nI (cb_sq f (i + 1))) ?_ (nm_r (nI_1 _) (ih (i + 1) (by omega)))
    rw [pk_mul, nI_add]
    rfl
theorem cb_ygp {L D C T g : Nat} {P : Nat → Bool} {post : Int32 → SY → Prop} (hz : cb_Sz L D C) (hy : cb_Sy L D C yt) (ht : cb_To C T yg) (hP : P = cb_ft L D T yg ya (-1)) (hg : g < C) (hp : ∀ yz, post (nI (cb_mx (cb_sz L D C P g) 45)) (yl, yd, nI C, nI T, yf, yg, ya, yw, ye, yz, yt)) : wpY_worstOf post (yl, yd, nI C, nI T, yf, yg, ya, yw, ye, yz, yt) (nI g) := by
  rw [← cb_mx_60 (cb_sz_0 hz P hg) 15] at hp
  exact cb_ymp hz hy ht hP hg (fun yz hv => ⟨61, cb_yg9 (fun a => Nat.le_trans (cb_sz_le _ _ _ _ _ _) hz.2.2.2.2.2.2) hv (hp yz) 60 0 (by omega)⟩)
theorem cb_yss {L D C T g : Nat} {P : Nat → Bool} {post : Int32 → SY → Prop} (hz : cb_Sz L D C) (hy : cb_Sy L D C yt) (ht : cb_To C T yg) (hP : P = cb_ft L D T yg ya (-1)) (hg : g < C) (hp : ∀ yz, post (nI (cb_sq (cb_sz L D C P g) 45)) (yl, yd, nI C, nI T, yf, yg, ya, yw, ye, yz, yt)) : wpY_weightOf post (yl, yd, nI C, nI T, yf, yg, ya, yw, ye, yz, yt) (nI g) := by
  rw [← cb_sq_60 (cb_sz_0 hz P hg) 15] at hp
  exact cb_ymp hz hy ht hP hg (fun yz hv => ⟨61, cb_ys9 hv (hp yz) 60 0 (by omega)⟩)
end
