/-! the reference: needs -/
section
variable {yl yd yc yr yf : Int32} {yg ya yw ye yz yt : Nat → Int32}
theorem cb_yp6 {L D C M g r a : Nat} {K : Nat → Nat} {post : Int32 → Prop} (hz : cb_Sz L D C) (hy : cb_Sy L D C yt) (hK : cb_Kg C M K) (hv : cb_Kv M K yw) (hM : M ≤ 8) (hg : g < C) (hr : r < 256) (ha : a < 45) (hp : post (nI (cb_mk (fun j => r.testBit j && (cb_an L D g (K j) == a)) M))) : ∀ d i, i + d = M → wY_partOf_6 post (nI r) (nI g) (nI a) yl yd yc yr (nI M) yg ya yw ye yz yt (d + 1) (nI (cb_mk (fun j => r.testBit j && (cb_an L D g (K j) == a)) i)) (nI i) := by
  intro d
  induction d with
  | zero =>
    intro i hd
    have e1 : i = M := by omega
    subst e1
    exact br_t (nI_le (Nat.le_refl _) (by omega)) hp
  | succ d ih =>
    intro i hd
    have er : (nI i).toNatClampNeg = i := nI_clamp (by omega)
    have hk := hK.1 i (by omega)
    have h45 := cb_an45 hz hg hk
    have no : ¬ (r.testBit i && (cb_an L D g (K i) == a)) = true → wY_partOf_45 post (wY_partOf_6 post (nI r) (nI g) (nI a) yl yd yc yr (nI M) yg ya yw ye yz yt (d + 1)) (nI r) (nI g) (nI a) (nI (cb_mk (fun j => r.testBit j && (cb_an L D g (K j) == a)) i)) (nI i) yl yd yc yr (nI M) yg ya yw ye yz yt := by
      intro h
      refine br_t rfl (nm_r (nI_1 _) ?_)
      rw [← cb_mk_f (f := fun j => r.testBit j && (cb_an L D g (K j) == a)) (n := i) h]
      exact ih (i + 1) (by omega)
    refine br_f (nI_ge (by omega) (by omega)) (br_c (fun h => ⟨pk_in i 8 (by omega), ?_⟩) (fun h => no (fun z => h ((cb_bit1 hr (by omega)).mpr ((Bool.and_eq_true _ _).mp z).1))))
    have hbit := (cb_bit1 hr (by omega)).mp h
    rw [er, hv i (by omega)]
    refine cb_yans hz hy hg hk (pk_eq (cb_an L D g (K i)) a (fun h2 => br_f (by decide) (nm_r (e' := nI (cb_mk (fun j => r.testBit j && (cb_an L D g (K j) == a)) (i + 1))) ?_ (nm_r (nI_1 _) (ih (i + 1) (by omega))))) (fun h2 => no (by simp [h2])))
    rw [cb_shl (by omega), cb_or, cb_mk_t (f := fun j => r.testBit j && (cb_an L D g (K j) == a)) (n := i) (by simp [hbit, h2])]
theorem cb_yi2 {C M s g : Nat} {K : Nat → Nat} {post : Int32 → Prop} (hC : C ≤ 81) (hK : cb_Kg C M K) (hv : cb_Kv M K yw) (hM : M ≤ 8) (hg : g < C) (hs : s < 256) (hp : post (if cb_ex (fun k => s.testBit k && (K k == g)) M = true then 1 else 0)) : ∀ d i, i + d = M → (∀ k, k < i → ¬ (s.testBit k && (K k == g)) = true) → wY_isIn_2 post (nI s) (nI g) yl yd yc yr (nI M) yg ya yw ye yz yt (d + 1) (nI i) := by
  intro d
  induction d with
  | zero =>
    intro i hd hn
    have e1 : i = M := by omega
    subst e1
    rw [if_neg (fun hc => by obtain ⟨y, a, b⟩ := (cb_ex_iff _ _).mp hc; exact hn y a b)] at hp
    exact br_t (nI_le (Nat.le_refl _) (by omega)) hp
  | succ d ih =>
    intro i hd hn
    have er : (nI i).toNatClampNeg = i := nI_clamp (by omega)
    have hk := hK.1 i (by omega)
    have nx : ¬ (s.testBit i && (K i == g)) = true → wY_isIn_2 post (nI s) (nI g) yl yd yc yr (nI M) yg ya yw ye yz yt (d + 1) (nI (i + 1)) := by
      intro hq
      refine ih (i + 1) (by omega) ?_
      intro y hy
      by_cases e1 : y = i
      · rw [e1]; exact hq
      · exact hn y (by omega)
    refine br_f (nI_ge (by omega) (by omega)) (br_c (fun h => ⟨pk_in i 8 (by omega), ?_⟩) (fun h => nm_r (nI_1 _) (nx (fun z => h ((cb_bit1 hs (by omega)).mpr ((Bool.and_eq_true _ _).mp z).1)))))
    have hbit := (cb_bit1 hs (by omega)).mp h
    rw [er, hv i (by omega)]
    refine pk_eq (K i) g (fun h2 => ?_) (fun h2 => nm_r (nI_1 _) (nx (by simp [h2])))
    rw [if_pos ((cb_ex_iff _ _).mpr ⟨i, by omega, by simp [hbit, h2]⟩)] at hp
    exact hp
/-- the set r is what is left of s when some whole parts, all good, are gone -/
def cb_Lr (L D C : Nat) (K : Nat → Nat) (M : Nat) (kb : Bool) (m g s r : Nat) : Prop := (∀ k, r.testBit k = true → s.testBit k = true) ∧ (∀ k j, k < M → j < M → cb_an L D g (K k) = cb_an L D g (K j) → s.testBit j = true → r.testBit k = true → r.testBit j = true) ∧ (∀ k, k < M → s.testBit k = true → ¬ r.testBit k = true → g = K k ∨ cb_V L D C K M kb (cb_cl L D K M g (cb_an L D g (K k)) &&& s) ≤ m)
theorem cb_pt_eq {L D C M g s r i m : Nat} {K : Nat → Nat} {kb : Bool} (hi : i < M) (hl : cb_Lr L D C K M kb m g s r) (hb : r.testBit i = true) : cb_mk (fun j => r.testBit j && (cb_an L D g (K j) == cb_an L D g (K i))) M = cb_cl L D K M g (cb_an L D g (K i)) &&& s := by
  apply Nat.eq_of_testBit_eq
  intro j
  unfold cb_cl
  rw [Nat.testBit_and, cb_mk_bit, cb_mk_bit]
  by_cases hj : j < M
  · by_cases he : cb_an L D g (K j) = cb_an L D g (K i)
    · have e : r.testBit j = s.testBit j := by
        rw [Bool.eq_iff_iff]
        exact ⟨hl.1 j, fun h => hl.2.1 i j hi hj he.symm h hb⟩
      simp [hj, he, e]
    · have hb2 : (cb_an L D g (K j) == cb_an L D g (K i)) = false := beq_eq_false_iff_ne.mpr he
      simp [hb2]
  · simp [hj]
theorem cb_xb {r p j : Nat} : (r ^^^ (r &&& p)).testBit j = (r.testBit j && !p.testBit j) := by
  rw [Nat.testBit_xor, Nat.testBit_and]
  cases r.testBit j <;> cases p.testBit j <;> rfl
theorem cb_xlt {r p i : Nat} (h : r.testBit i = true) (hp : p.testBit i = true) : r ^^^ (r &&& p) < r := by
  have e : (r ^^^ (r &&& p)) &&& r = r ^^^ (r &&& p) := by
    apply Nat.eq_of_testBit_eq
    intro j
    rw [Nat.testBit_and, cb_xb]
    cases r.testBit j <;> cases p.testBit j <;> rfl
  have h1 : (r ^^^ (r &&& p)) &&& r ≤ r := Nat.and_le_right
  rw [e] at h1
  have h2 : ¬ r ^^^ (r &&& p) = r := by
    intro z
    have : (r ^^^ (r &&& p)).testBit i = true := by rw [z]; exact h
    rw [cb_xb, h, hp] at this
    exact absurd this (by decide)
  omega
theorem cb_Lr_next {L D C M g s r i m p : Nat} {K : Nat → Nat} {kb : Bool} (hz : cb_Sz L D C) (hK : cb_Kg C M K) (hg : g < C) (hi : i < M) (hl : cb_Lr L D C K M kb m g s r) (hb : r.testBit i = true) (hp : p = cb_cl L D K M g (cb_an L D g (K i)) &&& s) (hok : g = K i ∨ cb_V L D C K M kb p ≤ m) : cb_Lr L D C K M kb m g s (r ^^^ (r &&& p)) ∧ r ^^^ (r &&& p) < r := by
  have pb : ∀ j, j < M → p.testBit j = ((cb_an L D g (K j) == cb_an L D g (K i)) && s.testBit j) := by
    intro j hj
    rw [hp]
    unfold cb_cl
    rw [Nat.testBit_and, cb_mk_bit]
    simp [hj]
  refine ⟨⟨?_, ?_, ?_⟩, cb_xlt hb (by rw [pb i hi, hl.1 i hb]; simp)⟩
  · intro k h
    rw [cb_xb, Bool.and_eq_true] at h
    exact hl.1 k h.1
  · intro k j hk hj he hsj h
    rw [cb_xb, pb k hk, Bool.and_eq_true] at h
    rw [cb_xb, pb j hj, hl.2.1 k j hk hj he hsj h.1, ← he]
    have hsk := hl.1 k h.1
    have h2 := h.2
    rw [hsk] at h2
    rw [hsj]
    exact h2
  · intro k hk hsk h
    by_cases hr : r.testBit k = true
    · rw [cb_xb, hr, pb k hk, hsk] at h
      have he : cb_an L D g (K k) = cb_an L D g (K i) := by
        refine Classical.byContradiction (fun hc => h ?_)
        simp [hc]
      rcases hok with ho | ho
      · refine Or.inl ((cb_an10 hz hg (hK.1 k hk)).mp ?_)
        rw [he]
        exact (cb_an10 hz hg (hK.1 i hi)).mpr ho
      · rw [he, ← hp]
        exact Or.inr ho
    · exact hl.2.2 k hk hsk hr
theorem cb_yl11 {L D C M g m r : Nat} {K : Nat → Nat} {x3 : Int32} {post : Int32 → Prop} {J3 : Int32 → Prop} (hz : cb_Sz L D C) (hy : cb_Sy L D C yt) (hK : cb_Kg C M K) (hv : cb_Kv M K yw) (hM : M ≤ 8) (hg : g < C) (hr : r < 256) (k0 : Nat) (hk0 : k0 < M) (hb0 : r.testBit k0 = true) (hx : x3 = nI m) (hJ : ∀ i, i < M → r.testBit i = true → (g = K i → J3 (nI (r ^^^ (r &&& cb_mk (fun j => r.testBit j && (cb_an L D g (K j) == cb_an L D g (K i))) M)))) ∧ (¬ g = K i → vp_in (nI (cb_mk (fun j => r.testBit j && (cb_an L D g (K j) == cb_an L D g (K i))) M)) 256 ∧ ((ye (cb_mk (fun j => r.testBit j && (cb_an L D g (K j) == cb_an L D g (K i))) M) ≤ nI m → J3 (nI (r ^^^ (r &&& cb_mk (fun j => r.testBit j && (cb_an L D g (K j) == cb_an L D g (K i))) M)))) ∧ (¬ ye (cb_mk (fun j => r.testBit j && (cb_an L D g (K j) == cb_an L D g (K i))) M) ≤ nI m → post 0)))) : ∀ d i, i + d = k0 → wY_leaves_11 post J3 (nI g) x3 (nI r) (nI L) yd yc yr (nI M) yg ya yw ye yz yt (d + 1) (nI i) := by
  subst hx
  have h7 := hz.2.1
  intro d
  have body : ∀ i n, i < M → r.testBit i = true → wY_leaves_11 post J3 (nI g) (nI m) (nI r) (nI L) yd yc yr (nI M) yg ya yw ye yz yt (n + 1) (nI i) := by
    intro i n hi hb
    have er : (nI i).toNatClampNeg = i := nI_clamp (by omega)
    have hk := hK.1 i hi
    have h45 := cb_an45 hz hg hk
    have hml := cb_mk_lt (fun j => r.testBit j && (cb_an L D g (K j) == cb_an L D g (K i))) M
    have h256 := cb_p8 hM
    refine br_f (fun z => (cb_bit0 hr (by omega)).mp z hb) ⟨pk_in i 8 (by omega), ?_⟩
    rw [er, hv i hi]
    refine cb_yans hz hy hg hk ⟨M + 1, cb_yp6 hz hy hK hv hM hg hr h45 ?_ M 0 (by omega)⟩
    rw [cb_anN, nI_clamp (by omega), show (10 : Int32) * nI L = nI (10 * L) from pk_mul 10 L]
    obtain ⟨j1, j2⟩ := hJ i hi hb
    refine pk_eq (cb_an L D g (K i)) (10 * L) (fun h => nm_e (j1 ((cb_an10 hz hg hk).mp h))) (fun h => ?_)
    obtain ⟨j3, j4, j5⟩ := j2 (fun z => h ((cb_an10 hz hg hk).mpr z))
    exact ⟨j3, br_c (fun z => nm_e (j4 z)) j5⟩
  induction d with
  | zero =>
    intro i hd
    have e1 : i = k0 := by omega
    subst e1
    exact body i 0 hk0 hb0
  | succ d ih =>
    intro i hd
    by_cases hb : r.testBit i = true
    · exact body i (d + 1) (by omega) hb
    · exact br_t ((cb_bit0 hr (by omega)).mpr hb) (nm_r (nI_1 _) (ih (i + 1) (by omega)))
theorem cb_yl3 {L D C M g m s : Nat} {K : Nat → Nat} {kb : Bool} {post : Int32 → Prop} (hz : cb_Sz L D C) (hy : cb_Sy L D C yt) (hK : cb_Kg C M K) (hv : cb_Kv M K yw) (hM : M ≤ 8) (hg : g < C) (hm : m < 100) (hE : ∀ p, p < 2 ^ M → ∃ e, e ≤ 100 ∧ ye p = nI e ∧ (e ≤ m ↔ cb_V L D C K M kb p ≤ m)) (h1 : cb_LV L D C K M kb m g s → post 1) (h0 : ¬ cb_LV L D C K M kb m g s → post 0) : ∀ n r, r < n → r < 2 ^ M → cb_Lr L D C K M kb m g s r → wY_leaves_3 post (nI g) (nI m) (nI L) yd yc yr (nI M) yg ya yw ye yz yt n (nI r) := by
  have h256 := cb_p8 hM
  intro n
  induction n with
  | zero => intro r hr; exact absurd hr (Nat.not_lt_zero _)
  | succ n ih =>
    intro r hr hrM hl
    refine pk_eq r 0 (fun h => ?_) (fun h => ?_)
    · subst h
      refine h1 (fun k hk hb => hl.2.2 k hk hb (by rw [Nat.zero_testBit]; decide))
    · obtain ⟨k0, hk0, hb0⟩ := cb_nz hrM h
      refine ⟨k0 + 1, cb_yl11 hz hy hK hv hM hg (by omega) k0 hk0 hb0 rfl (fun i hi hb => ?_) k0 0 (by omega)⟩
      have pe := cb_pt_eq hi hl hb
      have pl := cb_mk_lt (fun j => r.testBit j && (cb_an L D g (K j) == cb_an L D g (K i))) M
      rw [pe] at pl ⊢
      obtain ⟨e, e1, e2, e3⟩ := hE _ pl
      refine ⟨fun hgk => ?_, fun hgk => ⟨pk_in _ 256 (by omega) rfl, ?_⟩⟩
      · obtain ⟨n1, n2⟩ := cb_Lr_next hz hK hg hi hl hb rfl (Or.inl hgk)
        exact ih _ (by omega) (by omega) n1
      · rw [e2]
        refine pk_le e m (fun hle => ?_) (fun hgt => h0 (fun hc => ?_))
        · obtain ⟨n1, n2⟩ := cb_Lr_next hz hK hg hi hl hb rfl (Or.inr (e3.mp hle))
          exact ih _ (by omega) (by omega) n1
        · rcases hc i hi (hl.1 i hb) with z | z
          · exact hgk z
          · have := e3.mpr z
            omega
theorem cb_ylv {L D C M g m s : Nat} {K : Nat → Nat} {kb : Bool} {post : Int32 → Prop} (hz : cb_Sz L D C) (hy : cb_Sy L D C yt) (hK : cb_Kg C M K) (hv : cb_Kv M K yw) (hM : M ≤ 8) (hg : g < C) (hm : m < 100) (hs : s < 2 ^ M) (hE : ∀ p, p < 2 ^ M → ∃ e, e ≤ 100 ∧ ye p = nI e ∧ (e ≤ m ↔ cb_V L D C K M kb p ≤ m)) (h1 : cb_LV L D C K M kb m g s → post 1) (h0 : ¬ cb_LV L D C K M kb m g s → post 0) : wpY_leaves post (nI L, yd, yc, yr, nI M, yg, ya, yw, ye, yz, yt) (nI s) (nI g) (nI m) :=
  ⟨s + 1, cb_yl3 hz hy hK hv hM hg hm hE h1 h0 (s + 1) s (by omega) hs ⟨fun _ h => h, fun _ _ _ _ _ h _ => h, fun _ _ a b => absurd a b⟩⟩
theorem cb_ycd {L D C M m s : Nat} {K : Nat → Nat} {kb : Bool} {kI : Int32} {post : Int32 → Prop} (hz : cb_Sz L D C) (hy : cb_Sy L D C yt) (hK : cb_Kg C M K) (hv : cb_Kv M K yw) (hM : M ≤ 8) (hkb : kI = if kb = true then 1 else 0) (hm : m < 100) (hs : s < 2 ^ M) (hE : ∀ p, p < 2 ^ M → ∃ e, e ≤ 100 ∧ ye p = nI e ∧ (e ≤ m ↔ cb_V L D C K M kb p ≤ m)) (h1 : (∃ g, g < C ∧ cb_ok K M kb s g = true ∧ cb_LV L D C K M kb m g s) → post 1) (h0 : ¬ (∃ g, g < C ∧ cb_ok K M kb s g = true ∧ cb_LV L D C K M kb m g s) → post 0) : ∀ d g, g + d = C → (∀ h, h < g → ¬ (cb_ok K M kb s h = true ∧ cb_LV L D C K M kb m h s)) → wY_canBeDone_3 post (nI s) (nI (m + 1)) kI (nI L) yd (nI C) yr (nI M) yg ya yw ye yz yt (d + 1) (nI g) := by
  have h7 := hz.2.2.2.2.2.2
  have h256 := cb_p8 hM
  intro d
  induction d with
  | zero =>
    intro g hd hn
    have e1 : g = C := by omega
    subst e1
    exact br_t (nI_le (Nat.le_refl _) (by omega)) (h0 (fun ⟨h, a, b⟩ => hn h a b))
  | succ d ih =>
    intro g hd hn
    have hg : g < C := by omega
    have nx : ¬ (cb_ok K M kb s g = true ∧ cb_LV L D C K M kb m g s) → wY_canBeDone_3 post (nI s) (nI (m + 1)) kI (nI L) yd (nI C) yr (nI M) yg ya yw ye yz yt (d + 1) (nI (g + 1)) := by
      intro hq
      refine ih (g + 1) (by omega) ?_
      intro y hy
      by_cases e1 : y = g
      · rw [e1]; exact hq
      · exact hn y (by omega)
    have look : cb_ok K M kb s g = true → wY_canBeDone_26 post (wY_canBeDone_3 post (nI s) (nI (m + 1)) kI (nI L) yd (nI C) yr (nI M) yg ya yw ye yz yt (d + 1)) (nI s) (nI (m + 1)) kI (nI g) (nI L) yd (nI C) yr (nI M) yg ya yw ye yz yt := by
      intro hok
      unfold wY_canBeDone_26
      rw [nI_pred]
      exact cb_ylv hz hy hK hv hM hg hm hs hE (fun hl => br_f (by decide) (h1 ⟨g, hg, hok, hl⟩)) (fun hl => br_t rfl (nm_r (nI_1 _) (nx (fun z => hl z.2))))
    refine br_f (nI_ge (by omega) (by omega)) ?_
    by_cases hk : kb = true
    · subst hk
      have e : kI = 1 := hkb.trans (if_pos rfl)
      rw [e] at nx look ⊢
      have eok : cb_ok K M true s g = cb_ex (fun k => s.testBit k && (K k == g)) M := rfl
      rw [eok] at look nx
      refine br_f (by decide) ⟨M + 1, cb_yi2 h7 hK hv hM hg (by omega) ?_ M 0 (by omega) (fun k hk => absurd hk (Nat.not_lt_zero _))⟩
      by_cases hx : cb_ex (fun k => s.testBit k && (K k == g)) M = true
      · rw [if_pos hx]
        exact br_f (by decide) (look hx)
      · rw [if_neg hx]
        exact br_t rfl (nm_r (nI_1 _) (nx (fun z => hx z.1)))
    · have e : kI = 0 := hkb.trans (if_neg hk)
      rw [e] at nx look ⊢
      refine br_t rfl (look ?_)
      have : kb = false := Bool.eq_false_iff.mpr hk
      subst this
      rfl
def cb_En (V : Nat → Nat) (M m s : Nat) (ye : Nat → Int32) : Prop := ∀ t, t < 2 ^ M → ye t = nI (if V t ≤ (if t < s then m + 1 else m) then V t else 100)
def cb_Ef (V : Nat → Nat) (M m : Nat) (ye : Nat → Int32) : Prop := ∀ t, t < 2 ^ M → ye t = nI (if V t ≤ m then V t else 100)
theorem cb_Ee {v m b : Nat} (hm : m ≤ b) (hm2 : m < 100) (hv : v ≤ 8) : (if v ≤ b then v else 100) ≤ 100 ∧ ((if v ≤ b then v else 100) ≤ m ↔ v ≤ m) := by
  by_cases h : v ≤ b
  · rw [if_pos h]
    exact ⟨by omega, Iff.rfl⟩
  · rw [if_neg h]
    exact ⟨by omega, by omega⟩
theorem cb_y122 {L D C M m : Nat} {K : Nat → Nat} {kb : Bool} {kI : Int32} {post : Int32 → SY → Prop} {J101 : cb_J6} (hz : cb_Sz L D C) (hy : cb_Sy L D C yt) (hK : cb_Kg C M K) (hv : cb_Kv M K yw) (hM : M ≤ 8) (hkb : kI = if kb = true then 1 else 0) (hm : m < 8) (hJ : ∀ ye, cb_Ef (cb_V L D C K M kb) M (m + 1) ye → J101 (nI (m + 1 + 1)) yg ya yw ye yz yt) : ∀ d s ye, s + d = 2 ^ M → 1 ≤ s → cb_En (cb_V L D C K M kb) M m s ye → wY_solve_122 post J101 kI (nI (2 ^ M - 1)) (nI (m + 1)) (nI L) yd (nI C) yr (nI M) (d + 1) (nI s) yg ya yw ye yz yt := by
  have h256 := cb_p8 hM
  have h7 := hz.2.2.2.2.2.2
  intro d
  induction d with
  | zero =>
    intro s ye hd hs1 hE
    have e1 : s = 2 ^ M := by omega
    subst e1
    refine br_t (nI_lt (by omega) (by omega)) (nm_r (nI_1 _) (hJ ye (fun t ht => ?_)))
    rw [hE t ht, if_pos ht]
  | succ d ih =>
    intro s ye hd hs1 hE
    have hs : s < 2 ^ M := by omega
    have es : (nI s).toNatClampNeg = s := nI_clamp (by omega)
    have hvs : cb_V L D C K M kb s ≤ 8 := cb_V_8 hz hK hM hs
    have ee := hE s hs
    rw [if_neg (Nat.lt_irrefl s)] at ee
    have next : ∀ v : Int32, v = nI (if cb_V L D C K M kb s ≤ m + 1 then cb_V L D C K M kb s else 100) → cb_En (cb_V L D C K M kb) M m (s + 1) (upd ye s v) := by
      intro v ev t ht
      by_cases e1 : t = s
      · rw [e1, pk_us, if_pos (Nat.lt_succ_self s)]; exact ev
      · rw [pk_un e1, hE t ht]
        by_cases e2 : t < s
        · rw [if_pos e2, if_pos (show t < s + 1 by omega)]
        · rw [if_neg e2, if_neg (show ¬ t < s + 1 by omega)]
    have keep : (if cb_V L D C K M kb s ≤ m + 1 then cb_V L D C K M kb s else 100) = (if cb_V L D C K M kb s ≤ m then cb_V L D C K M kb s else 100) → wY_solve_156 post J101 (wY_solve_122 post J101 kI (nI (2 ^ M - 1)) (nI (m + 1)) (nI L) yd (nI C) yr (nI M) (d + 1)) kI (nI (2 ^ M - 1)) (nI (m + 1)) (nI s) (nI L) yd (nI C) yr (nI M) yg ya yw ye yz yt := by
      intro ek
      refine br_t rfl ⟨pk_in s 256 (by omega), pk_in s 256 (by omega), ?_⟩
      rw [es]
      refine nm_e (nm_r (nI_1 _) (ih (s + 1) _ (by omega) (by omega) (next _ ?_)))
      rw [ek]; exact ee
    refine br_f (nI_nlt (by omega) (by omega)) ⟨pk_in s 256 (by omega), ?_⟩
    rw [es, ee]
    by_cases h1 : cb_V L D C K M kb s ≤ m
    · rw [if_pos h1]
      refine br_f (fun z => ?_) (keep (by rw [if_pos h1, if_pos (by omega)]))
      rw [show (100 : Int32) = nI 100 from rfl, nI_eq (by omega) (by omega)] at z
      omega
    · rw [if_neg h1]
      have hd2 := cb_V_done (L := L) (D := D) (C := C) (K := K) (M := M) (kb := kb) (s := s) (by omega) hm h1
      have hEe : ∀ p, p < 2 ^ M → ∃ e, e ≤ 100 ∧ ye p = nI e ∧ (e ≤ m ↔ cb_V L D C K M kb p ≤ m) := by
        intro p hp
        have hb : m ≤ (if p < s then m + 1 else m) := by split <;> omega
        have h3 := cb_Ee hb (by omega) (cb_V_8 (kb := kb) hz hK hM hp)
        exact ⟨_, h3.1, hE p hp, h3.2⟩
      refine br_t rfl ⟨C + 1, cb_ycd hz hy hK hv hM hkb (by omega) hs hEe (fun hx => ?_) (fun hx => ?_) C 0 (by omega) (fun h hh => absurd hh (Nat.not_lt_zero _))⟩
      · have h2 := hd2.mpr hx
        refine br_f (by decide) (br_f (by decide) ⟨pk_in s 256 (by omega), ?_⟩)
        rw [es]
        refine nm_e (nm_r (nI_1 _) (ih (s + 1) _ (by omega) (by omega) (next _ ?_)))
        rw [if_pos h2]
        exact congrArg nI (by omega)
      · have h2 := fun z => hx (hd2.mp z)
        exact br_t rfl (keep (by rw [if_neg h1, if_neg h2]))
theorem cb_y101 {L D C M : Nat} {K : Nat → Nat} {kb : Bool} {kI : Int32} {post : Int32 → SY → Prop} (hz : cb_Sz L D C) (hy : cb_Sy L D C yt) (hK : cb_Kg C M K) (hv : cb_Kv M K yw) (hM : M ≤ 8) (hkb : kI = if kb = true then 1 else 0) (hp : ∀ m ye, cb_V L D C K M kb (2 ^ M - 1) ≤ m → cb_Ef (cb_V L D C K M kb) M m ye → post (nI (cb_V L D C K M kb (2 ^ M - 1))) (nI L, yd, nI C, yr, nI M, yg, ya, yw, ye, yz, yt)) : ∀ d m ye, m + d = 8 → cb_Ef (cb_V L D C K M kb) M m ye → wY_solve_101 post kI (nI (2 ^ M - 1)) (nI L) yd (nI C) yr (nI M) (d + 1) (nI (m + 1)) yg ya yw ye yz yt := by
  have h256 := cb_p8 hM
  have h1 : 1 ≤ 2 ^ M := Nat.one_le_two_pow
  have hv8 : cb_V L D C K M kb (2 ^ M - 1) ≤ 8 := cb_V_8 hz hK hM (by omega)
  have ew : (nI (2 ^ M - 1)).toNatClampNeg = 2 ^ M - 1 := nI_clamp (by omega)
  have out : ∀ m ye n, m ≤ 8 → cb_Ef (cb_V L D C K M kb) M m ye → cb_V L D C K M kb (2 ^ M - 1) ≤ m → wY_solve_101 post kI (nI (2 ^ M - 1)) (nI L) yd (nI C) yr (nI M) (n + 1) (nI (m + 1)) yg ya yw ye yz yt := by
    intro m ye n hm hE hle
    have ee := hE (2 ^ M - 1) (by omega)
    rw [if_pos hle] at ee
    refine br_f (nI_ge (b := 10) (by omega) (by decide)) ⟨pk_in (2 ^ M - 1) 256 (by omega), ?_⟩
    rw [ew, ee]
    refine br_f (fun z => ?_) ⟨pk_in (2 ^ M - 1) 256 (by omega), hp m ye hle hE⟩
    rw [show (100 : Int32) = nI 100 from rfl, nI_eq (by omega) (by omega)] at z
    omega
  intro d
  induction d with
  | zero =>
    intro m ye hd hE
    exact out m ye 0 (by omega) hE (by omega)
  | succ d ih =>
    intro m ye hd hE
    by_cases hle : cb_V L D C K M kb (2 ^ M - 1) ≤ m
    · exact out m ye (d + 1) (by omega) hE hle
    · have ee := hE (2 ^ M - 1) (by omega)
      rw [if_neg hle] at ee
      refine br_f (nI_ge (b := 10) (by omega) (by decide)) ⟨pk_in (2 ^ M - 1) 256 (by omega), ?_⟩
      rw [ew, ee]
      refine br_t rfl ⟨2 ^ M - 1 + 1, cb_y122 (m := m) hz hy hK hv hM hkb (by omega) (fun ye hE => ih (m + 1) ye (by omega) hE) (2 ^ M - 1) 1 ye (by omega) (by omega) (fun t ht => ?_)⟩
      rw [hE t ht]
      by_cases e1 : t < 1
      · have e0 : t = 0 := by omega
        subst e0
        rw [cb_V_0, if_pos (Nat.zero_le _), if_pos (Nat.zero_le _)]
      · rw [if_neg e1]
theorem cb_y60 {L D C M : Nat} {K : Nat → Nat} {kb : Bool} {kI : Int32} {post : Int32 → SY → Prop} (hz : cb_Sz L D C) (hy : cb_Sy L D C yt) (hK : cb_Kg C M K) (hv : cb_Kv M K yw) (hM : M ≤ 8) (hkb : kI = if kb = true then 1 else 0) (hp : ∀ m ye, cb_V L D C K M kb (2 ^ M - 1) ≤ m → cb_Ef (cb_V L D C K M kb) M m ye → post (nI (cb_V L D C K M kb (2 ^ M - 1))) (nI L, yd, nI C, yr, nI M, yg, ya, yw, ye, yz, yt)) : ∀ d i ye, i + d = 256 → (∀ t, t < i → ye t = if t = 0 then 0 else 100) → wY_solve_60 post kI (nI L) yd (nI C) yr (nI M) (d + 1) (nI i) yg ya yw ye yz yt := by
  have h256 := cb_p8 hM
  intro d
  induction d with
  | zero =>
    intro i ye hd he
    have e1 : i = 256 := by omega
    subst e1
    refine br_t (by decide) (nm_r (cb_wh hM) ⟨9, cb_y101 hz hy hK hv hM hkb hp 8 0 ye (by omega) (fun t ht => ?_)⟩)
    rw [he t (by omega)]
    by_cases e0 : t = 0
    · subst e0; rw [cb_V_0]; rfl
    · have := cb_V_pos (L := L) (D := D) (C := C) (K := K) (M := M) (kb := kb) e0
      rw [if_neg e0, if_neg (by omega)]; rfl
  | succ d ih =>
    intro i ye hd he
    have er : (nI i).toNatClampNeg = i := nI_clamp (by omega)
    refine br_f (nI_ge (b := 256) (by omega) (by decide)) (pk_eq i 0 (fun h => ⟨pk_in i 256 (by omega), ?_⟩) (fun h => ⟨pk_in i 256 (by omega), ?_⟩))
    · rw [er]
      refine nm_e (nm_r (nI_1 _) (ih (i + 1) _ (by omega) (fun t ht => ?_)))
      by_cases e1 : t = i
      · rw [e1, pk_us, if_pos h]
      · rw [pk_un e1]; exact he t (by omega)
    · rw [er]
      refine nm_e (nm_r (nI_1 _) (ih (i + 1) _ (by omega) (fun t ht => ?_)))
      by_cases e1 : t = i
      · rw [e1, pk_us, if_neg h]
      · rw [pk_un e1]; exact he t (by omega)
theorem cb_y25 {L D C T M : Nat} {P : Nat → Bool} {K : Nat → Nat} {kb : Bool} {kI : Int32} {post : Int32 → SY → Prop} (hz : cb_Sz L D C) (hy : cb_Sy L D C yt) (ht : cb_To C T yg) (hP : P = cb_ft L D T yg ya (-1)) (hMe : M = cb_cn P C) (hKP : ∀ x, x < C → P x = true → K (cb_cn P x) = x) (hK : cb_Kg C M K) (hM : M ≤ 8) (hkb : kI = if kb = true then 1 else 0) (hp : ∀ m yw ye, cb_Kv M K yw → cb_V L D C K M kb (2 ^ M - 1) ≤ m → cb_Ef (cb_V L D C K M kb) M m ye → post (nI (cb_V L D C K M kb (2 ^ M - 1))) (nI L, yd, nI C, nI T, nI M, yg, ya, yw, ye, yz, yt)) : ∀ d x yw, x + d = C → cb_Kv (cb_cn P x) K yw → wY_solve_25 post kI (nI L) yd (nI C) (nI T) (nI M) (d + 1) (nI (cb_cn P x)) (nI x) yg ya yw ye yz yt := by
  have h7 := hz.2.2.2.2.2.2
  intro d
  induction d with
  | zero =>
    intro x yw hd hv
    have e1 : x = C := by omega
    subst e1
    rw [← hMe] at hv
    exact br_t (nI_le (Nat.le_refl _) (by omega)) ⟨257, cb_y60 hz hy hK hv hM hkb (fun m ye a b => hp m yw ye hv a b) 256 0 ye (by omega) (fun t ht => absurd ht (Nat.not_lt_zero _))⟩
  | succ d ih =>
    intro x yw hd hv
    have hx : x < C := by omega
    refine br_f (nI_ge (by omega) (by omega)) (cb_yag hz hy ht hx ?_)
    rw [← hP]
    by_cases hq : P x = true
    · rw [if_pos hq]
      have hlt := cb_cn_lt P hx hq
      have er : (nI (cb_cn P x)).toNatClampNeg = cb_cn P x := nI_clamp (by omega)
      refine br_f (by decide) ⟨pk_in (cb_cn P x) 8 (by omega), ?_⟩
      rw [er]
      refine nm_e (nm_r (nI_1 _) (nm_r (nI_1 _) ?_))
      rw [← cb_cn_t hq]
      refine ih (x + 1) _ (by omega) ?_
      rw [cb_cn_t hq]
      intro k hk
      by_cases e1 : k = cb_cn P x
      · rw [e1, pk_us, hKP x hx hq]
      · rw [pk_un e1]; exact hv k (by omega)
    · rw [if_neg hq]
      refine br_t rfl (nm_r (nI_1 _) ?_)
      rw [← cb_cn_f hq] at hv ⊢
      exact ih (x + 1) _ (by omega) hv
theorem cb_ysv {L D C T M : Nat} {P : Nat → Bool} {K : Nat → Nat} {kb : Bool} {kI : Int32} {post : Int32 → SY → Prop} (hz : cb_Sz L D C) (hy : cb_Sy L D C yt) (ht : cb_To C T yg) (hP : P = cb_ft L D T yg ya (-1)) (hMe : M = cb_cn P C) (hKP : ∀ x, x < C → P x = true → K (cb_cn P x) = x) (hK : cb_Kg C M K) (hM : M ≤ 8) (hkb : kI = if kb = true then 1 else 0) (hp : ∀ m yw ye, cb_Kv M K yw → cb_V L D C K M kb (2 ^ M - 1) ≤ m → cb_Ef (cb_V L D C K M kb) M m ye → post (nI (cb_V L D C K M kb (2 ^ M - 1))) (nI L, yd, nI C, nI T, nI M, yg, ya, yw, ye, yz, yt)) : wpY_solve post (nI L, yd, nI C, nI T, yf, yg, ya, yw, ye, yz, yt) kI := by
  refine cb_ycp hz hy ht ?_
  rw [← hP, ← hMe]
  exact br_t (nI_le (b := 8) hM (by decide)) ⟨C + 1, cb_y25 hz hy ht hP hMe hKP hK hM hkb hp C 0 yw (by omega) (fun k hk => absurd hk (Nat.not_lt_zero _))⟩
theorem cb_ysm {L D C T M : Nat} {P : Nat → Bool} {kI : Int32} {post : Int32 → SY → Prop} (hz : cb_Sz L D C) (hy : cb_Sy L D C yt) (ht : cb_To C T yg) (hP : P = cb_ft L D T yg ya (-1)) (hMe : M = cb_cn P C) (hM : 8 < M) (hp : post (-4) (nI L, yd, nI C, nI T, nI M, yg, ya, yw, ye, yz, yt)) : wpY_solve post (nI L, yd, nI C, nI T, yf, yg, ya, yw, ye, yz, yt) kI := by
  have h7 := hz.2.2.2.2.2.2
  have c1 := cb_cn_le P C
  refine cb_ycp hz hy ht ?_
  rw [← hP, ← hMe]
  exact br_f (nI_ge hM (by omega)) hp
end
