theorem ro_m1 (x : Int32) : x + (-1) = x - 1 := by grind
theorem ro_oblt {s n k i : Nat} (h : ro_VC s n k) (hne : ¬ (s = 4 ∧ k = 0)) (hi : i < ro_m s n k) : ro_ob s n k i < 2 ^ 42 := by
  have h1 := ro_Mlt _ _ _ _ _ (ro_obM hne hi)
  have h2 : 8 ^ (ro_L s n k) ≤ 8 ^ 14 := Nat.pow_le_pow_right (by decide) (ro_L14 h)
  have h3 : (8 : Nat) ^ 14 = 2 ^ 42 := by decide
  omega
theorem ro_and7 (y : Nat) : nI y &&& 7 = nI (y % 8) := by
  rw [pk_and (nI y) (m := 7) 3 (by decide)]
  have e : (nI y).toBitVec.toNat = y % 2 ^ 32 := BitVec.toNat_ofNat _ _
  rw [e]
  exact congrArg nI (by omega)
theorem ro_dig (post : Int32 → Prop) (f3 f4 f5 : Int32) (s n k i x : Nat) (yl yo : Nat → Int64) (h : ro_VC s n k) (hk : s = 0 ∨ s = 4 → f3 = nI k) (hi : i < ro_L s n k) (hx : x < 2 ^ 42) (hp : post (nI (ro_dg (ro_L s n k) x i))) : wpY_digit post (nI s, nI n, f3, f4, f5, yl, yo) (lN x) (nI i) := by
  have h14 := ro_L14 h
  unfold wpY_digit
  refine ro_lenY _ f3 f4 f5 s n k yl yo h hk ?_
  have e1 : 3 * ((nI (ro_L s n k) - 1) - nI i) = nI (3 * (ro_L s n k - 1 - i)) := by
    rw [show (1 : Int32) = nI 1 from rfl, pk_sub (by omega), pk_sub (by omega), show (3 : Int32) = nI 3 from rfl, pk_mul]
  have e2 : 2 ^ (3 * (ro_L s n k - 1 - i)) = 8 ^ (ro_L s n k - 1 - i) := by
    rw [Nat.pow_mul]
  rw [e1, wb_shr (by omega) (by omega), lN_i, ro_and7, e2]
  exact hp
theorem ro_dgS (L x j : Nat) (hj : j < L) : x / 8 ^ (L - (j + 1)) = 8 * (x / 8 ^ (L - j)) + ro_dg L x j := by
  unfold ro_dg
  have e1 : L - j = (L - (j + 1)) + 1 := by omega
  have e2 : L - 1 - j = L - (j + 1) := by omega
  rw [e1, e2, Nat.pow_succ, ← Nat.div_div_eq_div_mul]
  omega
theorem ro_dgD (L x j p : Nat) (hj : j ≤ p) (hp : p < L) : ro_dg L x j = x / 8 ^ (L - (p + 1)) / 8 ^ (p - j) % 8 := by
  unfold ro_dg
  rw [Nat.div_div_eq_div_mul, ← Nat.pow_add, show L - (p + 1) + (p - j) = L - 1 - j by omega]
theorem ro_alike (post : Int32 → Prop) (f3 : Int32) (s n k num cur p : Nat) (yl yo : Nat → Int64) (h : ro_VC s n k) (hne : ¬ (s = 4 ∧ k = 0)) (hk : s = 0 ∨ s = 4 → f3 = nI k) (hl : ro_LA yl (ro_obs s n k)) (hn : num < ro_m s n k) (hc : cur < ro_m s n k) (hpL : p < ro_L s n k)
    (hp : post (ro_bi (decide (ro_ob s n k num / 8 ^ (ro_L s n k - (p + 1)) = ro_ob s n k cur / 8 ^ (ro_L s n k - (p + 1)))))) : wpY_alike post (nI s, nI n, f3, nI cur, nI (ro_m s n k), yl, yo) (nI num) (nI p) := by
  have h14 := ro_L14 h
  have hcap := ro_capm h
  have i1 : vp_in (nI num) 5040 := vp_in_nI (by omega) (by decide)
  have i2 : vp_in (nI cur) 5040 := vp_in_nI (by omega) (by decide)
  have c1 : yl (nI num).toNatClampNeg = lN (ro_ob s n k num) := by rw [nI_clamp (by omega)]; exact hl num hn
  have c2 : yl (nI cur).toNatClampNeg = lN (ro_ob s n k cur) := by rw [nI_clamp (by omega)]; exact hl cur hc
  have b1 := ro_oblt h hne hn
  have b2 := ro_oblt h hne hc
  have key : ∀ r j, j + r = p + 1 → ro_ob s n k num / 8 ^ (ro_L s n k - j) = ro_ob s n k cur / 8 ^ (ro_L s n k - j) → wY_alike_2 post (nI num) (nI p) (nI s) (nI n) f3 (nI cur) (nI (ro_m s n k)) yl yo (r + 1) (nI j) := by
    intro r
    induction r with
    | zero =>
      intro j hj he
      have e : j = p + 1 := by omega
      subst e
      rw [decide_eq_true he] at hp
      exact br_t (nI_lt (by omega) (by omega)) hp
    | succ r ih =>
      intro j hj he
      refine br_f (nI_nlt (by omega) (by omega)) ⟨i1, ?_⟩
      rw [c1]
      refine ro_dig _ f3 _ _ s n k j _ yl yo h hk (by omega) b1 ?_
      refine ⟨i2, ?_⟩
      rw [c2]
      refine ro_dig _ f3 _ _ s n k j _ yl yo h hk (by omega) b2 ?_
      have d1 := ro_dg8 (ro_L s n k) (ro_ob s n k num) j
      have d2 := ro_dg8 (ro_L s n k) (ro_ob s n k cur) j
      by_cases c : ro_dg (ro_L s n k) (ro_ob s n k num) j = ro_dg (ro_L s n k) (ro_ob s n k cur) j
      · refine br_t (by rw [c]) (nm_r (nI_1 j) (ih (j + 1) (by omega) ?_))
        rw [ro_dgS _ _ _ (by omega), ro_dgS _ _ _ (by omega), he, c]
      · refine br_f (by rw [nI_eq (by omega) (by omega)]; exact c) ?_
        rw [decide_eq_false (fun z => c (by rw [ro_dgD _ _ j p (by omega) hpL, ro_dgD _ _ j p (by omega) hpL, z]))] at hp
        exact hp
  refine ⟨p + 1 + 1, key (p + 1) 0 (by omega) ?_⟩
  have x1 := ro_Mlt _ _ _ _ _ (ro_obM hne hn)
  have x2 := ro_Mlt _ _ _ _ _ (ro_obM hne hc)
  rw [Nat.sub_zero, Nat.div_eq_of_lt x1, Nat.div_eq_of_lt x2]
/-- the first object with the code t at r numbers from the end -/
theorem ro_fst {s n k : Nat} (hne : ¬ (s = 4 ∧ k = 0)) {r t cur : Nat} (hc : cur < ro_m s n k) (ht : ro_ob s n k cur / 8 ^ r = t) :
    ro_rk s n k r t ≤ cur ∧ (∀ num, num < ro_rk s n k r t → ¬ ro_ob s n k num / 8 ^ r = t) ∧ ro_ob s n k (ro_rk s n k r t) / 8 ^ r = t := by
  have h1 : ro_rk s n k r t ≤ cur := (ro_rkA hne r t hc).mpr (by omega)
  refine ⟨h1, fun num hn he => ?_, ?_⟩
  · have := (ro_rkA (s := s) (n := n) (k := k) hne r t (num := num) (by omega)).mpr (by omega)
    omega
  · have h2 := (ro_rkA hne r t (num := ro_rk s n k r t) (by omega)).mp (Nat.le_refl _)
    have h3 : ro_ob s n k (ro_rk s n k r t) / 8 ^ r ≤ ro_ob s n k cur / 8 ^ r := by
      rcases Nat.lt_or_ge (ro_rk s n k r t) cur with c | c
      · exact Nat.div_le_div_right (Nat.le_of_lt (ro_obS hne c hc))
      · have : ro_rk s n k r t = cur := by omega
        rw [this]; exact Nat.le_refl _
    omega
theorem ro_fl23 (post : Int32 → Prop) (f3 : Int32) (s n k cur p : Nat) (yl yo : Nat → Int64) (h : ro_VC s n k) (hne : ¬ (s = 4 ∧ k = 0)) (hk : s = 0 ∨ s = 4 → f3 = nI k) (hl : ro_LA yl (ro_obs s n k)) (hc : cur < ro_m s n k) (hpL : p < ro_L s n k)
    (hp : post (nI (ro_rk s n k (ro_L s n k - (p + 1)) (ro_ob s n k cur / 8 ^ (ro_L s n k - (p + 1)))))) :
    ∀ r num, num + r = ro_rk s n k (ro_L s n k - (p + 1)) (ro_ob s n k cur / 8 ^ (ro_L s n k - (p + 1))) → wY_firstLike_23 post (nI p) (nI s) (nI n) f3 (nI cur) (nI (ro_m s n k)) yl yo (r + 1) (nI num) := by
  have hcap := ro_capm h
  obtain ⟨h1, h2, h3⟩ := ro_fst (r := ro_L s n k - (p + 1)) hne hc rfl
  intro r
  induction r with
  | zero =>
    intro num hn
    have e : num = ro_rk s n k (ro_L s n k - (p + 1)) (ro_ob s n k cur / 8 ^ (ro_L s n k - (p + 1))) := by omega
    refine br_f (nI_ge (by omega) (by omega)) ?_
    refine ro_alike _ f3 s n k num cur p yl yo h hne hk hl (by omega) hc hpL ?_
    rw [decide_eq_true (by rw [e]; exact h3)]
    exact br_f (by decide : ¬ ro_bi true = 0) (by rw [e]; exact hp)
  | succ r ih =>
    intro num hn
    refine br_f (nI_ge (by omega) (by omega)) ?_
    refine ro_alike _ f3 s n k num cur p yl yo h hne hk hl (by omega) hc hpL ?_
    rw [decide_eq_false (h2 num (by omega))]
    exact br_t (by decide : ro_bi false = 0) (nm_r (nI_1 num) (ih (num + 1) (by omega)))
theorem ro_lk25 (post : Int32 → Prop) (f3 : Int32) (s n k cur p : Nat) (yl yo : Nat → Int64) (h : ro_VC s n k) (hne : ¬ (s = 4 ∧ k = 0)) (hk : s = 0 ∨ s = 4 → f3 = nI k) (hl : ro_LA yl (ro_obs s n k)) (hc : cur < ro_m s n k) (hpL : p < ro_L s n k)
    (hp : post (nI (ro_ct (fun i => decide (ro_ob s n k i / 8 ^ (ro_L s n k - (p + 1)) = ro_ob s n k cur / 8 ^ (ro_L s n k - (p + 1)))) (ro_m s n k)))) :
    ∀ r num, num + r = ro_m s n k → wY_like_25 post (nI p) (nI s) (nI n) f3 (nI cur) (nI (ro_m s n k)) yl yo (r + 1) (nI (ro_ct (fun i => decide (ro_ob s n k i / 8 ^ (ro_L s n k - (p + 1)) = ro_ob s n k cur / 8 ^ (ro_L s n k - (p + 1)))) num)) (nI num) := by
  have hcap := ro_capm h
  intro r
  induction r with
  | zero =>
    intro num hn
    have e : num = ro_m s n k := by omega
    subst e
    exact br_t (nI_le (Nat.le_refl _) (by omega)) hp
  | succ r ih =>
    intro num hn
    have IH := ih (num + 1) (by omega)
    refine br_f (nI_ge (by omega) (by omega)) ?_
    refine ro_alike _ f3 s n k num cur p yl yo h hne hk hl (by omega) hc hpL ?_
    rw [show ro_ct (fun i => decide (ro_ob s n k i / 8 ^ (ro_L s n k - (p + 1)) = ro_ob s n k cur / 8 ^ (ro_L s n k - (p + 1)))) (num + 1) = ro_ct (fun i => decide (ro_ob s n k i / 8 ^ (ro_L s n k - (p + 1)) = ro_ob s n k cur / 8 ^ (ro_L s n k - (p + 1)))) num + cond (decide (ro_ob s n k num / 8 ^ (ro_L s n k - (p + 1)) = ro_ob s n k cur / 8 ^ (ro_L s n k - (p + 1)))) 1 0 from rfl] at IH
    cases hb : decide (ro_ob s n k num / 8 ^ (ro_L s n k - (p + 1)) = ro_ob s n k cur / 8 ^ (ro_L s n k - (p + 1)))
    · rw [hb] at IH
      exact br_t (by decide : ro_bi false = 0) (nm_r (nI_1 num) IH)
    · rw [hb] at IH
      exact br_f (by decide : ¬ ro_bi true = 0) (nm_r (nI_1 _) (nm_r (nI_1 num) IH))
/-! how many places differ -/
def ro_df (s n k cur num : Nat) (i : Nat) : Bool := !(decide (ro_dg (ro_L s n k) (ro_ob s n k cur) i = ro_dg (ro_L s n k) (ro_ob s n k num) i))
theorem ro_dfX (post : Int32 → SX → Prop) (f3 f5 f6 : Int32) (s n k cur num : Nat) (al ao : Nat → Int32) (h : ro_VC s n k) (h1 : ∀ i, i < ro_L s n k → al i = nI (ro_dg (ro_L s n k) (ro_ob s n k cur) i)) (h2 : ∀ i, i < ro_L s n k → ao i = nI (ro_dg (ro_L s n k) (ro_ob s n k num) i))
    (hp : post (nI (ro_ct (ro_df s n k cur num) (ro_L s n k))) (nI s, nI n, f3, nI (ro_L s n k), f5, f6, ro_BA, ro_GA, al, ao)) :
    ∀ r j, j + r = ro_L s n k → wX_difference_23 post (nI s) (nI n) f3 (nI (ro_L s n k)) f5 f6 ro_BA ro_GA al ao (r + 1) (nI (ro_ct (ro_df s n k cur num) j)) (nI j) := by
  have h14 := ro_L14 h
  intro r
  induction r with
  | zero =>
    intro j hj
    have e : j = ro_L s n k := by omega
    subst e
    exact br_t (nI_le (Nat.le_refl _) (by omega)) hp
  | succ r ih =>
    intro j hj
    have IH := ih (j + 1) (by omega)
    have hin : vp_in (nI j) 14 := vp_in_nI (by omega) (by decide)
    have ec : (nI j).toNatClampNeg = j := nI_clamp (by omega)
    have d1 := ro_dg8 (ro_L s n k) (ro_ob s n k num) j
    have d2 := ro_dg8 (ro_L s n k) (ro_ob s n k cur) j
    have e1 : al (nI j).toNatClampNeg = nI (ro_dg (ro_L s n k) (ro_ob s n k cur) j) := by rw [ec]; exact h1 j (by omega)
    have e2 : ao (nI j).toNatClampNeg = nI (ro_dg (ro_L s n k) (ro_ob s n k num) j) := by rw [ec]; exact h2 j (by omega)
    refine br_f (nI_ge (by omega) (by omega)) ⟨hin, hin, ?_⟩
    rw [show ro_ct (ro_df s n k cur num) (j + 1) = ro_ct (ro_df s n k cur num) j + cond (!(decide (ro_dg (ro_L s n k) (ro_ob s n k cur) j = ro_dg (ro_L s n k) (ro_ob s n k num) j))) 1 0 from rfl] at IH
    by_cases c : ro_dg (ro_L s n k) (ro_ob s n k cur) j = ro_dg (ro_L s n k) (ro_ob s n k num) j
    · rw [decide_eq_true c] at IH
      exact br_t (by rw [e1, e2, c]) (nm_r (nI_1 j) IH)
    · rw [decide_eq_false c] at IH
      exact br_f (by rw [e1, e2, nI_eq (by omega) (by omega)]; exact c) (nm_r (nI_1 _) (nm_r (nI_1 j) IH))
theorem ro_dfY (post : Int32 → Prop) (f3 : Int32) (s n k cur num : Nat) (yl yo : Nat → Int64) (h : ro_VC s n k) (hne : ¬ (s = 4 ∧ k = 0)) (hk : s = 0 ∨ s = 4 → f3 = nI k) (hl : ro_LA yl (ro_obs s n k)) (hn : num < ro_m s n k) (hc : cur < ro_m s n k)
    (hp : post (nI (ro_ct (ro_df s n k cur num) (ro_L s n k)))) :
    ∀ r j, j + r = ro_L s n k → wY_difference_18 post (nI num) (nI s) (nI n) f3 (nI cur) (nI (ro_m s n k)) yl yo (r + 1) (nI (ro_ct (ro_df s n k cur num) j)) (nI j) := by
  have h14 := ro_L14 h
  have hcap := ro_capm h
  have i1 : vp_in (nI num) 5040 := vp_in_nI (by omega) (by decide)
  have i2 : vp_in (nI cur) 5040 := vp_in_nI (by omega) (by decide)
  have c1 : yl (nI num).toNatClampNeg = lN (ro_ob s n k num) := by rw [nI_clamp (by omega)]; exact hl num hn
  have c2 : yl (nI cur).toNatClampNeg = lN (ro_ob s n k cur) := by rw [nI_clamp (by omega)]; exact hl cur hc
  have b1 := ro_oblt h hne hn
  have b2 := ro_oblt h hne hc
  intro r
  induction r with
  | zero =>
    intro j hj
    have e : j = ro_L s n k := by omega
    subst e
    unfold wY_difference_18
    refine ro_lenY _ f3 _ _ s n k yl yo h hk ?_
    exact br_t (nI_le (Nat.le_refl _) (by omega)) hp
  | succ r ih =>
    intro j hj
    have IH := ih (j + 1) (by omega)
    have d1 := ro_dg8 (ro_L s n k) (ro_ob s n k num) j
    have d2 := ro_dg8 (ro_L s n k) (ro_ob s n k cur) j
    unfold wY_difference_18
    refine ro_lenY _ f3 _ _ s n k yl yo h hk ?_
    refine br_f (nI_ge (by omega) (by omega)) ⟨i1, ?_⟩
    rw [c1]
    refine ro_dig _ f3 _ _ s n k j _ yl yo h hk (by omega) b1 ?_
    refine ⟨i2, ?_⟩
    rw [c2]
    refine ro_dig _ f3 _ _ s n k j _ yl yo h hk (by omega) b2 ?_
    rw [show ro_ct (ro_df s n k cur num) (j + 1) = ro_ct (ro_df s n k cur num) j + cond (!(decide (ro_dg (ro_L s n k) (ro_ob s n k cur) j = ro_dg (ro_L s n k) (ro_ob s n k num) j))) 1 0 from rfl] at IH
    by_cases c : ro_dg (ro_L s n k) (ro_ob s n k cur) j = ro_dg (ro_L s n k) (ro_ob s n k num) j
    · rw [decide_eq_true c] at IH
      exact br_t (by rw [c]) (nm_r (nI_1 j) IH)
    · rw [decide_eq_false c] at IH
      exact br_f (by rw [nI_eq (by omega) (by omega)]; exact fun z => c z.symm) (nm_r (nI_1 _) (nm_r (nI_1 j) IH))
