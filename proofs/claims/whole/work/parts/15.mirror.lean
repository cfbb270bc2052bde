def ro_im1 (s n d : Nat) : Nat := match s with
  | 0 => n - 1 - d
  | 3 => 1 - d
  | _ => d
/-- the numbers of the mirrored object -/
def ro_mi (s n k x i : Nat) : Nat := ro_im1 s n (ro_dg (ro_L s n k) x (ro_L s n k - 1 - i))
theorem ro_mi0 {n k : Nat} {d e : Nat → Nat} {L : Nat} (hL : L = k) (hd : ro_OK 0 n k d L) (he : ∀ i, e i = n - 1 - d (L - 1 - i)) (h7 : n ≤ 7) : ro_OK 0 n k e L := by
  have hok : ∀ i, i < L → d i < n ∧ ro_sd 0 d i ≤ d i := fun i hi => by
    have t : (decide (d i < n) && decide (ro_sd 0 d i ≤ d i)) = true := (hd i hi).2
    rw [Bool.and_eq_true] at t
    exact ⟨of_decide_eq_true t.1, of_decide_eq_true t.2⟩
  intro i hi
  have h1 := hok (L - 1 - i) (by omega)
  have hlt : e i < n := by rw [he]; omega
  refine ⟨by omega, ?_⟩
  show (decide (e i < n) && decide (ro_sd 0 e i ≤ e i)) = true
  rw [decide_eq_true hlt, Bool.true_and]
  apply decide_eq_true
  cases i with
  | zero => exact Nat.zero_le _
  | succ i =>
    show e i + 1 ≤ e (i + 1)
    rw [he i, he (i + 1)]
    obtain ⟨c, hc⟩ : ∃ c, L - 1 - i = c + 1 := ⟨L - 1 - i - 1, by omega⟩
    have e2 : L - 1 - (i + 1) = c := by omega
    have h2 := hok (c + 1) (by omega)
    have h3 : d c + 1 ≤ d (c + 1) := h2.2
    rw [hc, e2]
    omega
theorem ro_mi1 {n k : Nat} {d e : Nat → Nat} {L : Nat} (hd : ro_OK 1 n k d L) (he : ∀ i, e i = d (L - 1 - i)) : ro_OK 1 n k e L := by
  have hok : ∀ i, i < L → d i < n ∧ (ro_sd 1 d i).testBit (d i) = false := fun i hi => by
    have t : (decide (d i < n) && !((ro_sd 1 d i).testBit (d i))) = true := (hd i hi).2
    rw [Bool.and_eq_true] at t
    refine ⟨of_decide_eq_true t.1, ?_⟩
    have := t.2
    cases hq : (ro_sd 1 d i).testBit (d i)
    · rfl
    · rw [hq] at this; cases this
  intro i hi
  have h1 := hok (L - 1 - i) (by omega)
  refine ⟨by rw [he]; exact (hd _ (by omega)).1, ?_⟩
  show (decide (e i < n) && !((ro_sd 1 e i).testBit (e i))) = true
  rw [decide_eq_true (by rw [he]; exact h1.1), Bool.true_and]
  cases hq : (ro_sd 1 e i).testBit (e i)
  · rfl
  · exfalso
    obtain ⟨i', hi', e'⟩ := (ro_bit e (e i) i).mp hq
    rw [he, he] at e'
    have h2 := (hok (L - 1 - i') (by omega)).2
    have h3 := (ro_bit d (d (L - 1 - i')) (L - 1 - i')).mpr ⟨L - 1 - i, by omega, e'.symm⟩
    rw [h2] at h3; cases h3
theorem ro_mi4 {n k : Nat} {d e : Nat → Nat} {L : Nat} (hL : L = k) (hL0 : 0 < L) (hd : ro_OK 4 n k d L) (he : ∀ i, e i = d (L - 1 - i)) : ro_OK 4 n k e L := by
  have hlast : ro_sd 4 d L = n := by
    have t : (decide (ro_sd 4 d (L - 1) + d (L - 1) ≤ n) && (decide (L - 1 + 1 < k) || decide (ro_sd 4 d (L - 1) + d (L - 1) = n))) = true := (hd (L - 1) (by omega)).2
    rw [Bool.and_eq_true, decide_eq_false (show ¬ L - 1 + 1 < k by omega), Bool.false_or] at t
    have := of_decide_eq_true t.2
    obtain ⟨c, hc⟩ : ∃ c, L = c + 1 := ⟨L - 1, by omega⟩
    rw [hc] at this ⊢
    exact this
  have hs : ∀ i, i ≤ L → ro_sd 4 e i + ro_sd 4 d (L - i) = n := by
    intro i
    induction i with
    | zero => intro _; rw [Nat.sub_zero, hlast]; exact Nat.zero_add _
    | succ i ih =>
      intro hi
      have h1 := ih (by omega)
      show ro_sd 4 e i + e i + ro_sd 4 d (L - (i + 1)) = n
      have e1 : ro_sd 4 d (L - i) = ro_sd 4 d (L - (i + 1)) + d (L - 1 - i) := by
        obtain ⟨c, hc⟩ : ∃ c, L - i = c + 1 := ⟨L - i - 1, by omega⟩
        rw [hc, show L - (i + 1) = c by omega, show L - 1 - i = c by omega]; rfl
      rw [he]; omega
  intro i hi
  refine ⟨by rw [he]; exact (hd _ (by omega)).1, ?_⟩
  show (decide (ro_sd 4 e i + e i ≤ n) && (decide (i + 1 < k) || decide (ro_sd 4 e i + e i = n))) = true
  have h1 : ro_sd 4 e i + e i + ro_sd 4 d (L - (i + 1)) = n := hs (i + 1) (by omega)
  rw [decide_eq_true (by omega), Bool.true_and]
  rcases Nat.lt_or_ge (i + 1) k with c | c
  · rw [decide_eq_true c]; rfl
  · have z : L - (i + 1) = 0 := by omega
    rw [z] at h1
    have h2 : ro_sd 4 e i + e i + 0 = n := h1
    rw [decide_eq_true (show ro_sd 4 e i + e i = n by omega), Bool.or_true]
theorem ro_mi3 {n k : Nat} {d e : Nat → Nat} {L : Nat} (hL : L = 2 * n) (hL0 : 0 < L) (hd : ro_OK 3 n k d L) (he : ∀ i, e i = 1 - d (L - 1 - i)) : ro_OK 3 n k e L := by
  have hok : ∀ i, i < L → d i ≤ 1 ∧ ro_sd 3 d i + d i ≤ n ∧ i + 1 ≤ 2 * (ro_sd 3 d i + d i) := fun i hi => by
    have t : (decide (d i ≤ 1) && (decide (ro_sd 3 d i + d i ≤ n) && decide (i + 1 ≤ 2 * (ro_sd 3 d i + d i)))) = true := (hd i hi).2
    rw [Bool.and_eq_true, Bool.and_eq_true] at t
    exact ⟨of_decide_eq_true t.1, of_decide_eq_true t.2.1, of_decide_eq_true t.2.2⟩
  have hb : ∀ i, i ≤ L → ro_sd 3 d i ≤ i ∧ i ≤ 2 * ro_sd 3 d i := by
    intro i
    induction i with
    | zero => intro _; exact ⟨Nat.le_refl _, Nat.zero_le _⟩
    | succ i ih =>
      intro hi
      have h1 := ih (by omega)
      have h2 := hok i (by omega)
      show ro_sd 3 d i + d i ≤ i + 1 ∧ i + 1 ≤ 2 * (ro_sd 3 d i + d i)
      omega
  have hlast : ro_sd 3 d L = n := by
    have h1 := hb L (Nat.le_refl _)
    have h2 := hok (L - 1) (by omega)
    obtain ⟨c, hc⟩ : ∃ c, L = c + 1 := ⟨L - 1, by omega⟩
    have e1 : ro_sd 3 d L = ro_sd 3 d (L - 1) + d (L - 1) := by rw [hc]; rfl
    omega
  have hs : ∀ i, i ≤ L → ro_sd 3 e i + n = i + ro_sd 3 d (L - i) := by
    intro i
    induction i with
    | zero =>
      intro _
      rw [Nat.sub_zero, hlast]
      show 0 + n = 0 + n
      rfl
    | succ i ih =>
      intro hi
      have h1 := ih (by omega)
      have h2 := hok (L - 1 - i) (by omega)
      show ro_sd 3 e i + e i + n = i + 1 + ro_sd 3 d (L - (i + 1))
      have e1 : ro_sd 3 d (L - i) = ro_sd 3 d (L - (i + 1)) + d (L - 1 - i) := by
        obtain ⟨c, hc⟩ : ∃ c, L - i = c + 1 := ⟨L - i - 1, by omega⟩
        rw [hc, show L - (i + 1) = c by omega, show L - 1 - i = c by omega]; rfl
      rw [he]; omega
  intro i hi
  refine ⟨by rw [he]; omega, ?_⟩
  show (decide (e i ≤ 1) && (decide (ro_sd 3 e i + e i ≤ n) && decide (i + 1 ≤ 2 * (ro_sd 3 e i + e i)))) = true
  have h1 : ro_sd 3 e i + e i + n = i + 1 + ro_sd 3 d (L - (i + 1)) := hs (i + 1) (by omega)
  have h2 := hb (L - (i + 1)) (by omega)
  rw [decide_eq_true (by rw [he]; omega), decide_eq_true (by omega), decide_eq_true (by omega)]; rfl
theorem ro_miOK {s n k cur : Nat} (h : ro_VC s n k) (hs2 : s ≠ 2) (hc : cur < ro_m s n k) (hne : ¬ (s = 4 ∧ k = 0)) : ro_OK s n k (ro_mi s n k (ro_ob s n k cur)) (ro_L s n k) := by
  have hd := ro_OKob hne hc
  obtain ⟨h1, h7, hs⟩ := h
  rcases hs with ⟨rfl, hkn⟩ | ⟨rfl, hkn⟩ | ⟨rfl | rfl | rfl, rfl⟩
  · exact ro_mi0 rfl hd (fun _ => rfl) h7
  · exact ro_mi4 rfl (show 0 < k by omega) hd (fun _ => rfl)
  · exact ro_mi1 hd (fun _ => rfl)
  · exact absurd rfl hs2
  · exact ro_mi3 rfl (show 0 < 2 * n by omega) hd (fun _ => rfl)
/-- what is subtracted in a mirror image -/
theorem ro_miI {s n k cur i : Nat} (h : ro_VC s n k) (hc : cur < ro_m s n k) (hne : ¬ (s = 4 ∧ k = 0)) (hi : i < ro_L s n k) : (s = 0 → ro_dg (ro_L s n k) (ro_ob s n k cur) i + 1 ≤ n) ∧ (s = 3 → ro_dg (ro_L s n k) (ro_ob s n k cur) i ≤ 1) := by
  have hd := ro_OKob hne hc
  constructor
  · rintro rfl
    have t : (decide (ro_dg (ro_L 0 n k) (ro_ob 0 n k cur) i < n) && _) = true := (hd i hi).2
    rw [Bool.and_eq_true] at t
    exact of_decide_eq_true t.1
  · rintro rfl
    have t : (decide (ro_dg (ro_L 3 n k) (ro_ob 3 n k cur) i ≤ 1) && _) = true := (hd i hi).2
    rw [Bool.and_eq_true] at t
    exact of_decide_eq_true t.1
theorem ro_s0 {s n k : Nat} (h : ro_VC s n k) (a : Nat) (ha : a < 5) : nI s = nI a ↔ s = a := by
  have := h.2.2
  exact nI_eq (by omega) (by omega)
theorem ro_mIX (post : Int32 → Prop) (f3 f4 f5 f6 : Int32) (s n k d : Nat) (aB aG al ao : Nat → Int32) (h : ro_VC s n k) (h0 : s = 0 → d + 1 ≤ n) (h3 : s = 3 → d ≤ 1) (hp : post (nI (ro_im1 s n d))) : wpX_mirrorImage post (nI s, nI n, f3, f4, f5, f6, aB, aG, al, ao) (nI d) := by
  have h' := h
  obtain ⟨h1, h7, hs⟩ := h'
  rcases hs with ⟨rfl, hkn⟩ | ⟨rfl, hkn⟩ | ⟨rfl | rfl | rfl, rfl⟩
  · have := h0 rfl
    refine br_t (by decide : nI 0 = 0) ?_
    rw [show (1 : Int32) = nI 1 from rfl, pk_sub h1, pk_sub (by omega)]; exact hp
  · exact br_f (by decide : ¬ nI 4 = 0) (br_f (by decide : ¬ nI 4 = 3) hp)
  · exact br_f (by decide : ¬ nI 1 = 0) (br_f (by decide : ¬ nI 1 = 3) hp)
  · exact br_f (by decide : ¬ nI 2 = 0) (br_f (by decide : ¬ nI 2 = 3) hp)
  · refine br_f (by decide : ¬ nI 3 = 0) (br_t (by decide : nI 3 = 3) ?_)
    rw [show (1 : Int32) = nI 1 from rfl, pk_sub (h3 rfl)]; exact hp
theorem ro_mX20 (post : Int32 → SX → Prop) (f3 f5 f6 : Int32) (s n k cur : Nat) (al : Nat → Int32) (h : ro_VC s n k) (hs2 : s ≠ 2) (hne : ¬ (s = 4 ∧ k = 0)) (hk : s = 0 ∨ s = 4 → f3 = nI k) (hc : cur < ro_m s n k) (h1 : ∀ i, i < ro_L s n k → al i = nI (ro_dg (ro_L s n k) (ro_ob s n k cur) i))
    (hp : ∀ ao, post (nI (ro_rk s n k 0 (ro_pk (ro_mi s n k (ro_ob s n k cur)) (ro_L s n k)))) (nI s, nI n, f3, nI (ro_L s n k), f5, f6, ro_BA, ro_GA, al, ao)) :
    ∀ r j ao, j + r = ro_L s n k → (∀ i, i < j → ao i = nI (ro_mi s n k (ro_ob s n k cur) i)) → wX_mirrored_20 post (nI s) (nI n) f3 (nI (ro_L s n k)) f5 f6 (r + 1) (nI j) ro_BA ro_GA al ao := by
  have h14 := ro_L14 h
  have hOK := ro_miOK h hs2 hc hne
  intro r
  induction r with
  | zero =>
    intro j ao hj ha
    have e : j = ro_L s n k := by omega
    subst e
    refine br_t (nI_le (Nat.le_refl _) (by omega)) ?_
    rcases Nat.eq_zero_or_pos (ro_L s n k) with hz | hz
    · refine ⟨1, br_t (by rw [hz]; decide) ?_⟩
      have := hp ao
      rw [show ro_pk (ro_mi s n k (ro_ob s n k cur)) (ro_L s n k) = 0 by rw [hz]; rfl, ro_rk0] at this
      exact this
    · obtain ⟨p, hpL⟩ : ∃ p, ro_L s n k = p + 1 := ⟨ro_L s n k - 1, by omega⟩
      have e1 : nI (ro_L s n k) - 1 = nI p := by rw [hpL, nI_pred]
      rw [e1]
      refine ro_fw_other _ f3 f5 f6 s n k p (ro_mi s n k (ro_ob s n k cur)) al ao h hne hk (by omega) (fun i hi => hOK i (by omega)) (fun i hi => ha i (by omega)) ?_
      rw [← hpL, Nat.sub_self]
      exact hp ao
  | succ r ih =>
    intro j ao hj ha
    have e1 : (nI (ro_L s n k) - 1) - nI j = nI (ro_L s n k - 1 - j) := by
      rw [show (1 : Int32) = nI 1 from rfl, pk_sub (by omega), pk_sub (by omega)]
    have hin : vp_in ((nI (ro_L s n k) - 1) - nI j) 14 := by rw [e1]; exact vp_in_nI (by omega) (by decide)
    have ea : al ((nI (ro_L s n k) - 1) - nI j).toNatClampNeg = nI (ro_dg (ro_L s n k) (ro_ob s n k cur) (ro_L s n k - 1 - j)) := by
      rw [e1, nI_clamp (by omega)]; exact h1 _ (by omega)
    have hI := ro_miI (i := ro_L s n k - 1 - j) h hc hne (by omega)
    refine br_f (nI_ge (by omega) (by omega)) ⟨hin, ?_⟩
    rw [ea]
    refine ro_mIX _ f3 _ f5 f6 s n k _ _ _ al ao h hI.1 hI.2 ?_
    refine ⟨vp_in_nI (by omega) (by decide), nm_e (nm_r (nI_1 j) (ih (j + 1) _ (by omega) (fun i hi => ?_)))⟩
    rw [nI_clamp (by omega)]
    rcases Nat.lt_or_ge i j with c | c
    · rw [pk_un (by omega)]; exact ha i c
    · have : i = j := by omega
      subst this; exact pk_us
theorem ro_pklt {d : Nat → Nat} : ∀ j, (∀ i, i < j → d i < 8) → ro_pk d j < 8 ^ j := by
  intro j
  induction j with
  | zero => intro _; show 0 < 8 ^ 0; decide
  | succ j ih =>
    intro h
    have h1 := ih (fun i hi => h i (by omega))
    have h2 := h j (by omega)
    show 8 * ro_pk d j + d j < 8 ^ (j + 1)
    rw [Nat.pow_succ]; omega
theorem ro_mY99 (post : Int32 → Prop) (f3 f4 : Int32) (s n k t c0 : Nat) (yl yo : Nat → Int64) (h : ro_VC s n k) (hne : ¬ (s = 4 ∧ k = 0)) (hl : ro_LA yl (ro_obs s n k)) (hc : c0 < ro_m s n k) (ht : ro_ob s n k c0 = t) (hp : post (nI (ro_rk s n k 0 t))) :
    ∀ r num, num + r = ro_rk s n k 0 t → wY_mirrored_99 post (lN t) (nI s) (nI n) f3 f4 (nI (ro_m s n k)) yl yo (r + 1) (nI num) := by
  have hcap := ro_capm h
  obtain ⟨h1, h2, h3⟩ := ro_fst (r := 0) (t := t) hne hc (by rw [Nat.pow_zero, Nat.div_one]; exact ht)
  have ht42 := ro_oblt h hne hc
  rw [ht] at ht42
  intro r
  induction r with
  | zero =>
    intro num hn
    have e : num = ro_rk s n k 0 t := by omega
    subst e
    rw [Nat.pow_zero, Nat.div_one] at h3
    refine br_f (nI_ge (by omega) (by omega)) ⟨vp_in_nI (by omega) (by decide), br_t ?_ hp⟩
    rw [nI_clamp (by omega), hl _ (show _ < ro_m s n k by omega)]
    exact congrArg lN h3
  | succ r ih =>
    intro num hn
    have h4 := h2 num (by omega)
    rw [Nat.pow_zero, Nat.div_one] at h4
    have b := ro_oblt h hne (show num < ro_m s n k by omega)
    refine br_f (nI_ge (by omega) (by omega)) ⟨vp_in_nI (by omega) (by decide), br_f ?_ (nm_r (nI_1 num) (ih (num + 1) (by omega)))⟩
    rw [nI_clamp (by omega), hl _ (show _ < ro_m s n k by omega)]
    show ¬ lN (ro_ob s n k num) = lN t
    rw [pk_lEQ (by omega) (by omega)]
    exact h4
theorem ro_mY27 (post : Int32 → Prop) (f3 : Int32) (s n k cur : Nat) (yl yo : Nat → Int64) (h : ro_VC s n k) (hs2 : s ≠ 2) (hne : ¬ (s = 4 ∧ k = 0)) (hk : s = 0 ∨ s = 4 → f3 = nI k) (hl : ro_LA yl (ro_obs s n k)) (hc : cur < ro_m s n k)
    (hp : post (nI (ro_rk s n k 0 (ro_pk (ro_mi s n k (ro_ob s n k cur)) (ro_L s n k))))) :
    ∀ r j, j + r = ro_L s n k → wY_mirrored_27 post (nI s) (nI n) f3 (nI cur) (nI (ro_m s n k)) yl yo (r + 1) (lN (ro_pk (ro_mi s n k (ro_ob s n k cur)) j)) (nI r - 1) := by
  have h14 := ro_L14 h
  have hcap := ro_capm h
  have hOK := ro_miOK h hs2 hc hne
  have i2 : vp_in (nI cur) 5040 := vp_in_nI (by omega) (by decide)
  have c2 : yl (nI cur).toNatClampNeg = lN (ro_ob s n k cur) := by rw [nI_clamp (by omega)]; exact hl cur hc
  have b2 := ro_oblt h hne hc
  intro r
  induction r with
  | zero =>
    intro j hj
    have e : j = ro_L s n k := by omega
    subst e
    obtain ⟨c0, hc0, e0⟩ := ro_obE hne (ro_Mpk _ hOK)
    exact br_t (by decide : nI 0 - 1 < 0) ⟨_, ro_mY99 post f3 (nI cur) s n k _ c0 yl yo h hne hl hc0 e0 hp _ 0 (Nat.zero_add _)⟩
  | succ r ih =>
    intro j hj
    have IH := ih (j + 1) (by omega)
    have er : r = ro_L s n k - 1 - j := by omega
    rw [nI_pred]
    refine br_f (nI_pos (by omega)) ⟨i2, ?_⟩
    rw [c2]
    refine ro_dig _ f3 _ _ s n k r _ yl yo h hk (by omega) b2 ?_
    have hI := ro_miI (i := r) h hc hne (by omega)
    have d8 := ro_dg8 (ro_L s n k) (ro_ob s n k cur) r
    have es : ro_pk (ro_mi s n k (ro_ob s n k cur)) (j + 1) = 8 * ro_pk (ro_mi s n k (ro_ob s n k cur)) j + ro_im1 s n (ro_dg (ro_L s n k) (ro_ob s n k cur) r) := by
      rw [er]; rfl
    rw [es] at IH
    have mk : ∀ y : Int32, y = nI (ro_im1 s n (ro_dg (ro_L s n k) (ro_ob s n k cur) r)) → ro_im1 s n (ro_dg (ro_L s n k) (ro_ob s n k cur) r) < 8 → 8 * lN (ro_pk (ro_mi s n k (ro_ob s n k cur)) j) + y.toInt64 = lN (8 * ro_pk (ro_mi s n k (ro_ob s n k cur)) j + ro_im1 s n (ro_dg (ro_L s n k) (ro_ob s n k cur) r)) := by
      rintro y rfl hlt
      rw [nI_l (by omega), show (8 : Int64) = lN 8 from rfl, lN_mul, lN_add]
    have h' := h
    obtain ⟨h1, h7, hs⟩ := h'
    rcases hs with ⟨rfl, hkn⟩ | ⟨rfl, hkn⟩ | ⟨rfl | rfl | rfl, rfl⟩
    · have q := hI.1 rfl
      refine br_t (by decide : nI 0 = 0) (nm_r (mk _ ?_ ?_) (nm_r (ro_m1 _) IH))
      · rw [show (1 : Int32) = nI 1 from rfl, pk_sub h1, pk_sub (by omega)]; rfl
      · show n - 1 - _ < 8; omega
    · exact br_f (by decide : ¬ nI 4 = 0) (br_f (by decide : ¬ nI 4 = 3) (nm_r (mk _ rfl d8) (nm_r (ro_m1 _) IH)))
    · exact br_f (by decide : ¬ nI 1 = 0) (br_f (by decide : ¬ nI 1 = 3) (nm_r (mk _ rfl d8) (nm_r (ro_m1 _) IH)))
    · exact absurd rfl hs2
    · have q := hI.2 rfl
      refine br_f (by decide : ¬ nI 3 = 0) (br_t (by decide : nI 3 = 3) (nm_r (mk _ ?_ ?_) (nm_r (ro_m1 _) IH)))
      · rw [show (1 : Int32) = nI 1 from rfl, pk_sub q]; rfl
      · show 1 - _ < 8; omega
