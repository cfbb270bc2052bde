def ro_ob (s n k i : Nat) : Nat := (ro_obs s n k).getD i 0
def ro_m (s n k : Nat) : Nat := (ro_obs s n k).length
theorem ro_obs1 {s n k : Nat} (h : ¬ (s = 4 ∧ k = 0)) : ro_obs s n k = ro_lev s n k (ro_L s n k) := if_neg h
theorem ro_obS {s n k : Nat} (hne : ¬ (s = 4 ∧ k = 0)) {i i' : Nat} (h : i < i') (h' : i' < ro_m s n k) : ro_ob s n k i < ro_ob s n k i' := by
  unfold ro_ob
  unfold ro_m at h'
  rw [ro_gD _ _ (by omega), ro_gD _ _ h']
  refine (List.pairwise_iff_getElem.mp ?_) i i' (by omega) h' h
  rw [ro_obs1 hne]; exact ro_levS s n k _
theorem ro_obM {s n k : Nat} (hne : ¬ (s = 4 ∧ k = 0)) {i : Nat} (h : i < ro_m s n k) : ro_M s n k (ro_L s n k) (ro_ob s n k i) = true := by
  unfold ro_ob
  unfold ro_m at h
  rw [ro_gD _ _ h, ← ro_levM, ← ro_obs1 hne]
  exact List.getElem_mem h
theorem ro_obE {s n k : Nat} (hne : ¬ (s = 4 ∧ k = 0)) {x : Nat} (h : ro_M s n k (ro_L s n k) x = true) : ∃ i, i < ro_m s n k ∧ ro_ob s n k i = x := by
  rw [← ro_levM, ← ro_obs1 hne] at h
  obtain ⟨i, hi, e⟩ := List.getElem_of_mem h
  exact ⟨i, hi, by unfold ro_ob; rw [ro_gD _ _ hi, e]⟩
theorem ro_N {s n k : Nat} (hne : ¬ (s = 4 ∧ k = 0)) : ∀ r j t, j + r = ro_L s n k → ro_ct (fun i => decide (ro_ob s n k i / 8 ^ r = t)) (ro_m s n k) = cond (ro_M s n k j t) (ro_cnt s n k r j (ro_stc s j t)) 0 := by
  intro r
  induction r with
  | zero =>
    intro j t hj
    have hj' : j = ro_L s n k := by omega
    subst hj'
    cases hm : ro_M s n k (ro_L s n k) t
    · refine ro_ct0 _ (fun i hi => decide_eq_false (fun e => ?_))
      have := ro_obM hne hi
      rw [Nat.pow_zero, Nat.div_one] at e
      rw [e, hm] at this; cases this
    · obtain ⟨i0, h0, e0⟩ := ro_obE hne hm
      refine ro_ctu i0 _ h0 (fun i hi => ?_)
      show decide (ro_ob s n k i / 8 ^ 0 = t) = true ↔ i = i0
      rw [Nat.pow_zero, Nat.div_one, decide_eq_true_iff]
      constructor
      · intro e
        rcases Nat.lt_trichotomy i i0 with c | c | c
        · have := ro_obS hne c h0; omega
        · exact c
        · have := ro_obS hne c hi; omega
      · intro e; rw [e, e0]
  | succ r ih =>
    intro j t hj
    have e : ro_ct (fun i => decide (ro_ob s n k i / 8 ^ (r + 1) = t)) (ro_m s n k) = ro_ct (fun i => decide (ro_ob s n k i / 8 ^ r / 8 = t)) (ro_m s n k) := by
      refine ro_ctc _ (fun i _ => ?_)
      show decide (ro_ob s n k i / 8 ^ (r + 1) = t) = decide (ro_ob s n k i / 8 ^ r / 8 = t)
      rw [Nat.div_div_eq_div_mul, Nat.pow_succ]
    rw [e, ro_ct8 (fun i => ro_ob s n k i / 8 ^ r) t]
    have e2 : ro_s8 (fun v => ro_ct (fun i => decide (ro_ob s n k i / 8 ^ r = 8 * t + v)) (ro_m s n k)) = ro_s8 (fun v => cond (ro_M s n k j t && ro_ok s n k j (ro_stc s j t) v) (ro_cnt s n k r (j + 1) (ro_de s (ro_stc s j t) v)) 0) := by
      refine ro_s8c (fun v hv => ?_)
      rw [ih (j + 1) (8 * t + v) (by omega), ro_M8 _ _ _ _ _ _ hv, ro_st8 _ _ _ _ hv]
    rw [e2]
    cases ro_M s n k j t
    · rfl
    · rfl
/-! ranks -/
def ro_rk (s n k r t : Nat) : Nat := ro_ct (fun i => decide (ro_ob s n k i / 8 ^ r < t)) (ro_m s n k)
theorem ro_rkA {s n k : Nat} (hne : ¬ (s = 4 ∧ k = 0)) (r t : Nat) {num : Nat} (h : num < ro_m s n k) : ro_rk s n k r t ≤ num ↔ t ≤ ro_ob s n k num / 8 ^ r := by
  unfold ro_rk
  have mono : ∀ i i', i ≤ i' → i' < ro_m s n k → ro_ob s n k i / 8 ^ r ≤ ro_ob s n k i' / 8 ^ r := by
    intro i i' h1 h2
    rcases Nat.lt_or_ge i i' with c | c
    · exact Nat.div_le_div_right (Nat.le_of_lt (ro_obS hne c h2))
    · have : i = i' := by omega
      subst this; exact Nat.le_refl _
  constructor
  · intro hle
    rcases Nat.lt_or_ge (ro_ob s n k num / 8 ^ r) t with c | c
    · exfalso
      have h1 : ro_ct (fun i => decide (ro_ob s n k i / 8 ^ r < t)) (num + 1) = num + 1 := ro_ct1 _ (fun i hi => decide_eq_true (by
        have := mono i num (by omega) h; omega))
      have h2 := ro_ctmono (P := fun i => decide (ro_ob s n k i / 8 ^ r < t)) (ro_m s n k) (num + 1) (by omega)
      omega
    · exact c
  · intro ht
    have key : ∀ d, num + d ≤ ro_m s n k → ro_ct (fun i => decide (ro_ob s n k i / 8 ^ r < t)) (num + d) = ro_ct (fun i => decide (ro_ob s n k i / 8 ^ r < t)) num := by
      intro d
      induction d with
      | zero => intro _; rfl
      | succ d ih =>
        intro hd
        show ro_ct (fun i => decide (ro_ob s n k i / 8 ^ r < t)) (num + d) + cond (decide (ro_ob s n k (num + d) / 8 ^ r < t)) 1 0 = _
        have := mono num (num + d) (by omega) (by omega)
        rw [decide_eq_false (by omega), ih (by omega)]; rfl
    have e : num + (ro_m s n k - num) = ro_m s n k := by omega
    have k1 := key (ro_m s n k - num) (by omega)
    rw [e] at k1
    rw [k1]; exact ro_ctle _
theorem ro_rkB (s n k r t : Nat) : ro_rk s n k r (t + 1) = ro_rk s n k r t + ro_ct (fun i => decide (ro_ob s n k i / 8 ^ r = t)) (ro_m s n k) := by
  unfold ro_rk
  refine ro_ctadd _ (fun i _ => ?_)
  generalize ro_ob s n k i / 8 ^ r = a
  rcases Nat.lt_trichotomy a t with c | c | c
  · rw [decide_eq_true (by omega), decide_eq_true c, decide_eq_false (by omega)]; rfl
  · rw [decide_eq_true (by omega), decide_eq_false (by omega), decide_eq_true c]; rfl
  · rw [decide_eq_false (by omega), decide_eq_false (by omega), decide_eq_false (by omega)]; rfl
theorem ro_rkC (s n k r p : Nat) : ro_rk s n k r (8 * p) = ro_rk s n k (r + 1) p := by
  unfold ro_rk
  refine ro_ctc _ (fun i _ => ?_)
  rw [Nat.pow_succ, ← Nat.div_div_eq_div_mul]
  generalize ro_ob s n k i / 8 ^ r = a
  rcases Nat.lt_or_ge a (8 * p) with c | c
  · rw [decide_eq_true c, decide_eq_true (by omega)]
  · rw [decide_eq_false (by omega), decide_eq_false (by omega)]
theorem ro_rk0 (s n k r : Nat) : ro_rk s n k r 0 = 0 := ro_ct0 _ (fun _ _ => decide_eq_false (Nat.not_lt_zero _))
theorem ro_rkm (s n k r t : Nat) : ro_rk s n k r t ≤ ro_m s n k := ro_ctle _
/-! a beginning as a function of its numbers -/
def ro_pk (d : Nat → Nat) : Nat → Nat
  | 0 => 0
  | j + 1 => 8 * ro_pk d j + d j
def ro_sd (s : Nat) (d : Nat → Nat) : Nat → Nat
  | 0 => 0
  | j + 1 => ro_de s (ro_sd s d j) (d j)
def ro_dg (L x i : Nat) : Nat := x / 8 ^ (L - 1 - i) % 8
def ro_OK (s n k : Nat) (d : Nat → Nat) (j : Nat) : Prop := ∀ i, i < j → d i < 8 ∧ ro_ok s n k i (ro_sd s d i) (d i) = true
theorem ro_pkc {d e : Nat → Nat} : ∀ j, (∀ i, i < j → d i = e i) → ro_pk d j = ro_pk e j := by
  intro j
  induction j with
  | zero => intro _; rfl
  | succ j ih => intro h; show 8 * ro_pk d j + d j = 8 * ro_pk e j + e j; rw [ih (fun i hi => h i (by omega)), h j (by omega)]
theorem ro_sdc (s : Nat) {d e : Nat → Nat} : ∀ j, (∀ i, i < j → d i = e i) → ro_sd s d j = ro_sd s e j := by
  intro j
  induction j with
  | zero => intro _; rfl
  | succ j ih => intro h; show ro_de s (ro_sd s d j) (d j) = ro_de s (ro_sd s e j) (e j); rw [ih (fun i hi => h i (by omega)), h j (by omega)]
theorem ro_stpk (s : Nat) {d : Nat → Nat} : ∀ j, (∀ i, i < j → d i < 8) → ro_stc s j (ro_pk d j) = ro_sd s d j := by
  intro j
  induction j with
  | zero => intro _; rfl
  | succ j ih =>
    intro h
    show ro_stc s (j + 1) (8 * ro_pk d j + d j) = ro_de s (ro_sd s d j) (d j)
    rw [ro_st8 _ _ _ _ (h j (by omega)), ih (fun i hi => h i (by omega))]
theorem ro_Mpk {s n k : Nat} {d : Nat → Nat} : ∀ j, ro_OK s n k d j → ro_M s n k j (ro_pk d j) = true := by
  intro j
  induction j with
  | zero => intro _; rfl
  | succ j ih =>
    intro h
    show ro_M s n k (j + 1) (8 * ro_pk d j + d j) = true
    rw [ro_M8 _ _ _ _ _ _ (h j (by omega)).1, ih (fun i hi => h i (by omega)), ro_stpk s j (fun i hi => (h i (by omega)).1)]
    exact (h j (by omega)).2
theorem ro_pkM {s n k : Nat} {d : Nat → Nat} : ∀ j, (∀ i, i < j → d i < 8) → ro_M s n k j (ro_pk d j) = true → ro_OK s n k d j := by
  intro j
  induction j with
  | zero => intro _ _ i hi; omega
  | succ j ih =>
    intro h8 h i hi
    have h' : ro_M s n k (j + 1) (8 * ro_pk d j + d j) = true := h
    rw [ro_M8 _ _ _ _ _ _ (h8 j (by omega)), ro_stpk s j (fun i hi => h8 i (by omega)), Bool.and_eq_true] at h'
    rcases Nat.lt_or_ge i j with c | c
    · exact ih (fun i hi => h8 i (by omega)) h'.1 i c
    · have : i = j := by omega
      subst this; exact ⟨h8 i (by omega), h'.2⟩
theorem ro_dg8 (L x i : Nat) : ro_dg L x i < 8 := Nat.mod_lt _ (by decide)
theorem ro_pkdg {L x : Nat} (hx : x < 8 ^ L) : ∀ j, j ≤ L → ro_pk (ro_dg L x) j = x / 8 ^ (L - j) := by
  intro j
  induction j with
  | zero => intro _; exact (Nat.div_eq_of_lt hx).symm
  | succ j ih =>
    intro hj
    show 8 * ro_pk (ro_dg L x) j + x / 8 ^ (L - 1 - j) % 8 = x / 8 ^ (L - (j + 1))
    have e1 : L - j = (L - (j + 1)) + 1 := by omega
    have e2 : L - 1 - j = L - (j + 1) := by omega
    rw [ih (by omega), e1, e2, Nat.pow_succ, ← Nat.div_div_eq_div_mul]
    omega
theorem ro_dgpk {d : Nat → Nat} : ∀ L, (∀ i, i < L → d i < 8) → ∀ i, i < L → ro_dg L (ro_pk d L) i = d i := by
  intro L
  induction L with
  | zero => intro _ i hi; omega
  | succ L ih =>
    intro h i hi
    have h8 := h L (by omega)
    show (8 * ro_pk d L + d L) / 8 ^ (L + 1 - 1 - i) % 8 = d i
    rcases Nat.lt_or_ge i L with c | c
    · have e : L + 1 - 1 - i = (L - 1 - i) + 1 := by omega
      rw [e, Nat.pow_succ, Nat.mul_comm (8 ^ _) 8, ← Nat.div_div_eq_div_mul, show (8 * ro_pk d L + d L) / 8 = ro_pk d L by omega]
      exact ih (fun i hi => h i (by omega)) i c
    · have e : i = L := by omega
      subst e
      rw [show i + 1 - 1 - i = 0 by omega, Nat.pow_zero, Nat.div_one]
      omega
theorem ro_OKob {s n k : Nat} (hne : ¬ (s = 4 ∧ k = 0)) {i : Nat} (h : i < ro_m s n k) : ro_OK s n k (ro_dg (ro_L s n k) (ro_ob s n k i)) (ro_L s n k) := by
  have hM := ro_obM hne h
  have hx := ro_Mlt _ _ _ _ _ hM
  refine ro_pkM _ (fun i _ => ro_dg8 _ _ _) ?_
  rw [ro_pkdg hx _ (Nat.le_refl _), Nat.sub_self, Nat.pow_zero, Nat.div_one]
  exact hM
/-- how many objects have the beginning and then v -/
def ro_wy (s n k j q v : Nat) : Nat := cond (ro_ok s n k j q v) (ro_cnt s n k (ro_L s n k - j - 1) (j + 1) (ro_de s q v)) 0
theorem ro_wyN {s n k : Nat} (hne : ¬ (s = 4 ∧ k = 0)) {d : Nat → Nat} {j v : Nat} (hj : j < ro_L s n k) (h : ro_OK s n k d j) (hv : v < 8) :
    ro_wy s n k j (ro_sd s d j) v = ro_ct (fun i => decide (ro_ob s n k i / 8 ^ (ro_L s n k - j - 1) = 8 * ro_pk d j + v)) (ro_m s n k) := by
  rw [ro_N hne _ (j + 1) _ (by omega), ro_M8 _ _ _ _ _ _ hv, ro_st8 _ _ _ _ hv, ro_Mpk _ h, ro_stpk s j (fun i hi => (h i hi).1)]
  rfl
