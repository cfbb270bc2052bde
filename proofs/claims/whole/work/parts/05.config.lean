theorem ro_imE {a b : Bool} (h : ro_im a b = true) (ha : a = true) : b = true := by
  subst ha; exact h
def ro_VC (s n k : Nat) : Prop := 1 ≤ n ∧ n ≤ 7 ∧ ((s = 0 ∧ k ≤ n) ∨ (s = 4 ∧ k ≤ n) ∨ ((s = 1 ∨ s = 2 ∨ s = 3) ∧ k = 0))
theorem ro_cfgT {s n k : Nat} (h : ro_VC s n k) (hne : ¬ (s = 4 ∧ k = 0)) : ro_cfg s n k = true := by
  obtain ⟨h1, h7, h⟩ := h
  obtain ⟨n, rfl⟩ : ∃ p, n = p + 1 := ⟨n - 1, by omega⟩
  have hn : n < 7 := by omega
  rcases h with ⟨rfl, hk⟩ | ⟨rfl, hk⟩ | ⟨rfl | rfl | rfl, rfl⟩
  · exact ro_alE _ (ro_alE _ ro_c0 n hn) k (by omega)
  · obtain ⟨k, rfl⟩ : ∃ p, k = p + 1 := ⟨k - 1, by omega⟩
    exact ro_alE _ (ro_alE _ ro_c4 n hn) k (by omega)
  · exact ro_alE _ ro_c1 n hn
  · exact ro_alE _ ro_c2 n hn
  · exact ro_alE _ ro_c3 n hn
theorem ro_L14 {s n k : Nat} (h : ro_VC s n k) : ro_L s n k ≤ 14 := by
  obtain ⟨h1, h7, h⟩ := h
  rcases h with ⟨rfl, hk⟩ | ⟨rfl, hk⟩ | ⟨rfl | rfl | rfl, rfl⟩ <;> simp only [ro_L] <;> omega
theorem ro_RRq {s n k : Nat} (h : ro_VC s n k) {j q : Nat} (hj : j ≤ ro_L s n k) (hr : ro_RR s n k j q = true) : q < ro_qb s := by
  obtain ⟨h1, h7, h⟩ := h
  rcases h with ⟨rfl, hk⟩ | ⟨rfl, hk⟩ | ⟨rfl | rfl | rfl, rfl⟩
  · have : q ≤ n := Nat.le_of_ble_eq_true hr
    show q < 15; omega
  · have hr' : (Nat.ble q n && (Nat.blt j k || Nat.beq q n)) = true := hr
    rw [Bool.and_eq_true] at hr'
    have : q ≤ n := Nat.le_of_ble_eq_true hr'.1
    show q < 15; omega
  · have hr' : (Nat.blt q (2 ^ n) && Nat.beq (ro_pc q) j) = true := hr
    rw [Bool.and_eq_true] at hr'
    have h2 : q < 2 ^ n := Nat.le_of_ble_eq_true hr'.1
    have h3 : 2 ^ n ≤ 2 ^ 7 := Nat.pow_le_pow_right (by decide) h7
    show q < 128; omega
  · have : q ≤ j := Nat.le_of_ble_eq_true hr
    have hj' : j ≤ n := hj
    show q < 15; omega
  · have hr' : (Nat.ble q n && (Nat.ble j (2 * q) && Nat.ble q j)) = true := hr
    rw [Bool.and_eq_true] at hr'
    have : q ≤ n := Nat.le_of_ble_eq_true hr'.1
    show q < 15; omega
theorem ro_st1T {s n k : Nat} (h : ro_VC s n k) (hne : ¬ (s = 4 ∧ k = 0)) {j q : Nat} (hj : j < ro_L s n k) (hr : ro_RR s n k j q = true) :
    (∀ v, v < 8 → ro_ok s n k j q v = true → ro_RR s n k (j + 1) (ro_de s q v) = true) ∧
    (ro_cf s n k j q = ro_s8 (fun v => cond (ro_ok s n k j q v) (ro_cf s n k (j + 1) (ro_de s q v)) 0)) ∧
    (ro_s8 (fun v => cond (ro_ok s n k j q v) (ro_wt s n k (j + 1) (ro_de s q v)) 0) ≤ ro_wt s n k j q) ∧
    (∀ v, v < 8 → ro_ok s n k j q v = true → v ≤ n) := by
  have hc := ro_cfgT h hne
  unfold ro_cfg at hc
  rw [Bool.and_eq_true] at hc
  have h1 := ro_alE _ (ro_alE _ hc.1 j hj) q (ro_RRq h (Nat.le_of_lt hj) hr)
  have h2 := ro_imE h1 hr
  rw [Bool.and_eq_true, Bool.and_eq_true, Bool.and_eq_true] at h2
  refine ⟨fun v hv ho => ro_imE (ro_alE _ h2.1 v hv) ho, Nat.eq_of_beq_eq_true h2.2.1, Nat.le_of_ble_eq_true h2.2.2.1, fun v hv ho => ?_⟩
  exact Nat.le_of_ble_eq_true (ro_imE (ro_alE _ h2.2.2.2 v hv) ho)
theorem ro_st2T {s n k : Nat} (h : ro_VC s n k) (hne : ¬ (s = 4 ∧ k = 0)) {q : Nat} (hr : ro_RR s n k (ro_L s n k) q = true) : ro_cf s n k (ro_L s n k) q = 1 := by
  have hc := ro_cfgT h hne
  unfold ro_cfg at hc
  rw [Bool.and_eq_true, Bool.and_eq_true] at hc
  have h1 := ro_alE _ hc.2.1 q (ro_RRq h (Nat.le_refl _) hr)
  exact Nat.eq_of_beq_eq_true (ro_imE h1 hr)
theorem ro_st3T {s n k : Nat} (h : ro_VC s n k) (hne : ¬ (s = 4 ∧ k = 0)) {j q : Nat} (hj : j ≤ ro_L s n k) (hr : ro_RR s n k j q = true) : 1 ≤ ro_wt s n k j q := by
  have hc := ro_cfgT h hne
  unfold ro_cfg at hc
  rw [Bool.and_eq_true, Bool.and_eq_true, Bool.and_eq_true] at hc
  have h1 := ro_alE _ (ro_alE _ hc.2.2.1 j (by omega)) q (ro_RRq h hj hr)
  exact Nat.le_of_ble_eq_true (ro_imE h1 hr)
theorem ro_wt0 {s n k : Nat} (h : ro_VC s n k) (hne : ¬ (s = 4 ∧ k = 0)) : ro_wt s n k 0 0 ≤ 5040 := by
  have hc := ro_cfgT h hne
  unfold ro_cfg at hc
  rw [Bool.and_eq_true, Bool.and_eq_true, Bool.and_eq_true, Bool.and_eq_true] at hc
  exact Nat.le_of_ble_eq_true hc.2.2.2.1
theorem ro_RR0 {s n k : Nat} (h : ro_VC s n k) (hne : ¬ (s = 4 ∧ k = 0)) : ro_RR s n k 0 0 = true := by
  obtain ⟨h1, h7, h⟩ := h
  rcases h with ⟨rfl, hk⟩ | ⟨rfl, hk⟩ | ⟨rfl | rfl | rfl, rfl⟩
  · exact Nat.ble_eq_true_of_le (Nat.zero_le _)
  · show (Nat.ble 0 n && (Nat.blt 0 k || Nat.beq 0 n)) = true
    rw [Nat.ble_eq_true_of_le (Nat.zero_le _), show Nat.blt 0 k = true from Nat.ble_eq_true_of_le (by omega)]; rfl
  · show (Nat.blt 0 (2 ^ n) && Nat.beq (ro_pc 0) 0) = true
    rw [show Nat.blt 0 (2 ^ n) = true from Nat.ble_eq_true_of_le (Nat.pow_pos (by decide))]; rfl
  · rfl
  · show (Nat.ble 0 n && (Nat.ble 0 (2 * 0) && Nat.ble 0 0)) = true
    rw [Nat.ble_eq_true_of_le (Nat.zero_le _)]; rfl
theorem ro_sdR {s n k : Nat} (h : ro_VC s n k) (hne : ¬ (s = 4 ∧ k = 0)) {d : Nat → Nat} : ∀ j, j ≤ ro_L s n k → ro_OK s n k d j → ro_RR s n k j (ro_sd s d j) = true := by
  intro j
  induction j with
  | zero => intro _ _; exact ro_RR0 h hne
  | succ j ih =>
    intro hj ho
    have hr := ih (by omega) (fun i hi => ho i (by omega))
    exact (ro_st1T h hne (by omega) hr).1 (d j) (ho j (by omega)).1 (ho j (by omega)).2
theorem ro_stR {s n k : Nat} (h : ro_VC s n k) (hne : ¬ (s = 4 ∧ k = 0)) : ∀ j x, j ≤ ro_L s n k → ro_M s n k j x = true → ro_RR s n k j (ro_stc s j x) = true := by
  intro j
  induction j with
  | zero => intro x _ _; exact ro_RR0 h hne
  | succ j ih =>
    intro x hj hm
    have hm' : ro_M s n k j (x / 8) = true ∧ ro_ok s n k j (ro_stc s j (x / 8)) (x % 8) = true := by rw [← Bool.and_eq_true]; exact hm
    have hr := ih (x / 8) (by omega) hm'.1
    exact (ro_st1T h hne (by omega) hr).1 (x % 8) (by omega) hm'.2
theorem ro_cntcf {s n k : Nat} (h : ro_VC s n k) (hne : ¬ (s = 4 ∧ k = 0)) : ∀ r j q, j + r = ro_L s n k → ro_RR s n k j q = true → ro_cnt s n k r j q = ro_cf s n k j q := by
  intro r
  induction r with
  | zero =>
    intro j q hj hr
    have e : j = ro_L s n k := by omega
    subst e
    exact (ro_st2T h hne hr).symm
  | succ r ih =>
    intro j q hj hr
    have H := ro_st1T h hne (by omega) hr
    rw [H.2.1]
    show ro_s8 (fun v => cond (ro_ok s n k j q v) (ro_cnt s n k r (j + 1) (ro_de s q v)) 0) = _
    refine ro_s8c (fun v hv => ?_)
    cases ho : ro_ok s n k j q v
    · rfl
    · exact ih (j + 1) _ (by omega) (H.1 v hv ho)
/-- the closed form of what X's waysWith answers -/
def ro_wz (s n k j q v : Nat) : Nat := cond (ro_ok s n k j q v) (ro_cf s n k (j + 1) (ro_de s q v)) 0
theorem ro_wyz {s n k : Nat} (h : ro_VC s n k) (hne : ¬ (s = 4 ∧ k = 0)) {j q v : Nat} (hj : j < ro_L s n k) (hr : ro_RR s n k j q = true) (hv : v < 8) : ro_wy s n k j q v = ro_wz s n k j q v := by
  unfold ro_wy ro_wz
  cases ho : ro_ok s n k j q v
  · rfl
  · exact ro_cntcf h hne _ (j + 1) _ (by omega) ((ro_st1T h hne hj hr).1 v hv ho)
/-! no level is longer than 5040 -/
def ro_sm (f : Nat → Nat) : Nat → Nat
  | 0 => 0
  | m + 1 => ro_sm f m + f m
theorem ro_smc {f g : Nat → Nat} : ∀ m, (∀ i, i < m → f i = g i) → ro_sm f m = ro_sm g m := by
  intro m
  induction m with
  | zero => intro _; rfl
  | succ m ih => intro h; show ro_sm f m + f m = ro_sm g m + g m; rw [ih (fun i hi => h i (by omega)), h m (by omega)]
theorem ro_sm1 {f : Nat → Nat} : ∀ m, (∀ i, i < m → 1 ≤ f i) → m ≤ ro_sm f m := by
  intro m
  induction m with
  | zero => intro _; exact Nat.le_refl _
  | succ m ih =>
    intro h
    have h1 := ih (fun i hi => h i (by omega))
    have h2 := h m (by omega)
    show m + 1 ≤ ro_sm f m + f m
    omega
def ro_fl (p : Nat → Bool) (f : Nat → Nat) : Nat → List Nat
  | 0 => []
  | i + 1 => cond (p i) (ro_fl p f i ++ [f i]) (ro_fl p f i)
theorem ro_flE (p : Nat → Bool) (f : Nat → Nat) : ∀ N, ro_fl p f N = ((List.range N).filter p).map f := by
  intro N
  induction N with
  | zero => rfl
  | succ N ih =>
    rw [List.range_succ, List.filter_append, List.map_append, ← ih]
    show cond (p N) (ro_fl p f N ++ [f N]) (ro_fl p f N) = _
    cases hp : p N <;> simp [hp]
theorem ro_flL (p : Nat → Bool) (f : Nat → Nat) : ∀ N, (ro_fl p f N).length = ro_ct p N := by
  intro N
  induction N with
  | zero => rfl
  | succ N ih =>
    show (cond (p N) (ro_fl p f N ++ [f N]) (ro_fl p f N)).length = ro_ct p N + cond (p N) 1 0
    cases p N
    · exact ih
    · show (ro_fl p f N ++ [f N]).length = ro_ct p N + 1
      rw [List.length_append, ih]; rfl
theorem ro_gA1 (l : List Nat) (x i : Nat) (h : i < l.length) : (l ++ [x]).getD i 0 = l.getD i 0 := by
  rw [ro_gD _ _ h, ro_gD _ _ (by rw [List.length_append]; omega), List.getElem_append_left h]
theorem ro_gA2 (l : List Nat) (x : Nat) : (l ++ [x]).getD l.length 0 = x := by
  rw [ro_gD _ _ (by rw [List.length_append]; exact Nat.lt_succ_self _), List.getElem_append_right (Nat.le_refl _)]
  simp
theorem ro_smfl (w : Nat → Nat) (p : Nat → Bool) (f : Nat → Nat) : ∀ N, ro_sm (fun i => w ((ro_fl p f N).getD i 0)) (ro_fl p f N).length = ro_sm (fun i => cond (p i) (w (f i)) 0) N := by
  intro N
  induction N with
  | zero => rfl
  | succ N ih =>
    show ro_sm (fun i => w ((cond (p N) (ro_fl p f N ++ [f N]) (ro_fl p f N)).getD i 0)) (cond (p N) (ro_fl p f N ++ [f N]) (ro_fl p f N)).length = ro_sm (fun i => cond (p i) (w (f i)) 0) N + cond (p N) (w (f N)) 0
    cases p N
    · exact ih
    · show ro_sm (fun i => w ((ro_fl p f N ++ [f N]).getD i 0)) (ro_fl p f N ++ [f N]).length = _ + w (f N)
      rw [List.length_append]
      show ro_sm (fun i => w ((ro_fl p f N ++ [f N]).getD i 0)) (ro_fl p f N).length + w ((ro_fl p f N ++ [f N]).getD (ro_fl p f N).length 0) = _
      rw [ro_gA2, ← ih]
      congr 1
      refine ro_smc _ (fun i hi => ?_)
      show w ((ro_fl p f N ++ [f N]).getD i 0) = _
      rw [ro_gA1 _ _ _ hi]
theorem ro_sm8 (h g : Nat → Nat) : ∀ m, (∀ i, i < m → ro_s8 (fun v => h (8 * i + v)) ≤ g i) → ro_sm h (8 * m) ≤ ro_sm g m := by
  intro m
  induction m with
  | zero => intro _; exact Nat.le_refl _
  | succ m ih =>
    intro H
    have h1 := ih (fun i hi => H i (by omega))
    have h2 := H m (by omega)
    have e : ro_sm h (8 * (m + 1)) = ro_sm h (8 * m) + h (8 * m + 0) + h (8 * m + 1) + h (8 * m + 2) + h (8 * m + 3) + h (8 * m + 4) + h (8 * m + 5) + h (8 * m + 6) + h (8 * m + 7) := rfl
    show ro_sm h (8 * (m + 1)) ≤ ro_sm g m + g m
    unfold ro_s8 at h2
    dsimp only at h2
    omega
def ro_np (s n k j : Nat) (l : List Nat) (i : Nat) : Bool := ro_ok s n k j (ro_stc s j (l.getD (i / 8) 0)) (i % 8)
def ro_nf (l : List Nat) (i : Nat) : Nat := 8 * l.getD (i / 8) 0 + i % 8
theorem ro_nxfl (s n k j : Nat) (l : List Nat) : ro_nx s n k j l = ro_fl (ro_np s n k j l) (ro_nf l) (8 * l.length) := (ro_flE _ _ _).symm
def ro_T (s n k j : Nat) : Nat := ro_sm (fun i => ro_wt s n k j (ro_stc s j ((ro_lev s n k j).getD i 0))) (ro_lev s n k j).length
theorem ro_levR {s n k : Nat} (h : ro_VC s n k) (hne : ¬ (s = 4 ∧ k = 0)) {j i : Nat} (hj : j ≤ ro_L s n k) (hi : i < (ro_lev s n k j).length) : ro_RR s n k j (ro_stc s j ((ro_lev s n k j).getD i 0)) = true := by
  refine ro_stR h hne j _ hj ?_
  rw [← ro_levM, ro_gD _ _ hi]
  exact List.getElem_mem hi
theorem ro_T1 {s n k : Nat} (h : ro_VC s n k) (hne : ¬ (s = 4 ∧ k = 0)) {j : Nat} (hj : j < ro_L s n k) : ro_T s n k (j + 1) ≤ ro_T s n k j := by
  unfold ro_T
  show ro_sm (fun i => ro_wt s n k (j + 1) (ro_stc s (j + 1) ((ro_nx s n k j (ro_lev s n k j)).getD i 0))) (ro_nx s n k j (ro_lev s n k j)).length ≤ _
  rw [ro_nxfl, ro_smfl (fun x => ro_wt s n k (j + 1) (ro_stc s (j + 1) x))]
  refine ro_sm8 _ _ _ (fun i hi => ?_)
  refine Nat.le_trans (Nat.le_of_eq (ro_s8c (fun v hv => ?_))) (ro_st1T h hne hj (ro_levR h hne (Nat.le_of_lt hj) hi)).2.2.1
  show cond (ro_ok s n k j (ro_stc s j ((ro_lev s n k j).getD ((8 * i + v) / 8) 0)) ((8 * i + v) % 8)) (ro_wt s n k (j + 1) (ro_stc s (j + 1) (8 * (ro_lev s n k j).getD ((8 * i + v) / 8) 0 + (8 * i + v) % 8))) 0 = _
  rw [show (8 * i + v) / 8 = i by omega, show (8 * i + v) % 8 = v by omega, ro_st8 _ _ _ _ hv]
theorem ro_T0 {s n k : Nat} (h : ro_VC s n k) (hne : ¬ (s = 4 ∧ k = 0)) : ∀ j, j ≤ ro_L s n k → ro_T s n k j ≤ 5040 := by
  intro j
  induction j with
  | zero =>
    intro _
    have : ro_T s n k 0 = 0 + ro_wt s n k 0 0 := rfl
    have := ro_wt0 h hne
    omega
  | succ j ih => intro hj; exact Nat.le_trans (ro_T1 h hne (by omega)) (ih (by omega))
theorem ro_cap {s n k : Nat} (h : ro_VC s n k) (hne : ¬ (s = 4 ∧ k = 0)) {j : Nat} (hj : j ≤ ro_L s n k) : (ro_lev s n k j).length ≤ 5040 :=
  Nat.le_trans (ro_sm1 _ (fun _ hi => ro_st3T h hne hj (ro_levR h hne hj hi))) (ro_T0 h hne j hj)
theorem ro_capm {s n k : Nat} (h : ro_VC s n k) : ro_m s n k ≤ 5040 := by
  by_cases hne : s = 4 ∧ k = 0
  · unfold ro_m ro_obs; rw [if_pos hne]; exact Nat.zero_le _
  · unfold ro_m; rw [ro_obs1 hne]; exact ro_cap h hne (Nat.le_refl _)
