/-! the automaton: sort s, size n, parameter k; place j, state q, next number v -/
def ro_L (s n k : Nat) : Nat := match s with
  | 0 => k
  | 3 => 2 * n
  | 4 => k
  | _ => n
def ro_de (s q d : Nat) : Nat := match s with
  | 0 => d + 1
  | 1 => q ||| 2 ^ d
  | 2 => max q (d + 1)
  | _ => q + d
def ro_ok (s n k j q v : Nat) : Bool := match s with
  | 0 => decide (v < n) && decide (q ≤ v)
  | 1 => decide (v < n) && !(q.testBit v)
  | 2 => decide (v ≤ q)
  | 3 => decide (v ≤ 1) && (decide (q + v ≤ n) && decide (j + 1 ≤ 2 * (q + v)))
  | _ => decide (q + v ≤ n) && (decide (j + 1 < k) || decide (q + v = n))
def ro_s8 (f : Nat → Nat) : Nat := f 0 + f 1 + f 2 + f 3 + f 4 + f 5 + f 6 + f 7
def ro_cnt (s n k : Nat) : Nat → Nat → Nat → Nat
  | 0, _, _ => 1
  | r + 1, j, q => ro_s8 (fun v => cond (ro_ok s n k j q v) (ro_cnt s n k r (j + 1) (ro_de s q v)) 0)
def ro_stc (s : Nat) : Nat → Nat → Nat
  | 0, _ => 0
  | j + 1, x => ro_de s (ro_stc s j (x / 8)) (x % 8)
def ro_M (s n k : Nat) : Nat → Nat → Bool
  | 0, x => decide (x = 0)
  | j + 1, x => ro_M s n k j (x / 8) && ro_ok s n k j (ro_stc s j (x / 8)) (x % 8)
def ro_nx (s n k j : Nat) (l : List Nat) : List Nat :=
  ((List.range (8 * l.length)).filter (fun i => ro_ok s n k j (ro_stc s j (l.getD (i / 8) 0)) (i % 8))).map (fun i => 8 * l.getD (i / 8) 0 + i % 8)
def ro_lev (s n k : Nat) : Nat → List Nat
  | 0 => [0]
  | j + 1 => ro_nx s n k j (ro_lev s n k j)
/-- all objects, as codes, in order -/
def ro_obs (s n k : Nat) : List Nat := if s = 4 ∧ k = 0 then [] else ro_lev s n k (ro_L s n k)

theorem ro_s8c {f g : Nat → Nat} (h : ∀ v, v < 8 → f v = g v) : ro_s8 f = ro_s8 g := by
  unfold ro_s8
  rw [h 0 (by omega), h 1 (by omega), h 2 (by omega), h 3 (by omega), h 4 (by omega), h 5 (by omega), h 6 (by omega), h 7 (by omega)]
theorem ro_M8 (s n k j t v : Nat) (hv : v < 8) : ro_M s n k (j + 1) (8 * t + v) = (ro_M s n k j t && ro_ok s n k j (ro_stc s j t) v) := by
  have h1 : (8 * t + v) / 8 = t := by omega
  have h2 : (8 * t + v) % 8 = v := by omega
  show (ro_M s n k j ((8 * t + v) / 8) && ro_ok s n k j (ro_stc s j ((8 * t + v) / 8)) ((8 * t + v) % 8)) = _
  rw [h1, h2]
theorem ro_st8 (s j t v : Nat) (hv : v < 8) : ro_stc s (j + 1) (8 * t + v) = ro_de s (ro_stc s j t) v := by
  have h1 : (8 * t + v) / 8 = t := by omega
  have h2 : (8 * t + v) % 8 = v := by omega
  show ro_de s (ro_stc s j ((8 * t + v) / 8)) ((8 * t + v) % 8) = _
  rw [h1, h2]
theorem ro_Mlt (s n k : Nat) : ∀ j x, ro_M s n k j x = true → x < 8 ^ j := by
  intro j
  induction j with
  | zero => intro x h; have : x = 0 := of_decide_eq_true h; subst this; decide
  | succ j ih =>
    intro x h
    have h' := (Bool.and_eq_true _ _ ▸ h : ro_M s n k j (x / 8) = true ∧ _)
    have := ih _ h'.1
    rw [Nat.pow_succ]; omega
/-! levels: sorted, with the members that M names -/
theorem ro_gD (l : List Nat) (i : Nat) (h : i < l.length) : l.getD i 0 = l[i] := by
  simp [List.getD, h]
theorem ro_nxS (s n k j : Nat) (l : List Nat) (h : l.Pairwise (· < ·)) : (ro_nx s n k j l).Pairwise (· < ·) := by
  unfold ro_nx
  rw [List.pairwise_map]
  apply List.Pairwise.filter
  rw [List.pairwise_iff_getElem]
  intro i i' hi hi' hlt
  rw [List.length_range] at hi hi'
  rw [List.getElem_range, List.getElem_range]
  have a1 : i / 8 < l.length := by omega
  have a2 : i' / 8 < l.length := by omega
  rcases Nat.lt_or_ge (i / 8) (i' / 8) with c | c
  · have := (List.pairwise_iff_getElem.mp h) (i / 8) (i' / 8) a1 a2 c
    rw [ro_gD l _ a1, ro_gD l _ a2]
    omega
  · have e : i / 8 = i' / 8 := by omega
    rw [e]; omega
theorem ro_nxM (s n k j : Nat) (l : List Nat) (x : Nat) : x ∈ ro_nx s n k j l ↔ (x / 8 ∈ l ∧ ro_ok s n k j (ro_stc s j (x / 8)) (x % 8) = true) := by
  unfold ro_nx
  rw [List.mem_map]
  constructor
  · rintro ⟨i, hi, rfl⟩
    rw [List.mem_filter, List.mem_range] at hi
    have a1 : i / 8 < l.length := by omega
    have e1 : (8 * l.getD (i / 8) 0 + i % 8) / 8 = l.getD (i / 8) 0 := by omega
    have e2 : (8 * l.getD (i / 8) 0 + i % 8) % 8 = i % 8 := by omega
    rw [e1, e2]
    refine ⟨?_, hi.2⟩
    rw [ro_gD l _ a1]
    exact List.getElem_mem a1
  · rintro ⟨hm, ho⟩
    obtain ⟨i, hi, e⟩ := List.getElem_of_mem hm
    have d1 : (8 * i + x % 8) / 8 = i := by omega
    have d2 : (8 * i + x % 8) % 8 = x % 8 := by omega
    refine ⟨8 * i + x % 8, ?_, ?_⟩
    · rw [List.mem_filter, List.mem_range]
      refine ⟨by omega, ?_⟩
      show ro_ok s n k j (ro_stc s j (l.getD ((8 * i + x % 8) / 8) 0)) ((8 * i + x % 8) % 8) = true
      rw [d1, d2, ro_gD l _ hi, e]; exact ho
    · show 8 * l.getD ((8 * i + x % 8) / 8) 0 + (8 * i + x % 8) % 8 = x
      rw [d1, d2, ro_gD l _ hi, e]; omega
theorem ro_levS (s n k : Nat) : ∀ j, (ro_lev s n k j).Pairwise (· < ·) := by
  intro j
  induction j with
  | zero => exact List.pairwise_singleton _ _
  | succ j ih => exact ro_nxS s n k j _ ih
theorem ro_levM (s n k : Nat) : ∀ j x, x ∈ ro_lev s n k j ↔ ro_M s n k j x = true := by
  intro j
  induction j with
  | zero => intro x; show x ∈ [0] ↔ decide (x = 0) = true; simp
  | succ j ih =>
    intro x
    show x ∈ ro_nx s n k j (ro_lev s n k j) ↔ (ro_M s n k j (x / 8) && ro_ok s n k j (ro_stc s j (x / 8)) (x % 8)) = true
    rw [ro_nxM, ih, Bool.and_eq_true]
/-! counting by index -/
def ro_ct (P : Nat → Bool) : Nat → Nat
  | 0 => 0
  | m + 1 => ro_ct P m + cond (P m) 1 0
theorem ro_ctc {P Q : Nat → Bool} : ∀ m, (∀ i, i < m → P i = Q i) → ro_ct P m = ro_ct Q m := by
  intro m
  induction m with
  | zero => intro _; rfl
  | succ m ih =>
    intro h
    show ro_ct P m + cond (P m) 1 0 = ro_ct Q m + cond (Q m) 1 0
    rw [ih (fun i hi => h i (by omega)), h m (by omega)]
theorem ro_ct0 {P : Nat → Bool} : ∀ m, (∀ i, i < m → P i = false) → ro_ct P m = 0 := by
  intro m
  induction m with
  | zero => intro _; rfl
  | succ m ih =>
    intro h
    show ro_ct P m + cond (P m) 1 0 = 0
    rw [ih (fun i hi => h i (by omega)), h m (by omega)]; rfl
theorem ro_ct1 {P : Nat → Bool} : ∀ m, (∀ i, i < m → P i = true) → ro_ct P m = m := by
  intro m
  induction m with
  | zero => intro _; rfl
  | succ m ih =>
    intro h
    show ro_ct P m + cond (P m) 1 0 = m + 1
    rw [ih (fun i hi => h i (by omega)), h m (by omega)]; rfl
theorem ro_ctle {P : Nat → Bool} : ∀ m, ro_ct P m ≤ m := by
  intro m
  induction m with
  | zero => exact Nat.le_refl _
  | succ m ih =>
    show ro_ct P m + cond (P m) 1 0 ≤ m + 1
    cases P m
    · exact Nat.le_succ_of_le ih
    · exact Nat.succ_le_succ ih
theorem ro_ctu {P : Nat → Bool} (i0 : Nat) : ∀ m, i0 < m → (∀ i, i < m → (P i = true ↔ i = i0)) → ro_ct P m = 1 := by
  intro m
  induction m with
  | zero => intro h; omega
  | succ m ih =>
    intro h hP
    show ro_ct P m + cond (P m) 1 0 = 1
    rcases Nat.lt_or_ge i0 m with c | c
    · have e : P m = false := by
        cases hq : P m
        · rfl
        · have := (hP m (by omega)).mp hq; omega
      rw [ih c (fun i hi => hP i (by omega)), e]; rfl
    · have e0 : i0 = m := by omega
      have e : P m = true := (hP m (by omega)).mpr e0.symm
      have z : ro_ct P m = 0 := ro_ct0 m (fun i hi => by
        cases hq : P i
        · rfl
        · have := (hP i (by omega)).mp hq; omega)
      rw [z, e]; rfl
theorem ro_ctadd {P Q R : Nat → Bool} : ∀ m, (∀ i, i < m → cond (P i) 1 0 = cond (Q i) 1 0 + cond (R i) 1 0) → ro_ct P m = ro_ct Q m + ro_ct R m := by
  intro m
  induction m with
  | zero => intro _; rfl
  | succ m ih =>
    intro h
    have h1 := ih (fun i hi => h i (by omega))
    have h2 := h m (by omega)
    show ro_ct P m + cond (P m) 1 0 = (ro_ct Q m + cond (Q m) 1 0) + (ro_ct R m + cond (R m) 1 0)
    omega
theorem ro_ctmono {P : Nat → Bool} : ∀ m i, i ≤ m → ro_ct P i ≤ ro_ct P m := by
  intro m
  induction m with
  | zero => intro i h; have : i = 0 := by omega
            subst this; exact Nat.le_refl _
  | succ m ih =>
    intro i h
    rcases Nat.lt_or_ge i (m + 1) with c | c
    · exact Nat.le_trans (ih i (by omega)) (Nat.le_add_right _ _)
    · have : i = m + 1 := by omega
      subst this; exact Nat.le_refl _
theorem ro_ct8 (g : Nat → Nat) (t : Nat) : ∀ m, ro_ct (fun i => decide (g i / 8 = t)) m = ro_s8 (fun v => ro_ct (fun i => decide (g i = 8 * t + v)) m) := by
  intro m
  induction m with
  | zero => rfl
  | succ m ih =>
    have key : ∀ a : Nat, cond (decide (a / 8 = t)) 1 0 = ro_s8 (fun v => cond (decide (a = 8 * t + v)) 1 0) := by
      intro a
      unfold ro_s8; dsimp only
      by_cases h : a / 8 = t
      · have : a = 8 * t + a % 8 := by omega
        have h8 : a % 8 < 8 := Nat.mod_lt _ (by decide)
        generalize a % 8 = w at this h8
        subst this
        rcases (by omega : w = 0 ∨ w = 1 ∨ w = 2 ∨ w = 3 ∨ w = 4 ∨ w = 5 ∨ w = 6 ∨ w = 7) with e | e | e | e | e | e | e | e <;> subst e <;> simp [h]
      · have hn : ∀ v, v < 8 → decide (a = 8 * t + v) = false := fun v hv => decide_eq_false (by omega)
        rw [decide_eq_false h, hn 0 (by omega), hn 1 (by omega), hn 2 (by omega), hn 3 (by omega), hn 4 (by omega), hn 5 (by omega), hn 6 (by omega), hn 7 (by omega)]
        rfl
    show ro_ct (fun i => decide (g i / 8 = t)) m + cond (decide (g m / 8 = t)) 1 0 = ro_s8 (fun v => ro_ct (fun i => decide (g i = 8 * t + v)) m + cond (decide (g m = 8 * t + v)) 1 0)
    rw [ih, key]
    unfold ro_s8; dsimp only
    omega
