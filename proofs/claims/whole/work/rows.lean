section
theorem pk_us {f : Nat → Int32} {k : Nat} {x : Int32} : upd f k x k = x := if_pos rfl
theorem pk_un {f : Nat → Int32} {k j : Nat} {x : Int32} (h : j ≠ k) : upd f k x j = f j := if_neg h
theorem pk_uLs {f : Nat → Int64} {k : Nat} {x : Int64} : vp_updL f k x k = x := if_pos rfl
theorem pk_uLn {f : Nat → Int64} {k j : Nat} {x : Int64} (h : j ≠ k) : vp_updL f k x j = f j := if_neg h
theorem pk_sub {a b : Nat} (h : b ≤ a) : nI a - nI b = nI (a - b) := by
  obtain ⟨c, rfl⟩ : ∃ c, a = c + b := ⟨a - b, by omega⟩
  rw [← nI_add, Int32.add_sub_cancel, Nat.add_sub_cancel]
theorem pk_m1 (n : Nat) : nI (n + 1) + (-1) = nI n := by
  rw [← nI_1, Int32.add_assoc, show (1 : Int32) + (-1) = 0 from rfl, Int32.add_zero]
theorem pk_mul (a b : Nat) : nI a * nI b = nI (a * b) := (Int32.ofNat_mul a b).symm
theorem pk_div {a d : Nat} (ha : a < 2 ^ 31) (h0 : 0 < d) (hd : d < 2 ^ 31) : nI a / nI d = nI (a / d) := by
  apply Int32.toInt_inj.mp
  rw [lg_idiv_nonneg (by rw [nI_toInt ha]; omega) (by rw [nI_toInt hd]; omega), nI_toInt ha, nI_toInt hd, nI_toInt (Nat.lt_of_le_of_lt (Nat.div_le_self a d) ha)]
  first | rfl | exact (Int.natCast_ediv _ _).symm
theorem pk_rem {a d : Nat} (ha : a < 2 ^ 31) (h0 : 0 < d) (hd : d < 2 ^ 31) : nI a - nI a / nI d * nI d = nI (a % d) := by
  rw [pk_div ha h0 hd, pk_mul, pk_sub (Nat.div_mul_le_self a d)]
  exact congrArg nI (by have := Nat.div_add_mod' a d; omega)
theorem pk_sub_toInt {a b : Nat} (ha : a < 2 ^ 30) (hb : b < 2 ^ 30) : (nI a - nI b).toInt = (a : Int) - b := by
  rw [Int32.toInt_sub, nI_toInt (by omega), nI_toInt (by omega)]
  exact Int.bmod_eq_of_le (by omega) (by omega)
theorem pk_sneg {a b : Nat} (hb : b < 2 ^ 30) (h : a < b) : nI a - nI b < 0 := by
  rw [Int32.lt_iff_toInt_lt, pk_sub_toInt (by omega) hb, show (0 : Int32).toInt = 0 from by decide]
  omega
theorem pk_le {x y : Int32} {A B : Prop} (a b : Nat) (f : a ≤ b → A) (g : b < a → B) (hx : x = nI a := by rfl) (hy : y = nI b := by rfl) (ha : a < 2 ^ 31 := by omega) (hb : b < 2 ^ 31 := by omega) : (x ≤ y → A) ∧ (¬ x ≤ y → B) := by
  subst hx hy
  rw [nI_leI ha hb]
  exact ⟨f, fun z => g (by omega)⟩
theorem pk_lt {x y : Int32} {A B : Prop} (a b : Nat) (f : a < b → A) (g : b ≤ a → B) (hx : x = nI a := by rfl) (hy : y = nI b := by rfl) (ha : a < 2 ^ 31 := by omega) (hb : b < 2 ^ 31 := by omega) : (x < y → A) ∧ (¬ x < y → B) := by
  subst hx hy
  rw [nI_ltI ha hb]
  exact ⟨f, fun z => g (by omega)⟩
theorem pk_eq {x y : Int32} {A B : Prop} (a b : Nat) (f : a = b → A) (g : a ≠ b → B) (hx : x = nI a := by rfl) (hy : y = nI b := by rfl) (ha : a < 2 ^ 31 := by omega) (hb : b < 2 ^ 31 := by omega) : (x = y → A) ∧ (¬ x = y → B) := by
  subst hx hy
  rw [nI_eq ha hb]
  exact ⟨f, g⟩
theorem pk_in {x : Int32} (n N : Nat) (h : n < N) (hx : x = nI n := by rfl) (hN : N < 2 ^ 31 := by omega) : vp_in x N := by
  subst hx
  exact vp_in_nI h hN
theorem pk_cl {x : Int32} (n : Nat) (hx : x = nI n := by rfl) (h : n < 2 ^ 31 := by omega) : x.toNatClampNeg = n := by
  subst hx
  exact nI_clamp h
theorem pk_tn {n : Nat} (h : n < 2 ^ 32) : (nI n).toBitVec.toNat = n := Nat.mod_eq_of_lt h
theorem pk_and (x : Int32) {m : Int32} (k : Nat) (hm : m.toBitVec.toNat = 2 ^ k - 1) : x &&& m = nI (x.toBitVec.toNat % 2 ^ k) := by
  apply Int32.toBitVec_inj.mp
  apply BitVec.eq_of_toNat_eq
  rw [Int32.toBitVec_and, BitVec.toNat_and, hm, Nat.and_two_pow_sub_one_eq_mod]
  show _ = (BitVec.ofNat 32 _).toNat
  rw [BitVec.toNat_ofNat]
  exact (Nat.mod_eq_of_lt (Nat.lt_of_le_of_lt (Nat.mod_le _ _) x.toBitVec.isLt)).symm
theorem pk_andN {n : Nat} (h : n < 2 ^ 32) {m : Int32} (k : Nat) (hm : m.toBitVec.toNat = 2 ^ k - 1) : nI n &&& m = nI (n % 2 ^ k) := by
  rw [pk_and _ k hm, pk_tn h]
theorem pk_lT {n : Nat} (h : n < 2 ^ 63) : (lN n).toInt = (n : Int) := lg_ofNat_toInt h
theorem pk_lLT {a b : Nat} (ha : a < 2 ^ 63) (hb : b < 2 ^ 63) : lN a < lN b ↔ a < b := by
  rw [Int64.lt_iff_toInt_lt, pk_lT ha, pk_lT hb]; omega
theorem pk_lLE {a b : Nat} (ha : a < 2 ^ 63) (hb : b < 2 ^ 63) : lN a ≤ lN b ↔ a ≤ b := by
  rw [Int64.le_iff_toInt_le, pk_lT ha, pk_lT hb]; omega
theorem pk_lEQ {a b : Nat} (ha : a < 2 ^ 63) (hb : b < 2 ^ 63) : lN a = lN b ↔ a = b := by
  rw [← Int64.toInt_inj, pk_lT ha, pk_lT hb]; omega
theorem wb_tb (n : Nat) : (lN n).toBitVec = BitVec.ofNat 64 n := rfl
theorem wb_inj {a b : Int64} (h : a.toBitVec = b.toBitVec) : a = b := Int64.toBitVec_inj.mp h
theorem wb_tn {n : Nat} (h : n < 2 ^ 64) : (lN n).toBitVec.toNat = n := by rw [wb_tb, BitVec.toNat_ofNat, Nat.mod_eq_of_lt h]
theorem wb_cu : ∀ k, k < 64 → ((nI k).toInt64.toUInt64 &&& Int64.toUInt64 63) = UInt64.ofNat k := by decide +kernel
theorem wb_pw {a b : Nat} (h : a ≤ b) : 2 ^ b = 2 ^ a * 2 ^ (b - a) := by rw [← Nat.pow_add]; congr 1; omega
theorem wb_lt2 {a b : Nat} (h : a < b) : 2 ^ a < 2 ^ b := Nat.pow_lt_pow_right (by decide) h
theorem wb_mod (n : Nat) : lN n = lN (n % 2 ^ 64) := wb_inj (by rw [wb_tb, wb_tb]; apply BitVec.eq_of_toNat_eq; rw [BitVec.toNat_ofNat, BitVec.toNat_ofNat, Nat.mod_mod])
theorem wb_shr {n k : Nat} (hn : n < 2 ^ 64) (hk : k < 64) : ((lN n).toUInt64 >>> ((nI k).toInt64.toUInt64 &&& Int64.toUInt64 63)).toInt64 = lN (n / 2 ^ k) := by
  rw [wb_cu k hk]
  apply wb_inj
  apply BitVec.eq_of_toNat_eq
  show ((lN n).toUInt64 >>> UInt64.ofNat k).toNat = (BitVec.ofNat 64 _).toNat
  have h1 : (UInt64.ofNat k).toNat = k := by
    show (BitVec.ofNat 64 k).toNat = k
    rw [BitVec.toNat_ofNat, Nat.mod_eq_of_lt (by omega)]
  have h2 : (lN n).toUInt64.toNat = n := wb_tn hn
  rw [UInt64.toNat_shiftRight, h1, h2, Nat.mod_eq_of_lt hk, Nat.shiftRight_eq_div_pow, BitVec.toNat_ofNat, Nat.mod_eq_of_lt (Nat.lt_of_le_of_lt (Nat.div_le_self _ _) hn)]
theorem wb_and {a b : Nat} (ha : a < 2 ^ 64) (hb : b < 2 ^ 64) : lN a &&& lN b = lN (a &&& b) := by
  apply wb_inj
  rw [Int64.toBitVec_and, wb_tb, wb_tb, wb_tb]
  apply BitVec.eq_of_toNat_eq
  rw [BitVec.toNat_and, BitVec.toNat_ofNat, BitVec.toNat_ofNat, BitVec.toNat_ofNat, Nat.mod_eq_of_lt ha, Nat.mod_eq_of_lt hb, Nat.mod_eq_of_lt (Nat.and_lt_two_pow _ hb)]
theorem wb_mask {n k : Nat} (hn : n < 2 ^ 64) (hk : k < 64) : lN n &&& lN (2 ^ k - 1) = lN (n % 2 ^ k) := by
  rw [wb_and hn (by have := wb_lt2 hk; omega), Nat.and_two_pow_sub_one_eq_mod]
end
section
/-! the automaton: sort s, size n, parameter k; place j, state q, next number v -/
def ro_L (s n k : Nat) : Nat := match s with
  | 0 => k
  | 3 => 2 * n
  | 4 => k
  | _ => n
def ro_de (s q d : Nat) : Nat := match s with
  | 0 => d + 1
  | 1 => q ||| 2 ^ d
  | 2 => max q (d + 1)
  | _ => q + d
def ro_ok (s n k j q v : Nat) : Bool := match s with
  | 0 => decide (v < n) && decide (q ≤ v)
  | 1 => decide (v < n) && !(q.testBit v)
  | 2 => decide (v ≤ q)
  | 3 => decide (v ≤ 1) && (decide (q + v ≤ n) && decide (j + 1 ≤ 2 * (q + v)))
  | _ => decide (q + v ≤ n) && (decide (j + 1 < k) || decide (q + v = n))
def ro_s8 (f : Nat → Nat) : Nat := f 0 + f 1 + f 2 + f 3 + f 4 + f 5 + f 6 + f 7
def ro_cnt (s n k : Nat) : Nat → Nat → Nat → Nat
  | 0, _, _ => 1
  | r + 1, j, q => ro_s8 (fun v => cond (ro_ok s n k j q v) (ro_cnt s n k r (j + 1) (ro_de s q v)) 0)
def ro_stc (s : Nat) : Nat → Nat → Nat
  | 0, _ => 0
  | j + 1, x => ro_de s (ro_stc s j (x / 8)) (x % 8)
def ro_M (s n k : Nat) : Nat → Nat → Bool
  | 0, x => decide (x = 0)
  | j + 1, x => ro_M s n k j (x / 8) && ro_ok s n k j (ro_stc s j (x / 8)) (x % 8)
def ro_nx (s n k j : Nat) (l : List Nat) : List Nat :=
  ((List.range (8 * l.length)).filter (fun i => ro_ok s n k j (ro_stc s j (l.getD (i / 8) 0)) (i % 8))).map (fun i => 8 * l.getD (i / 8) 0 + i % 8)
def ro_lev (s n k : Nat) : Nat → List Nat
  | 0 => [0]
  | j + 1 => ro_nx s n k j (ro_lev s n k j)
/-- all objects, as codes, in order -/
def ro_obs (s n k : Nat) : List Nat := if s = 4 ∧ k = 0 then [] else ro_lev s n k (ro_L s n k)

theorem ro_s8c {f g : Nat → Nat} (h : ∀ v, v < 8 → f v = g v) : ro_s8 f = ro_s8 g := by
  unfold ro_s8
  rw [h 0 (by omega), h 1 (by omega), h 2 (by omega), h 3 (by omega), h 4 (by omega), h 5 (by omega), h 6 (by omega), h 7 (by omega)]
theorem ro_M8 (s n k j t v : Nat) (hv : v < 8) : ro_M s n k (j + 1) (8 * t + v) = (ro_M s n k j t && ro_ok s n k j (ro_stc s j t) v) := by
  have h1 : (8 * t + v) / 8 = t := by omega
  have h2 : (8 * t + v) % 8 = v := by omega
  show (ro_M s n k j ((8 * t + v) / 8) && ro_ok s n k j (ro_stc s j ((8 * t + v) / 8)) ((8 * t + v) % 8)) = _
  rw [h1, h2]
theorem ro_st8 (s j t v : Nat) (hv : v < 8) : ro_stc s (j + 1) (8 * t + v) = ro_de s (ro_stc s j t) v := by
  have h1 : (8 * t + v) / 8 = t := by omega
  have h2 : (8 * t + v) % 8 = v := by omega
  show ro_de s (ro_stc s j ((8 * t + v) / 8)) ((8 * t + v) % 8) = _
  rw [h1, h2]
theorem ro_Mlt (s n k : Nat) : ∀ j x, ro_M s n k j x = true → x < 8 ^ j := by
  intro j
  induction j with
  | zero => intro x h; have : x = 0 := of_decide_eq_true h; subst this; decide
  | succ j ih =>
    intro x h
    have h' := (Bool.and_eq_true _ _ ▸ h : ro_M s n k j (x / 8) = true ∧ _)
    have := ih _ h'.1
    rw [Nat.pow_succ]; omega
/-! levels: sorted, with the members that M names -/
theorem ro_gD (l : List Nat) (i : Nat) (h : i < l.length) : l.getD i 0 = l[i] := by
  simp [List.getD, h]
theorem ro_nxS (s n k j : Nat) (l : List Nat) (h : l.Pairwise (· < ·)) : (ro_nx s n k j l).Pairwise (· < ·) := by
  unfold ro_nx
  rw [List.pairwise_map]
  apply List.Pairwise.filter
  rw [List.pairwise_iff_getElem]
  intro i i' hi hi' hlt
  rw [List.length_range] at hi hi'
  rw [List.getElem_range, List.getElem_range]
  have a1 : i / 8 < l.length := by omega
  have a2 : i' / 8 < l.length := by omega
  rcases Nat.lt_or_ge (i / 8) (i' / 8) with c | c
  · have := (List.pairwise_iff_getElem.mp h) (i / 8) (i' / 8) a1 a2 c
    rw [ro_gD l _ a1, ro_gD l _ a2]
    omega
  · have e : i / 8 = i' / 8 := by omega
    rw [e]; omega
theorem ro_nxM (s n k j : Nat) (l : List Nat) (x : Nat) : x ∈ ro_nx s n k j l ↔ (x / 8 ∈ l ∧ ro_ok s n k j (ro_stc s j (x / 8)) (x % 8) = true) := by
  unfold ro_nx
  rw [List.mem_map]
  constructor
  · rintro ⟨i, hi, rfl⟩
    rw [List.mem_filter, List.mem_range] at hi
    have a1 : i / 8 < l.length := by omega
    have e1 : (8 * l.getD (i / 8) 0 + i % 8) / 8 = l.getD (i / 8) 0 := by omega
    have e2 : (8 * l.getD (i / 8) 0 + i % 8) % 8 = i % 8 := by omega
    rw [e1, e2]
    refine ⟨?_, hi.2⟩
    rw [ro_gD l _ a1]
    exact List.getElem_mem a1
  · rintro ⟨hm, ho⟩
    obtain ⟨i, hi, e⟩ := List.getElem_of_mem hm
    have d1 : (8 * i + x % 8) / 8 = i := by omega
    have d2 : (8 * i + x % 8) % 8 = x % 8 := by omega
    refine ⟨8 * i + x % 8, ?_, ?_⟩
    · rw [List.mem_filter, List.mem_range]
      refine ⟨by omega, ?_⟩
      show ro_ok s n k j (ro_stc s j (l.getD ((8 * i + x % 8) / 8) 0)) ((8 * i + x % 8) % 8) = true
      rw [d1, d2, ro_gD l _ hi, e]; exact ho
    · show 8 * l.getD ((8 * i + x % 8) / 8) 0 + (8 * i + x % 8) % 8 = x
      rw [d1, d2, ro_gD l _ hi, e]; omega
theorem ro_levS (s n k : Nat) : ∀ j, (ro_lev s n k j).Pairwise (· < ·) := by
  intro j
  induction j with
  | zero => exact List.pairwise_singleton _ _
  | succ j ih => exact ro_nxS s n k j _ ih
theorem ro_levM (s n k : Nat) : ∀ j x, x ∈ ro_lev s n k j ↔ ro_M s n k j x = true := by
  intro j
  induction j with
  | zero => intro x; show x ∈ [0] ↔ decide (x = 0) = true; simp
  | succ j ih =>
    intro x
    show x ∈ ro_nx s n k j (ro_lev s n k j) ↔ (ro_M s n k j (x / 8) && ro_ok s n k j (ro_stc s j (x / 8)) (x % 8)) = true
    rw [ro_nxM, ih, Bool.and_eq_true]
/-! counting by index -/
def ro_ct (P : Nat → Bool) : Nat → Nat
  | 0 => 0
  | m + 1 => ro_ct P m + cond (P m) 1 0
theorem ro_ctc {P Q : Nat → Bool} : ∀ m, (∀ i, i < m → P i = Q i) → ro_ct P m = ro_ct Q m := by
  intro m
  induction m with
  | zero => intro _; rfl
  | succ m ih =>
    intro h
    show ro_ct P m + cond (P m) 1 0 = ro_ct Q m + cond (Q m) 1 0
    rw [ih (fun i hi => h i (by omega)), h m (by omega)]
theorem ro_ct0 {P : Nat → Bool} : ∀ m, (∀ i, i < m → P i = false) → ro_ct P m = 0 := by
  intro m
  induction m with
  | zero => intro _; rfl
  | succ m ih =>
    intro h
    show ro_ct P m + cond (P m) 1 0 = 0
    rw [ih (fun i hi => h i (by omega)), h m (by omega)]; rfl
theorem ro_ct1 {P : Nat → Bool} : ∀ m, (∀ i, i < m → P i = true) → ro_ct P m = m := by
  intro m
  induction m with
  | zero => intro _; rfl
  | succ m ih =>
    intro h
    show ro_ct P m + cond (P m) 1 0 = m + 1
    rw [ih (fun i hi => h i (by omega)), h m (by omega)]; rfl
theorem ro_ctle {P : Nat → Bool} : ∀ m, ro_ct P m ≤ m := by
  intro m
  induction m with
  | zero => exact Nat.le_refl _
  | succ m ih =>
    show ro_ct P m + cond (P m) 1 0 ≤ m + 1
    cases P m
    · exact Nat.le_succ_of_le ih
    · exact Nat.succ_le_succ ih
theorem ro_ctu {P : Nat → Bool} (i0 : Nat) : ∀ m, i0 < m → (∀ i, i < m → (P i = true ↔ i = i0)) → ro_ct P m = 1 := by
  intro m
  induction m with
  | zero => intro h; omega
  | succ m ih =>
    intro h hP
    show ro_ct P m + cond (P m) 1 0 = 1
    rcases Nat.lt_or_ge i0 m with c | c
    · have e : P m = false := by
        cases hq : P m
        · rfl
        · have := (hP m (by omega)).mp hq; omega
      rw [ih c (fun i hi => hP i (by omega)), e]; rfl
    · have e0 : i0 = m := by omega
      have e : P m = true := (hP m (by omega)).mpr e0.symm
      have z : ro_ct P m = 0 := ro_ct0 m (fun i hi => by
        cases hq : P i
        · rfl
        · have := (hP i (by omega)).mp hq; omega)
      rw [z, e]; rfl
theorem ro_ctadd {P Q R : Nat → Bool} : ∀ m, (∀ i, i < m → cond (P i) 1 0 = cond (Q i) 1 0 + cond (R i) 1 0) → ro_ct P m = ro_ct Q m + ro_ct R m := by
  intro m
  induction m with
  | zero => intro _; rfl
  | succ m ih =>
    intro h
    have h1 := ih (fun i hi => h i (by omega))
    have h2 := h m (by omega)
    show ro_ct P m + cond (P m) 1 0 = (ro_ct Q m + cond (Q m) 1 0) + (ro_ct R m + cond (R m) 1 0)
    omega
theorem ro_ctmono {P : Nat → Bool} : ∀ m i, i ≤ m → ro_ct P i ≤ ro_ct P m := by
  intro m
  induction m with
  | zero => intro i h; have : i = 0 := by omega
            subst this; exact Nat.le_refl _
  | succ m ih =>
    intro i h
    rcases Nat.lt_or_ge i (m + 1) with c | c
    · exact Nat.le_trans (ih i (by omega)) (Nat.le_add_right _ _)
    · have : i = m + 1 := by omega
      subst this; exact Nat.le_refl _
theorem ro_ct8 (g : Nat → Nat) (t : Nat) : ∀ m, ro_ct (fun i => decide (g i / 8 = t)) m = ro_s8 (fun v => ro_ct (fun i => decide (g i = 8 * t + v)) m) := by
  intro m
  induction m with
  | zero => rfl
  | succ m ih =>
    have key : ∀ a : Nat, cond (decide (a / 8 = t)) 1 0 = ro_s8 (fun v => cond (decide (a = 8 * t + v)) 1 0) := by
      intro a
      unfold ro_s8; dsimp only
      by_cases h : a / 8 = t
      · have : a = 8 * t + a % 8 := by omega
        have h8 : a % 8 < 8 := Nat.mod_lt _ (by decide)
        generalize a % 8 = w at this h8
        subst this
        rcases (by omega : w = 0 ∨ w = 1 ∨ w = 2 ∨ w = 3 ∨ w = 4 ∨ w = 5 ∨ w = 6 ∨ w = 7) with e | e | e | e | e | e | e | e <;> subst e <;> simp [h]
      · have hn : ∀ v, v < 8 → decide (a = 8 * t + v) = false := fun v hv => decide_eq_false (by omega)
        rw [decide_eq_false h, hn 0 (by omega), hn 1 (by omega), hn 2 (by omega), hn 3 (by omega), hn 4 (by omega), hn 5 (by omega), hn 6 (by omega), hn 7 (by omega)]
        rfl
    show ro_ct (fun i => decide (g i / 8 = t)) m + cond (decide (g m / 8 = t)) 1 0 = ro_s8 (fun v => ro_ct (fun i => decide (g i = 8 * t + v)) m + cond (decide (g m = 8 * t + v)) 1 0)
    rw [ih, key]
    unfold ro_s8; dsimp only
    omega
end
section
def ro_ob (s n k i : Nat) : Nat := (ro_obs s n k).getD i 0
def ro_m (s n k : Nat) : Nat := (ro_obs s n k).length
theorem ro_obs1 {s n k : Nat} (h : ¬ (s = 4 ∧ k = 0)) : ro_obs s n k = ro_lev s n k (ro_L s n k) := if_neg h
theorem ro_obS {s n k : Nat} (hne : ¬ (s = 4 ∧ k = 0)) {i i' : Nat} (h : i < i') (h' : i' < ro_m s n k) : ro_ob s n k i < ro_ob s n k i' := by
  unfold ro_ob
  unfold ro_m at h'
  rw [ro_gD _ _ (by omega), ro_gD _ _ h']
  refine (List.pairwise_iff_getElem.mp ?_) i i' (by omega) h' h
  rw [ro_obs1 hne]; exact ro_levS s n k _
theorem ro_obM {s n k : Nat} (hne : ¬ (s = 4 ∧ k = 0)) {i : Nat} (h : i < ro_m s n k) : ro_M s n k (ro_L s n k) (ro_ob s n k i) = true := by
  unfold ro_ob
  unfold ro_m at h
  rw [ro_gD _ _ h, ← ro_levM, ← ro_obs1 hne]
  exact List.getElem_mem h
theorem ro_obE {s n k : Nat} (hne : ¬ (s = 4 ∧ k = 0)) {x : Nat} (h : ro_M s n k (ro_L s n k) x = true) : ∃ i, i < ro_m s n k ∧ ro_ob s n k i = x := by
  rw [← ro_levM, ← ro_obs1 hne] at h
  obtain ⟨i, hi, e⟩ := List.getElem_of_mem h
  exact ⟨i, hi, by unfold ro_ob; rw [ro_gD _ _ hi, e]⟩
theorem ro_N {s n k : Nat} (hne : ¬ (s = 4 ∧ k = 0)) : ∀ r j t, j + r = ro_L s n k → ro_ct (fun i => decide (ro_ob s n k i / 8 ^ r = t)) (ro_m s n k) = cond (ro_M s n k j t) (ro_cnt s n k r j (ro_stc s j t)) 0 := by
  intro r
  induction r with
  | zero =>
    intro j t hj
    have hj' : j = ro_L s n k := by omega
    subst hj'
    cases hm : ro_M s n k (ro_L s n k) t
    · refine ro_ct0 _ (fun i hi => decide_eq_false (fun e => ?_))
      have := ro_obM hne hi
      rw [Nat.pow_zero, Nat.div_one] at e
      rw [e, hm] at this; cases this
    · obtain ⟨i0, h0, e0⟩ := ro_obE hne hm
      refine ro_ctu i0 _ h0 (fun i hi => ?_)
      show decide (ro_ob s n k i / 8 ^ 0 = t) = true ↔ i = i0
      rw [Nat.pow_zero, Nat.div_one, decide_eq_true_iff]
      constructor
      · intro e
        rcases Nat.lt_trichotomy i i0 with c | c | c
        · have := ro_obS hne c h0; omega
        · exact c
        · have := ro_obS hne c hi; omega
      · intro e; rw [e, e0]
  | succ r ih =>
    intro j t hj
    have e : ro_ct (fun i => decide (ro_ob s n k i / 8 ^ (r + 1) = t)) (ro_m s n k) = ro_ct (fun i => decide (ro_ob s n k i / 8 ^ r / 8 = t)) (ro_m s n k) := by
      refine ro_ctc _ (fun i _ => ?_)
      show decide (ro_ob s n k i / 8 ^ (r + 1) = t) = decide (ro_ob s n k i / 8 ^ r / 8 = t)
      rw [Nat.div_div_eq_div_mul, Nat.pow_succ]
    rw [e, ro_ct8 (fun i => ro_ob s n k i / 8 ^ r) t]
    have e2 : ro_s8 (fun v => ro_ct (fun i => decide (ro_ob s n k i / 8 ^ r = 8 * t + v)) (ro_m s n k)) = ro_s8 (fun v => cond (ro_M s n k j t && ro_ok s n k j (ro_stc s j t) v) (ro_cnt s n k r (j + 1) (ro_de s (ro_stc s j t) v)) 0) := by
      refine ro_s8c (fun v hv => ?_)
      rw [ih (j + 1) (8 * t + v) (by omega), ro_M8 _ _ _ _ _ _ hv, ro_st8 _ _ _ _ hv]
    rw [e2]
    cases ro_M s n k j t
    · rfl
    · rfl
/-! ranks -/
def ro_rk (s n k r t : Nat) : Nat := ro_ct (fun i => decide (ro_ob s n k i / 8 ^ r < t)) (ro_m s n k)
theorem ro_rkA {s n k : Nat} (hne : ¬ (s = 4 ∧ k = 0)) (r t : Nat) {num : Nat} (h : num < ro_m s n k) : ro_rk s n k r t ≤ num ↔ t ≤ ro_ob s n k num / 8 ^ r := by
  unfold ro_rk
  have mono : ∀ i i', i ≤ i' → i' < ro_m s n k → ro_ob s n k i / 8 ^ r ≤ ro_ob s n k i' / 8 ^ r := by
    intro i i' h1 h2
    rcases Nat.lt_or_ge i i' with c | c
    · exact Nat.div_le_div_right (Nat.le_of_lt (ro_obS hne c h2))
    · have : i = i' := by omega
      subst this; exact Nat.le_refl _
  constructor
  · intro hle
    rcases Nat.lt_or_ge (ro_ob s n k num / 8 ^ r) t with c | c
    · exfalso
      have h1 : ro_ct (fun i => decide (ro_ob s n k i / 8 ^ r < t)) (num + 1) = num + 1 := ro_ct1 _ (fun i hi => decide_eq_true (by
        have := mono i num (by omega) h; omega))
      have h2 := ro_ctmono (P := fun i => decide (ro_ob s n k i / 8 ^ r < t)) (ro_m s n k) (num + 1) (by omega)
      omega
    · exact c
  · intro ht
    have key : ∀ d, num + d ≤ ro_m s n k → ro_ct (fun i => decide (ro_ob s n k i / 8 ^ r < t)) (num + d) = ro_ct (fun i => decide (ro_ob s n k i / 8 ^ r < t)) num := by
      intro d
      induction d with
      | zero => intro _; rfl
      | succ d ih =>
        intro hd
        show ro_ct (fun i => decide (ro_ob s n k i / 8 ^ r < t)) (num + d) + cond (decide (ro_ob s n k (num + d) / 8 ^ r < t)) 1 0 = _
        have := mono num (num + d) (by omega) (by omega)
        rw [decide_eq_false (by omega), ih (by omega)]; rfl
    have e : num + (ro_m s n k - num) = ro_m s n k := by omega
    have k1 := key (ro_m s n k - num) (by omega)
    rw [e] at k1
    rw [k1]; exact ro_ctle _
theorem ro_rkB (s n k r t : Nat) : ro_rk s n k r (t + 1) = ro_rk s n k r t + ro_ct (fun i => decide (ro_ob s n k i / 8 ^ r = t)) (ro_m s n k) := by
  unfold ro_rk
  refine ro_ctadd _ (fun i _ => ?_)
  generalize ro_ob s n k i / 8 ^ r = a
  rcases Nat.lt_trichotomy a t with c | c | c
  · rw [decide_eq_true (by omega), decide_eq_true c, decide_eq_false (by omega)]; rfl
  · rw [decide_eq_true (by omega), decide_eq_false (by omega), decide_eq_true c]; rfl
  · rw [decide_eq_false (by omega), decide_eq_false (by omega), decide_eq_false (by omega)]; rfl
theorem ro_rkC (s n k r p : Nat) : ro_rk s n k r (8 * p) = ro_rk s n k (r + 1) p := by
  unfold ro_rk
  refine ro_ctc _ (fun i _ => ?_)
  rw [Nat.pow_succ, ← Nat.div_div_eq_div_mul]
  generalize ro_ob s n k i / 8 ^ r = a
  rcases Nat.lt_or_ge a (8 * p) with c | c
  · rw [decide_eq_true c, decide_eq_true (by omega)]
  · rw [decide_eq_false (by omega), decide_eq_false (by omega)]
theorem ro_rk0 (s n k r : Nat) : ro_rk s n k r 0 = 0 := ro_ct0 _ (fun _ _ => decide_eq_false (Nat.not_lt_zero _))
theorem ro_rkm (s n k r t : Nat) : ro_rk s n k r t ≤ ro_m s n k := ro_ctle _
/-! a beginning as a function of its numbers -/
def ro_pk (d : Nat → Nat) : Nat → Nat
  | 0 => 0
  | j + 1 => 8 * ro_pk d j + d j
def ro_sd (s : Nat) (d : Nat → Nat) : Nat → Nat
  | 0 => 0
  | j + 1 => ro_de s (ro_sd s d j) (d j)
def ro_dg (L x i : Nat) : Nat := x / 8 ^ (L - 1 - i) % 8
def ro_OK (s n k : Nat) (d : Nat → Nat) (j : Nat) : Prop := ∀ i, i < j → d i < 8 ∧ ro_ok s n k i (ro_sd s d i) (d i) = true
theorem ro_pkc {d e : Nat → Nat} : ∀ j, (∀ i, i < j → d i = e i) → ro_pk d j = ro_pk e j := by
  intro j
  induction j with
  | zero => intro _; rfl
  | succ j ih => intro h; show 8 * ro_pk d j + d j = 8 * ro_pk e j + e j; rw [ih (fun i hi => h i (by omega)), h j (by omega)]
theorem ro_sdc (s : Nat) {d e : Nat → Nat} : ∀ j, (∀ i, i < j → d i = e i) → ro_sd s d j = ro_sd s e j := by
  intro j
  induction j with
  | zero => intro _; rfl
  | succ j ih => intro h; show ro_de s (ro_sd s d j) (d j) = ro_de s (ro_sd s e j) (e j); rw [ih (fun i hi => h i (by omega)), h j (by omega)]
theorem ro_stpk (s : Nat) {d : Nat → Nat} : ∀ j, (∀ i, i < j → d i < 8) → ro_stc s j (ro_pk d j) = ro_sd s d j := by
  intro j
  induction j with
  | zero => intro _; rfl
  | succ j ih =>
    intro h
    show ro_stc s (j + 1) (8 * ro_pk d j + d j) = ro_de s (ro_sd s d j) (d j)
    rw [ro_st8 _ _ _ _ (h j (by omega)), ih (fun i hi => h i (by omega))]
theorem ro_Mpk {s n k : Nat} {d : Nat → Nat} : ∀ j, ro_OK s n k d j → ro_M s n k j (ro_pk d j) = true := by
  intro j
  induction j with
  | zero => intro _; rfl
  | succ j ih =>
    intro h
    show ro_M s n k (j + 1) (8 * ro_pk d j + d j) = true
    rw [ro_M8 _ _ _ _ _ _ (h j (by omega)).1, ih (fun i hi => h i (by omega)), ro_stpk s j (fun i hi => (h i (by omega)).1)]
    exact (h j (by omega)).2
theorem ro_pkM {s n k : Nat} {d : Nat → Nat} : ∀ j, (∀ i, i < j → d i < 8) → ro_M s n k j (ro_pk d j) = true → ro_OK s n k d j := by
  intro j
  induction j with
  | zero => intro _ _ i hi; omega
  | succ j ih =>
    intro h8 h i hi
    have h' : ro_M s n k (j + 1) (8 * ro_pk d j + d j) = true := h
    rw [ro_M8 _ _ _ _ _ _ (h8 j (by omega)), ro_stpk s j (fun i hi => h8 i (by omega)), Bool.and_eq_true] at h'
    rcases Nat.lt_or_ge i j with c | c
    · exact ih (fun i hi => h8 i (by omega)) h'.1 i c
    · have : i = j := by omega
      subst this; exact ⟨h8 i (by omega), h'.2⟩
theorem ro_dg8 (L x i : Nat) : ro_dg L x i < 8 := Nat.mod_lt _ (by decide)
theorem ro_pkdg {L x : Nat} (hx : x < 8 ^ L) : ∀ j, j ≤ L → ro_pk (ro_dg L x) j = x / 8 ^ (L - j) := by
  intro j
  induction j with
  | zero => intro _; exact (Nat.div_eq_of_lt hx).symm
  | succ j ih =>
    intro hj
    show 8 * ro_pk (ro_dg L x) j + x / 8 ^ (L - 1 - j) % 8 = x / 8 ^ (L - (j + 1))
    have e1 : L - j = (L - (j + 1)) + 1 := by omega
    have e2 : L - 1 - j = L - (j + 1) := by omega
    rw [ih (by omega), e1, e2, Nat.pow_succ, ← Nat.div_div_eq_div_mul]
    omega
theorem ro_dgpk {d : Nat → Nat} : ∀ L, (∀ i, i < L → d i < 8) → ∀ i, i < L → ro_dg L (ro_pk d L) i = d i := by
  intro L
  induction L with
  | zero => intro _ i hi; omega
  | succ L ih =>
    intro h i hi
    have h8 := h L (by omega)
    show (8 * ro_pk d L + d L) / 8 ^ (L + 1 - 1 - i) % 8 = d i
    rcases Nat.lt_or_ge i L with c | c
    · have e : L + 1 - 1 - i = (L - 1 - i) + 1 := by omega
      rw [e, Nat.pow_succ, Nat.mul_comm (8 ^ _) 8, ← Nat.div_div_eq_div_mul, show (8 * ro_pk d L + d L) / 8 = ro_pk d L by omega]
      exact ih (fun i hi => h i (by omega)) i c
    · have e : i = L := by omega
      subst e
      rw [show i + 1 - 1 - i = 0 by omega, Nat.pow_zero, Nat.div_one]
      omega
theorem ro_OKob {s n k : Nat} (hne : ¬ (s = 4 ∧ k = 0)) {i : Nat} (h : i < ro_m s n k) : ro_OK s n k (ro_dg (ro_L s n k) (ro_ob s n k i)) (ro_L s n k) := by
  have hM := ro_obM hne h
  have hx := ro_Mlt _ _ _ _ _ hM
  refine ro_pkM _ (fun i _ => ro_dg8 _ _ _) ?_
  rw [ro_pkdg hx _ (Nat.le_refl _), Nat.sub_self, Nat.pow_zero, Nat.div_one]
  exact hM
/-- how many objects have the beginning and then v -/
def ro_wy (s n k j q v : Nat) : Nat := cond (ro_ok s n k j q v) (ro_cnt s n k (ro_L s n k - j - 1) (j + 1) (ro_de s q v)) 0
theorem ro_wyN {s n k : Nat} (hne : ¬ (s = 4 ∧ k = 0)) {d : Nat → Nat} {j v : Nat} (hj : j < ro_L s n k) (h : ro_OK s n k d j) (hv : v < 8) :
    ro_wy s n k j (ro_sd s d j) v = ro_ct (fun i => decide (ro_ob s n k i / 8 ^ (ro_L s n k - j - 1) = 8 * ro_pk d j + v)) (ro_m s n k) := by
  rw [ro_N hne _ (j + 1) _ (by omega), ro_M8 _ _ _ _ _ _ hv, ro_st8 _ _ _ _ hv, ro_Mpk _ h, ro_stpk s j (fun i hi => (h i hi).1)]
  rfl
end
section
def ro_al : Nat → (Nat → Bool) → Bool
  | 0, _ => true
  | n + 1, f => f n && ro_al n f
theorem ro_alE {f : Nat → Bool} : ∀ n, ro_al n f = true → ∀ i, i < n → f i = true := by
  intro n
  induction n with
  | zero => intro _ i hi; omega
  | succ n ih =>
    intro h i hi
    have h' : f n = true ∧ ro_al n f = true := by rw [← Bool.and_eq_true]; exact h
    rcases Nat.lt_or_ge i n with c | c
    · exact ih h'.2 i c
    · have : i = n := by omega
      subst this; exact h'.1
def ro_fc : Nat → Nat
  | 0 => 1
  | n + 1 => (n + 1) * ro_fc n
def ro_ch (a b : Nat) : Nat := cond (Nat.ble b a) (ro_fc a / (ro_fc b * ro_fc (a - b))) 0
def ro_cg : Nat → Nat → Nat
  | 0, _ => 1
  | r + 1, g => g * ro_cg r g + ro_cg r (g + 1)
def ro_pc (q : Nat) : Nat := q % 2 + q / 2 % 2 + q / 4 % 2 + q / 8 % 2 + q / 16 % 2 + q / 32 % 2 + q / 64 % 2
/-- the closed form of the number of completions -/
def ro_cf (s n k j q : Nat) : Nat := match s with
  | 0 => ro_ch (n - q) (k - j)
  | 1 => ro_fc (n - j)
  | 2 => ro_cg (n - j) q
  | 3 => ro_ch (2 * n - j) (n - q) - cond (Nat.ble n q) 0 (ro_ch (2 * n - j) (n - q - 1))
  | _ => cond (Nat.ble k j) (cond (Nat.beq q n) 1 0) (ro_ch (n - q + (k - j) - 1) (k - j - 1))
/-- the states that a beginning of j numbers can have -/
def ro_RR (s n k j q : Nat) : Bool := match s with
  | 0 => Nat.ble q n
  | 1 => Nat.blt q (2 ^ n) && Nat.beq (ro_pc q) j
  | 2 => Nat.ble q j
  | 3 => Nat.ble q n && (Nat.ble j (2 * q) && Nat.ble q j)
  | _ => Nat.ble q n && (Nat.blt j k || Nat.beq q n)
def ro_wt (s n k j q : Nat) : Nat := match s with
  | 0 => 2 ^ (n - q)
  | s => ro_cf s n k j q
def ro_qb (s : Nat) : Nat := match s with
  | 1 => 128
  | _ => 15
def ro_im (a b : Bool) : Bool := match a with
  | true => b
  | false => true
def ro_st1 (s n k j q : Nat) : Bool := ro_im (ro_RR s n k j q) (ro_al 8 (fun v => ro_im (ro_ok s n k j q v) (ro_RR s n k (j + 1) (ro_de s q v))) && (Nat.beq (ro_cf s n k j q) (ro_s8 (fun v => cond (ro_ok s n k j q v) (ro_cf s n k (j + 1) (ro_de s q v)) 0)) && (Nat.ble (ro_s8 (fun v => cond (ro_ok s n k j q v) (ro_wt s n k (j + 1) (ro_de s q v)) 0)) (ro_wt s n k j q) && ro_al 8 (fun v => ro_im (ro_ok s n k j q v) (Nat.ble v n)))))
def ro_st2 (s n k q : Nat) : Bool := ro_im (ro_RR s n k (ro_L s n k) q) (Nat.beq (ro_cf s n k (ro_L s n k) q) 1)
def ro_st3 (s n k j q : Nat) : Bool := ro_im (ro_RR s n k j q) (Nat.ble 1 (ro_wt s n k j q))
def ro_cfg (s n k : Nat) : Bool := ro_al (ro_L s n k) (fun j => ro_al (ro_qb s) (fun q => ro_st1 s n k j q)) && (ro_al (ro_qb s) (fun q => ro_st2 s n k q) && (ro_al (ro_L s n k + 1) (fun j => ro_al (ro_qb s) (fun q => ro_st3 s n k j q)) && (Nat.ble (ro_wt s n k 0 0) 5040 && (Nat.ble (ro_L s n k) 14))))
theorem ro_c0 : ro_al 7 (fun n => ro_al (n + 2) (fun k => ro_cfg 0 (n + 1) k)) = true := by decide +kernel
theorem ro_c1 : ro_al 7 (fun n => ro_cfg 1 (n + 1) 0) = true := by decide +kernel
theorem ro_c2 : ro_al 7 (fun n => ro_cfg 2 (n + 1) 0) = true := by decide +kernel
theorem ro_c3 : ro_al 7 (fun n => ro_cfg 3 (n + 1) 0) = true := by decide +kernel
theorem ro_c4 : ro_al 7 (fun n => ro_al (n + 1) (fun k => ro_cfg 4 (n + 1) (k + 1))) = true := by decide +kernel
end
section
theorem ro_imE {a b : Bool} (h : ro_im a b = true) (ha : a = true) : b = true := by
  subst ha; exact h
def ro_VC (s n k : Nat) : Prop := 1 ≤ n ∧ n ≤ 7 ∧ ((s = 0 ∧ k ≤ n) ∨ (s = 4 ∧ k ≤ n) ∨ ((s = 1 ∨ s = 2 ∨ s = 3) ∧ k = 0))
theorem ro_cfgT {s n k : Nat} (h : ro_VC s n k) (hne : ¬ (s = 4 ∧ k = 0)) : ro_cfg s n k = true := by
  obtain ⟨h1, h7, h⟩ := h
  obtain ⟨n, rfl⟩ : ∃ p, n = p + 1 := ⟨n - 1, by omega⟩
  have hn : n < 7 := by omega
  rcases h with ⟨rfl, hk⟩ | ⟨rfl, hk⟩ | ⟨rfl | rfl | rfl, rfl⟩
  · exact ro_alE _ (ro_alE _ ro_c0 n hn) k (by omega)
  · obtain ⟨k, rfl⟩ : ∃ p, k = p + 1 := ⟨k - 1, by omega⟩
    exact ro_alE _ (ro_alE _ ro_c4 n hn) k (by omega)
  · exact ro_alE _ ro_c1 n hn
  · exact ro_alE _ ro_c2 n hn
  · exact ro_alE _ ro_c3 n hn
theorem ro_L14 {s n k : Nat} (h : ro_VC s n k) : ro_L s n k ≤ 14 := by
  obtain ⟨h1, h7, h⟩ := h
  rcases h with ⟨rfl, hk⟩ | ⟨rfl, hk⟩ | ⟨rfl | rfl | rfl, rfl⟩ <;> simp only [ro_L] <;> omega
theorem ro_RRq {s n k : Nat} (h : ro_VC s n k) {j q : Nat} (hj : j ≤ ro_L s n k) (hr : ro_RR s n k j q = true) : q < ro_qb s := by
  obtain ⟨h1, h7, h⟩ := h
  rcases h with ⟨rfl, hk⟩ | ⟨rfl, hk⟩ | ⟨rfl | rfl | rfl, rfl⟩
  · have : q ≤ n := Nat.le_of_ble_eq_true hr
    show q < 15; omega
  · have hr' : (Nat.ble q n && (Nat.blt j k || Nat.beq q n)) = true := hr
    rw [Bool.and_eq_true] at hr'
    have : q ≤ n := Nat.le_of_ble_eq_true hr'.1
    show q < 15; omega
  · have hr' : (Nat.blt q (2 ^ n) && Nat.beq (ro_pc q) j) = true := hr
    rw [Bool.and_eq_true] at hr'
    have h2 : q < 2 ^ n := Nat.le_of_ble_eq_true hr'.1
    have h3 : 2 ^ n ≤ 2 ^ 7 := Nat.pow_le_pow_right (by decide) h7
    show q < 128; omega
  · have : q ≤ j := Nat.le_of_ble_eq_true hr
    have hj' : j ≤ n := hj
    show q < 15; omega
  · have hr' : (Nat.ble q n && (Nat.ble j (2 * q) && Nat.ble q j)) = true := hr
    rw [Bool.and_eq_true] at hr'
    have : q ≤ n := Nat.le_of_ble_eq_true hr'.1
    show q < 15; omega
theorem ro_st1T {s n k : Nat} (h : ro_VC s n k) (hne : ¬ (s = 4 ∧ k = 0)) {j q : Nat} (hj : j < ro_L s n k) (hr : ro_RR s n k j q = true) :
    (∀ v, v < 8 → ro_ok s n k j q v = true → ro_RR s n k (j + 1) (ro_de s q v) = true) ∧
    (ro_cf s n k j q = ro_s8 (fun v => cond (ro_ok s n k j q v) (ro_cf s n k (j + 1) (ro_de s q v)) 0)) ∧
    (ro_s8 (fun v => cond (ro_ok s n k j q v) (ro_wt s n k (j + 1) (ro_de s q v)) 0) ≤ ro_wt s n k j q) ∧
    (∀ v, v < 8 → ro_ok s n k j q v = true → v ≤ n) := by
  have hc := ro_cfgT h hne
  unfold ro_cfg at hc
  rw [Bool.and_eq_true] at hc
  have h1 := ro_alE _ (ro_alE _ hc.1 j hj) q (ro_RRq h (Nat.le_of_lt hj) hr)
  have h2 := ro_imE h1 hr
  rw [Bool.and_eq_true, Bool.and_eq_true, Bool.and_eq_true] at h2
  refine ⟨fun v hv ho => ro_imE (ro_alE _ h2.1 v hv) ho, Nat.eq_of_beq_eq_true h2.2.1, Nat.le_of_ble_eq_true h2.2.2.1, fun v hv ho => ?_⟩
  exact Nat.le_of_ble_eq_true (ro_imE (ro_alE _ h2.2.2.2 v hv) ho)
theorem ro_st2T {s n k : Nat} (h : ro_VC s n k) (hne : ¬ (s = 4 ∧ k = 0)) {q : Nat} (hr : ro_RR s n k (ro_L s n k) q = true) : ro_cf s n k (ro_L s n k) q = 1 := by
  have hc := ro_cfgT h hne
  unfold ro_cfg at hc
  rw [Bool.and_eq_true, Bool.and_eq_true] at hc
  have h1 := ro_alE _ hc.2.1 q (ro_RRq h (Nat.le_refl _) hr)
  exact Nat.eq_of_beq_eq_true (ro_imE h1 hr)
theorem ro_st3T {s n k : Nat} (h : ro_VC s n k) (hne : ¬ (s = 4 ∧ k = 0)) {j q : Nat} (hj : j ≤ ro_L s n k) (hr : ro_RR s n k j q = true) : 1 ≤ ro_wt s n k j q := by
  have hc := ro_cfgT h hne
  unfold ro_cfg at hc
  rw [Bool.and_eq_true, Bool.and_eq_true, Bool.and_eq_true] at hc
  have h1 := ro_alE _ (ro_alE _ hc.2.2.1 j (by omega)) q (ro_RRq h hj hr)
  exact Nat.le_of_ble_eq_true (ro_imE h1 hr)
theorem ro_wt0 {s n k : Nat} (h : ro_VC s n k) (hne : ¬ (s = 4 ∧ k = 0)) : ro_wt s n k 0 0 ≤ 5040 := by
  have hc := ro_cfgT h hne
  unfold ro_cfg at hc
  rw [Bool.and_eq_true, Bool.and_eq_true, Bool.and_eq_true, Bool.and_eq_true] at hc
  exact Nat.le_of_ble_eq_true hc.2.2.2.1
theorem ro_RR0 {s n k : Nat} (h : ro_VC s n k) (hne : ¬ (s = 4 ∧ k = 0)) : ro_RR s n k 0 0 = true := by
  obtain ⟨h1, h7, h⟩ := h
  rcases h with ⟨rfl, hk⟩ | ⟨rfl, hk⟩ | ⟨rfl | rfl | rfl, rfl⟩
  · exact Nat.ble_eq_true_of_le (Nat.zero_le _)
  · show (Nat.ble 0 n && (Nat.blt 0 k || Nat.beq 0 n)) = true
    rw [Nat.ble_eq_true_of_le (Nat.zero_le _), show Nat.blt 0 k = true from Nat.ble_eq_true_of_le (by omega)]; rfl
  · show (Nat.blt 0 (2 ^ n) && Nat.beq (ro_pc 0) 0) = true
    rw [show Nat.blt 0 (2 ^ n) = true from Nat.ble_eq_true_of_le (Nat.pow_pos (by decide))]; rfl
  · rfl
  · show (Nat.ble 0 n && (Nat.ble 0 (2 * 0) && Nat.ble 0 0)) = true
    rw [Nat.ble_eq_true_of_le (Nat.zero_le _)]; rfl
theorem ro_sdR {s n k : Nat} (h : ro_VC s n k) (hne : ¬ (s = 4 ∧ k = 0)) {d : Nat → Nat} : ∀ j, j ≤ ro_L s n k → ro_OK s n k d j → ro_RR s n k j (ro_sd s d j) = true := by
  intro j
  induction j with
  | zero => intro _ _; exact ro_RR0 h hne
  | succ j ih =>
    intro hj ho
    have hr := ih (by omega) (fun i hi => ho i (by omega))
    exact (ro_st1T h hne (by omega) hr).1 (d j) (ho j (by omega)).1 (ho j (by omega)).2
theorem ro_stR {s n k : Nat} (h : ro_VC s n k) (hne : ¬ (s = 4 ∧ k = 0)) : ∀ j x, j ≤ ro_L s n k → ro_M s n k j x = true → ro_RR s n k j (ro_stc s j x) = true := by
  intro j
  induction j with
  | zero => intro x _ _; exact ro_RR0 h hne
  | succ j ih =>
    intro x hj hm
    have hm' : ro_M s n k j (x / 8) = true ∧ ro_ok s n k j (ro_stc s j (x / 8)) (x % 8) = true := by rw [← Bool.and_eq_true]; exact hm
    have hr := ih (x / 8) (by omega) hm'.1
    exact (ro_st1T h hne (by omega) hr).1 (x % 8) (by omega) hm'.2
theorem ro_cntcf {s n k : Nat} (h : ro_VC s n k) (hne : ¬ (s = 4 ∧ k = 0)) : ∀ r j q, j + r = ro_L s n k → ro_RR s n k j q = true → ro_cnt s n k r j q = ro_cf s n k j q := by
  intro r
  induction r with
  | zero =>
    intro j q hj hr
    have e : j = ro_L s n k := by omega
    subst e
    exact (ro_st2T h hne hr).symm
  | succ r ih =>
    intro j q hj hr
    have H := ro_st1T h hne (by omega) hr
    rw [H.2.1]
    show ro_s8 (fun v => cond (ro_ok s n k j q v) (ro_cnt s n k r (j + 1) (ro_de s q v)) 0) = _
    refine ro_s8c (fun v hv => ?_)
    cases ho : ro_ok s n k j q v
    · rfl
    · exact ih (j + 1) _ (by omega) (H.1 v hv ho)
/-- the closed form of what X's waysWith answers -/
def ro_wz (s n k j q v : Nat) : Nat := cond (ro_ok s n k j q v) (ro_cf s n k (j + 1) (ro_de s q v)) 0
theorem ro_wyz {s n k : Nat} (h : ro_VC s n k) (hne : ¬ (s = 4 ∧ k = 0)) {j q v : Nat} (hj : j < ro_L s n k) (hr : ro_RR s n k j q = true) (hv : v < 8) : ro_wy s n k j q v = ro_wz s n k j q v := by
  unfold ro_wy ro_wz
  cases ho : ro_ok s n k j q v
  · rfl
  · exact ro_cntcf h hne _ (j + 1) _ (by omega) ((ro_st1T h hne hj hr).1 v hv ho)
/-! no level is longer than 5040 -/
def ro_sm (f : Nat → Nat) : Nat → Nat
  | 0 => 0
  | m + 1 => ro_sm f m + f m
theorem ro_smc {f g : Nat → Nat} : ∀ m, (∀ i, i < m → f i = g i) → ro_sm f m = ro_sm g m := by
  intro m
  induction m with
  | zero => intro _; rfl
  | succ m ih => intro h; show ro_sm f m + f m = ro_sm g m + g m; rw [ih (fun i hi => h i (by omega)), h m (by omega)]
theorem ro_sm1 {f : Nat → Nat} : ∀ m, (∀ i, i < m → 1 ≤ f i) → m ≤ ro_sm f m := by
  intro m
  induction m with
  | zero => intro _; exact Nat.le_refl _
  | succ m ih =>
    intro h
    have h1 := ih (fun i hi => h i (by omega))
    have h2 := h m (by omega)
    show m + 1 ≤ ro_sm f m + f m
    omega
def ro_fl (p : Nat → Bool) (f : Nat → Nat) : Nat → List Nat
  | 0 => []
  | i + 1 => cond (p i) (ro_fl p f i ++ [f i]) (ro_fl p f i)
theorem ro_flE (p : Nat → Bool) (f : Nat → Nat) : ∀ N, ro_fl p f N = ((List.range N).filter p).map f := by
  intro N
  induction N with
  | zero => rfl
  | succ N ih =>
    rw [List.range_succ, List.filter_append, List.map_append, ← ih]
    show cond (p N) (ro_fl p f N ++ [f N]) (ro_fl p f N) = _
    cases hp : p N <;> simp [hp]
theorem ro_flL (p : Nat → Bool) (f : Nat → Nat) : ∀ N, (ro_fl p f N).length = ro_ct p N := by
  intro N
  induction N with
  | zero => rfl
  | succ N ih =>
    show (cond (p N) (ro_fl p f N ++ [f N]) (ro_fl p f N)).length = ro_ct p N + cond (p N) 1 0
    cases p N
    · exact ih
    · show (ro_fl p f N ++ [f N]).length = ro_ct p N + 1
      rw [List.length_append, ih]; rfl
theorem ro_gA1 (l : List Nat) (x i : Nat) (h : i < l.length) : (l ++ [x]).getD i 0 = l.getD i 0 := by
  rw [ro_gD _ _ h, ro_gD _ _ (by rw [List.length_append]; omega), List.getElem_append_left h]
theorem ro_gA2 (l : List Nat) (x : Nat) : (l ++ [x]).getD l.length 0 = x := by
  rw [ro_gD _ _ (by rw [List.length_append]; exact Nat.lt_succ_self _), List.getElem_append_right (Nat.le_refl _)]
  simp
theorem ro_smfl (w : Nat → Nat) (p : Nat → Bool) (f : Nat → Nat) : ∀ N, ro_sm (fun i => w ((ro_fl p f N).getD i 0)) (ro_fl p f N).length = ro_sm (fun i => cond (p i) (w (f i)) 0) N := by
  intro N
  induction N with
  | zero => rfl
  | succ N ih =>
    show ro_sm (fun i => w ((cond (p N) (ro_fl p f N ++ [f N]) (ro_fl p f N)).getD i 0)) (cond (p N) (ro_fl p f N ++ [f N]) (ro_fl p f N)).length = ro_sm (fun i => cond (p i) (w (f i)) 0) N + cond (p N) (w (f N)) 0
    cases p N
    · exact ih
    · show ro_sm (fun i => w ((ro_fl p f N ++ [f N]).getD i 0)) (ro_fl p f N ++ [f N]).length = _ + w (f N)
      rw [List.length_append]
      show ro_sm (fun i => w ((ro_fl p f N ++ [f N]).getD i 0)) (ro_fl p f N).length + w ((ro_fl p f N ++ [f N]).getD (ro_fl p f N).length 0) = _
      rw [ro_gA2, ← ih]
      congr 1
      refine ro_smc _ (fun i hi => ?_)
      show w ((ro_fl p f N ++ [f N]).getD i 0) = _
      rw [ro_gA1 _ _ _ hi]
theorem ro_sm8 (h g : Nat → Nat) : ∀ m, (∀ i, i < m → ro_s8 (fun v => h (8 * i + v)) ≤ g i) → ro_sm h (8 * m) ≤ ro_sm g m := by
  intro m
  induction m with
  | zero => intro _; exact Nat.le_refl _
  | succ m ih =>
    intro H
    have h1 := ih (fun i hi => H i (by omega))
    have h2 := H m (by omega)
    have e : ro_sm h (8 * (m + 1)) = ro_sm h (8 * m) + h (8 * m + 0) + h (8 * m + 1) + h (8 * m + 2) + h (8 * m + 3) + h (8 * m + 4) + h (8 * m + 5) + h (8 * m + 6) + h (8 * m + 7) := rfl
    show ro_sm h (8 * (m + 1)) ≤ ro_sm g m + g m
    unfold ro_s8 at h2
    dsimp only at h2
    omega
def ro_np (s n k j : Nat) (l : List Nat) (i : Nat) : Bool := ro_ok s n k j (ro_stc s j (l.getD (i / 8) 0)) (i % 8)
def ro_nf (l : List Nat) (i : Nat) : Nat := 8 * l.getD (i / 8) 0 + i % 8
theorem ro_nxfl (s n k j : Nat) (l : List Nat) : ro_nx s n k j l = ro_fl (ro_np s n k j l) (ro_nf l) (8 * l.length) := (ro_flE _ _ _).symm
def ro_T (s n k j : Nat) : Nat := ro_sm (fun i => ro_wt s n k j (ro_stc s j ((ro_lev s n k j).getD i 0))) (ro_lev s n k j).length
theorem ro_levR {s n k : Nat} (h : ro_VC s n k) (hne : ¬ (s = 4 ∧ k = 0)) {j i : Nat} (hj : j ≤ ro_L s n k) (hi : i < (ro_lev s n k j).length) : ro_RR s n k j (ro_stc s j ((ro_lev s n k j).getD i 0)) = true := by
  refine ro_stR h hne j _ hj ?_
  rw [← ro_levM, ro_gD _ _ hi]
  exact List.getElem_mem hi
theorem ro_T1 {s n k : Nat} (h : ro_VC s n k) (hne : ¬ (s = 4 ∧ k = 0)) {j : Nat} (hj : j < ro_L s n k) : ro_T s n k (j + 1) ≤ ro_T s n k j := by
  unfold ro_T
  show ro_sm (fun i => ro_wt s n k (j + 1) (ro_stc s (j + 1) ((ro_nx s n k j (ro_lev s n k j)).getD i 0))) (ro_nx s n k j (ro_lev s n k j)).length ≤ _
  rw [ro_nxfl, ro_smfl (fun x => ro_wt s n k (j + 1) (ro_stc s (j + 1) x))]
  refine ro_sm8 _ _ _ (fun i hi => ?_)
  refine Nat.le_trans (Nat.le_of_eq (ro_s8c (fun v hv => ?_))) (ro_st1T h hne hj (ro_levR h hne (Nat.le_of_lt hj) hi)).2.2.1
  show cond (ro_ok s n k j (ro_stc s j ((ro_lev s n k j).getD ((8 * i + v) / 8) 0)) ((8 * i + v) % 8)) (ro_wt s n k (j + 1) (ro_stc s (j + 1) (8 * (ro_lev s n k j).getD ((8 * i + v) / 8) 0 + (8 * i + v) % 8))) 0 = _
  rw [show (8 * i + v) / 8 = i by omega, show (8 * i + v) % 8 = v by omega, ro_st8 _ _ _ _ hv]
theorem ro_T0 {s n k : Nat} (h : ro_VC s n k) (hne : ¬ (s = 4 ∧ k = 0)) : ∀ j, j ≤ ro_L s n k → ro_T s n k j ≤ 5040 := by
  intro j
  induction j with
  | zero =>
    intro _
    have : ro_T s n k 0 = 0 + ro_wt s n k 0 0 := rfl
    have := ro_wt0 h hne
    omega
  | succ j ih => intro hj; exact Nat.le_trans (ro_T1 h hne (by omega)) (ih (by omega))
theorem ro_cap {s n k : Nat} (h : ro_VC s n k) (hne : ¬ (s = 4 ∧ k = 0)) {j : Nat} (hj : j ≤ ro_L s n k) : (ro_lev s n k j).length ≤ 5040 :=
  Nat.le_trans (ro_sm1 _ (fun _ hi => ro_st3T h hne hj (ro_levR h hne hj hi))) (ro_T0 h hne j hj)
theorem ro_capm {s n k : Nat} (h : ro_VC s n k) : ro_m s n k ≤ 5040 := by
  by_cases hne : s = 4 ∧ k = 0
  · unfold ro_m ro_obs; rw [if_pos hne]; exact Nat.zero_le _
  · unfold ro_m; rw [ro_obs1 hne]; exact ro_cap h hne (Nat.le_refl _)
end
section
def ro_TB (j : Nat) : Int32 := nI (ro_ch (j / 16) (j % 16))
def ro_TG (j : Nat) : Int32 := cond (Nat.blt (j / 8 + j % 8) 8) (nI (ro_cg (j / 8) (j % 8 + 1))) 0
def ro_BA (j : Nat) : Int32 := if j < 256 then ro_TB j else 0
def ro_GA (j : Nat) : Int32 := if j < 64 then ro_TG j else 0
def ro_bn (p0 p1 : Int32) : Int32 := if p0 < 0 then 0 else if 16 ≤ p0 then 0 else if p1 < 0 then 0 else if p1 ≤ p0 then ro_BA ((p0 * 16) + p1).toNatClampNeg else 0
def ro_gn (p0 p1 : Int32) : Int32 := if p0 < 0 then 0 else if 8 ≤ p0 then 0 else if p1 < 0 then 0 else if p1 < 8 then ro_GA ((p0 * 8) + p1).toNatClampNeg else 0
def ro_w0 (n k j q v : Nat) : Int32 := if v < q then 0 else ro_bn ((nI n - 1) - nI v) ((nI k - 1) - nI j)
def ro_w2 (n j q v : Nat) : Int32 := if nI v ≤ (nI q - 1) + 1 then (if nI v ≤ nI q - 1 then ro_gn ((nI n - 1) - nI j) (nI q - 1) else ro_gn ((nI n - 1) - nI j) (nI v)) else 0
def ro_w3 (n j q v : Nat) : Int32 := if nI (2 * (v + q)) - nI (j + 1) < 0 then 0 else if nI (2 * (v + q)) - nI (j + 1) ≤ (nI (2 * n) - 1) - nI j then ro_bn ((nI (2 * n) - 1) - nI j) ((((nI (2 * n) - 1) - nI j) - (nI (2 * (v + q)) - nI (j + 1))) / 2) - ro_bn ((nI (2 * n) - 1) - nI j) ((((nI (2 * n) - 1) - nI j) - (nI (2 * (v + q)) - nI (j + 1))) / 2 - 1) else 0
def ro_w4 (n k j q v : Nat) : Int32 := if (nI k - 1) - nI j = 0 then (if (nI n - nI v) - nI q = 0 then 1 else 0) else if 0 ≤ (nI n - nI v) - nI q then ro_bn ((((nI n - nI v) - nI q) + ((nI k - 1) - nI j)) - 1) (((nI k - 1) - nI j) - 1) else 0
def ro_cw (s n k : Nat) (w : Nat → Nat → Nat → Int32) (b : Nat) : Bool := ro_al (ro_L s n k) (fun j => ro_al 15 (fun q => ro_im (ro_RR s n k j q) (ro_al b (fun v => decide (w j q v = nI (ro_wz s n k j q v))))))
theorem ro_d0 : ro_al 7 (fun n => ro_al (n + 2) (fun k => ro_cw 0 (n + 1) k (ro_w0 (n + 1) k) 8)) = true := by decide +kernel
theorem ro_d2 : ro_al 7 (fun n => ro_cw 2 (n + 1) 0 (ro_w2 (n + 1)) 8) = true := by decide +kernel
theorem ro_d3 : ro_al 7 (fun n => ro_cw 3 (n + 1) 0 (ro_w3 (n + 1)) 2) = true := by decide +kernel
theorem ro_d4 : ro_al 7 (fun n => ro_al (n + 2) (fun k => ro_cw 4 (n + 1) k (ro_w4 (n + 1) k) 8)) = true := by decide +kernel
theorem ro_cwE {s n k : Nat} {w : Nat → Nat → Nat → Int32} {b : Nat} (h : ro_cw s n k w b = true) {j q v : Nat} (hj : j < ro_L s n k) (hq : q < 15) (hr : ro_RR s n k j q = true) (hv : v < b) : w j q v = nI (ro_wz s n k j q v) :=
  of_decide_eq_true (ro_alE _ (ro_imE (ro_alE _ (ro_alE _ h j hj) q hq) hr) v hv)
theorem ro_e0 {n k j q v : Nat} (h : ro_VC 0 n k) (hj : j < ro_L 0 n k) (hr : ro_RR 0 n k j q = true) (hv : v < 8) : ro_w0 n k j q v = nI (ro_wz 0 n k j q v) := by
  have hq := ro_RRq h (Nat.le_of_lt hj) hr
  obtain ⟨h1, h7, h⟩ := h
  obtain ⟨n, rfl⟩ : ∃ p, n = p + 1 := ⟨n - 1, by omega⟩
  exact ro_cwE (ro_alE _ (ro_alE _ ro_d0 n (by omega)) k (by omega)) hj hq hr hv
theorem ro_e4 {n k j q v : Nat} (h : ro_VC 4 n k) (hj : j < ro_L 4 n k) (hr : ro_RR 4 n k j q = true) (hv : v < 8) : ro_w4 n k j q v = nI (ro_wz 4 n k j q v) := by
  have hq := ro_RRq h (Nat.le_of_lt hj) hr
  obtain ⟨h1, h7, h⟩ := h
  obtain ⟨n, rfl⟩ : ∃ p, n = p + 1 := ⟨n - 1, by omega⟩
  exact ro_cwE (ro_alE _ (ro_alE _ ro_d4 n (by omega)) k (by omega)) hj hq hr hv
theorem ro_e2 {n k j q v : Nat} (h : ro_VC 2 n k) (hj : j < ro_L 2 n k) (hr : ro_RR 2 n k j q = true) (hv : v < 8) : ro_w2 n j q v = nI (ro_wz 2 n k j q v) := by
  have hq := ro_RRq h (Nat.le_of_lt hj) hr
  obtain ⟨h1, h7, h⟩ := h
  obtain ⟨n, rfl⟩ : ∃ p, n = p + 1 := ⟨n - 1, by omega⟩
  have hk : k = 0 := by omega
  subst hk
  exact ro_cwE (ro_alE _ ro_d2 n (by omega)) hj hq hr hv
theorem ro_e3 {n k j q v : Nat} (h : ro_VC 3 n k) (hj : j < ro_L 3 n k) (hr : ro_RR 3 n k j q = true) (hv : v < 2) : ro_w3 n j q v = nI (ro_wz 3 n k j q v) := by
  have hq := ro_RRq h (Nat.le_of_lt hj) hr
  obtain ⟨h1, h7, h⟩ := h
  obtain ⟨n, rfl⟩ : ∃ p, n = p + 1 := ⟨n - 1, by omega⟩
  have hk : k = 0 := by omega
  subst hk
  exact ro_cwE (ro_alE _ ro_d3 n (by omega)) hj hq hr hv
/-! small rows on nI -/
theorem ro_16 {a : Nat} (ha : a < 2 ^ 31) (h : ¬ (16 : Int32) ≤ nI a) : a < 16 := by
  rcases Nat.lt_or_ge a 16 with c | c
  · exact c
  · exact absurd (nI_le (a := 16) (b := a) c ha) h
theorem ro_8 {a : Nat} (ha : a < 2 ^ 31) (h : ¬ (8 : Int32) ≤ nI a) : a < 8 := by
  rcases Nat.lt_or_ge a 8 with c | c
  · exact c
  · exact absurd (nI_le (a := 8) (b := a) c ha) h
theorem ro_wpB (post : Int32 → Prop) (f1 f2 f3 f4 f5 f6 : Int32) (al ao : Nat → Int32) (p0 p1 : Int32) (hp : post (ro_bn p0 p1)) : wpX_binomial post (f1, f2, f3, f4, f5, f6, ro_BA, ro_GA, al, ao) p0 p1 := by
  unfold ro_bn at hp
  by_cases h0 : p0 < 0
  · rw [if_pos h0] at hp; exact br_t h0 hp
  rw [if_neg h0] at hp
  by_cases h1 : 16 ≤ p0
  · rw [if_pos h1] at hp; exact br_f h0 (br_t h1 hp)
  rw [if_neg h1] at hp
  by_cases h2 : p1 < 0
  · rw [if_pos h2] at hp; exact br_f h0 (br_f h1 (br_t h2 hp))
  rw [if_neg h2] at hp
  by_cases h3 : p1 ≤ p0
  · rw [if_pos h3] at hp
    refine br_f h0 (br_f h1 (br_f h2 (br_t h3 ⟨?_, hp⟩)))
    obtain ⟨a, ha, rfl⟩ := nI_of h0
    obtain ⟨b, hb, rfl⟩ := nI_of h2
    have a16 := ro_16 ha h1
    have hab := (nI_leI hb ha).mp h3
    have e : nI a * 16 + nI b = nI (a * 16 + b) := by
      rw [← nI_add, ← pk_mul]; rfl
    rw [e]
    exact vp_in_nI (by omega) (by decide)
  · rw [if_neg h3] at hp; exact br_f h0 (br_f h1 (br_f h2 (br_f h3 hp)))
theorem ro_wpG (post : Int32 → Prop) (f1 f2 f3 f4 f5 f6 : Int32) (al ao : Nat → Int32) (p0 p1 : Int32) (hp : post (ro_gn p0 p1)) : wpX_groupingEnds post (f1, f2, f3, f4, f5, f6, ro_BA, ro_GA, al, ao) p0 p1 := by
  unfold ro_gn at hp
  by_cases h0 : p0 < 0
  · rw [if_pos h0] at hp; exact br_t h0 hp
  rw [if_neg h0] at hp
  by_cases h1 : 8 ≤ p0
  · rw [if_pos h1] at hp; exact br_f h0 (br_t h1 hp)
  rw [if_neg h1] at hp
  by_cases h2 : p1 < 0
  · rw [if_pos h2] at hp; exact br_f h0 (br_f h1 (br_t h2 hp))
  rw [if_neg h2] at hp
  by_cases h3 : p1 < 8
  · rw [if_pos h3] at hp
    refine br_f h0 (br_f h1 (br_f h2 (br_t h3 ⟨?_, hp⟩)))
    obtain ⟨a, ha, rfl⟩ := nI_of h0
    obtain ⟨b, hb, rfl⟩ := nI_of h2
    have a8 := ro_8 ha h1
    have b8 := ro_8 hb (Int32.not_le.mpr h3)
    have e : nI a * 8 + nI b = nI (a * 8 + b) := by
      rw [← nI_add, ← pk_mul]; rfl
    rw [e]
    exact vp_in_nI (by omega) (by decide)
  · rw [if_neg h3] at hp; exact br_f h0 (br_f h1 (br_f h2 (br_f h3 hp)))
theorem ro_lem1 {a g : Nat} (ha : a < 2 ^ 30) (hg : g < 2 ^ 30) : nI a ≤ nI g - 1 ↔ a + 1 ≤ g := by
  rw [Int32.le_iff_toInt_le, nI_toInt (by omega)]
  have := pk_sub_toInt hg (b := 1) (by decide)
  rw [show nI 1 = 1 from rfl] at this
  rw [this]; omega
theorem ro_bit (d : Nat → Nat) (v : Nat) : ∀ j, (ro_sd 1 d j).testBit v = true ↔ ∃ i, i < j ∧ d i = v := by
  intro j
  induction j with
  | zero =>
    constructor
    · intro h
      have h' : (0 : Nat).testBit v = true := h
      rw [Nat.zero_testBit] at h'; cases h'
    · rintro ⟨i, hi, _⟩; omega
  | succ j ih =>
    show (ro_sd 1 d j ||| 2 ^ d j).testBit v = true ↔ _
    rw [Nat.testBit_or, Bool.or_eq_true, ih, Nat.testBit_two_pow, decide_eq_true_iff]
    constructor
    · rintro (⟨i, hi, e⟩ | e)
      · exact ⟨i, by omega, e⟩
      · exact ⟨j, by omega, e⟩
    · rintro ⟨i, hi, e⟩
      rcases Nat.lt_or_ge i j with c | c
      · exact Or.inl ⟨i, c, e⟩
      · have : i = j := by omega
        subst this; exact Or.inr e
theorem ro_fcS {f : Nat} (h : 2 ≤ f) : ro_fc (f - 1) * f = ro_fc (f + 1 - 1) := by
  obtain ⟨g, rfl⟩ : ∃ g, f = g + 1 := ⟨f - 1, by omega⟩
  show ro_fc g * (g + 1) = (g + 1) * ro_fc g
  exact Nat.mul_comm _ _
end
section
theorem ro_chw_list (post : Int32 → Prop) (f1 f4 f5 f6 : Int32) (n k j v : Nat) (d : Nat → Nat) (al ao : Nat → Int32) (hj : j ≤ 14) (hv : v < 8) (hd : ∀ i, i < j → d i < 8 ∧ al i = nI (d i)) (hp : post (ro_w0 n k j (ro_sd 0 d j) v)) : wpX_choiceWays__list post (f1, nI n, nI k, f4, f5, f6, ro_BA, ro_GA, al, ao) (nI j) (nI v) := by
  unfold ro_w0 at hp
  cases j with
  | zero =>
    rw [if_neg (show ¬ v < ro_sd 0 d 0 from Nat.not_lt_zero _)] at hp
    exact br_t (by decide : nI 0 ≤ 0) (ro_wpB _ _ _ _ _ _ _ _ _ _ _ hp)
  | succ i =>
    obtain ⟨h8, e⟩ := hd i (by omega)
    have h1 : ¬ nI (i + 1) ≤ 0 := nI_nle (by omega) (by omega)
    have hin : vp_in (nI (i + 1) - 1) 14 := by rw [nI_pred]; exact vp_in_nI (by omega) (by decide)
    have ec : (nI (i + 1) - 1).toNatClampNeg = i := by rw [nI_pred]; exact nI_clamp (by omega)
    by_cases c : d i < v
    · rw [if_neg (show ¬ v < ro_sd 0 d (i + 1) by show ¬ v < d i + 1; omega)] at hp
      have h2 : al (nI (i + 1) - 1).toNatClampNeg < nI v := by rw [ec, e]; exact nI_lt c (by omega)
      exact br_f h1 ⟨hin, br_t h2 (ro_wpB _ _ _ _ _ _ _ _ _ _ _ hp)⟩
    · rw [if_pos (show v < ro_sd 0 d (i + 1) by show v < d i + 1; omega)] at hp
      have h2 : ¬ al (nI (i + 1) - 1).toNatClampNeg < nI v := by rw [ec, e]; exact nI_nlt (by omega) (by omega)
      exact br_f h1 ⟨hin, br_f h2 hp⟩
theorem ro_fcw_list (post : Int32 → Prop) (f1 f3 f4 f5 f6 : Int32) (n j : Nat) (al ao : Nat → Int32) (hn : n ≤ 7) (hjn : j < n) (hp : post (nI (ro_fc (n - j - 1)))) : ∀ r f, 2 ≤ f → (f + r = n - j ∨ (f = 2 ∧ r = 0 ∧ n - j ≤ 2)) → wX_orderWays__list_41 post (nI j) f1 (nI n) f3 f4 f5 f6 ro_BA ro_GA al ao (r + 1) (nI (ro_fc (f - 1))) (nI f) := by
  intro r
  induction r with
  | zero =>
    intro f h2 h
    have hc : nI n - nI j ≤ nI f := by rw [pk_sub (by omega)]; exact nI_le (by omega) (by omega)
    have e : ro_fc (f - 1) = ro_fc (n - j - 1) := by
      rcases h with h | ⟨h, _, h'⟩
      · rw [← h]; rfl
      · subst h
        rcases (by omega : n - j = 1 ∨ n - j = 2) with c | c <;> rw [c] <;> rfl
    rw [e]
    exact br_t hc hp
  | succ r ih =>
    intro f h2 h
    have hc : ¬ nI n - nI j ≤ nI f := by rw [pk_sub (by omega)]; exact nI_ge (by omega) (by omega)
    exact br_f hc (nm_r (by rw [pk_mul, ro_fcS h2]) (nm_r (nI_1 f) (ih (f + 1) (by omega) (by omega))))
theorem ro_orw_list (post : Int32 → Prop) (f1 f3 f4 f5 f6 : Int32) (n k j v : Nat) (d : Nat → Nat) (al ao : Nat → Int32) (hn : n ≤ 7) (hjn : j < n) (hv : v < 8) (hd : ∀ i, i < j → d i < 8 ∧ al i = nI (d i)) (hp : post (nI (ro_wz 1 n k j (ro_sd 1 d j) v))) : wpX_orderWays__list post (f1, nI n, f3, f4, f5, f6, ro_BA, ro_GA, al, ao) (nI j) (nI v) := by
  have hz : ro_wz 1 n k j (ro_sd 1 d j) v = cond (decide (v < n) && !((ro_sd 1 d j).testBit v)) (ro_fc (n - (j + 1))) 0 := rfl
  rw [hz] at hp
  by_cases c : v < n
  · rw [decide_eq_true c, Bool.true_and] at hp
    have key : ∀ r i, i + r = j → (∀ i', i' < i → d i' ≠ v) → wX_orderWays__list_13 post (nI j) (nI v) f1 (nI n) f3 f4 f5 f6 ro_BA ro_GA al ao (r + 1) (nI i) := by
      intro r
      induction r with
      | zero =>
        intro i hi hno
        have e : i = j := by omega
        subst e
        have hb : (ro_sd 1 d i).testBit v = false := by
          cases hq : (ro_sd 1 d i).testBit v
          · rfl
          · obtain ⟨i', h1, h2⟩ := (ro_bit d v i).mp hq
            exact absurd h2 (hno i' h1)
        rw [hb] at hp
        have hp' : post (nI (ro_fc (n - i - 1))) := by rw [Nat.sub_sub]; exact hp
        refine br_t (nI_le (Nat.le_refl _) (by omega)) ?_
        rcases Nat.lt_or_ge (n - i) 3 with h3 | h3
        · exact ⟨1, ro_fcw_list post f1 f3 f4 f5 f6 n i al ao hn hjn hp' 0 2 (by omega) (Or.inr ⟨rfl, rfl, by omega⟩)⟩
        · exact ⟨n - i - 2 + 1, ro_fcw_list post f1 f3 f4 f5 f6 n i al ao hn hjn hp' (n - i - 2) 2 (by omega) (Or.inl (by omega))⟩
      | succ r ih =>
        intro i hi hno
        obtain ⟨h8, e⟩ := hd i (by omega)
        have hin : vp_in (nI i) 14 := vp_in_nI (by omega) (by decide)
        have ec : (nI i).toNatClampNeg = i := nI_clamp (by omega)
        by_cases c2 : d i = v
        · have hb : (ro_sd 1 d j).testBit v = true := (ro_bit d v j).mpr ⟨i, by omega, c2⟩
          rw [hb] at hp
          have h2 : al (nI i).toNatClampNeg = nI v := by rw [ec, e, c2]
          exact br_f (nI_ge (by omega) (by omega)) ⟨hin, br_t h2 hp⟩
        · have h2 : ¬ al (nI i).toNatClampNeg = nI v := by rw [ec, e, nI_eq (by omega) (by omega)]; exact c2
          refine br_f (nI_ge (by omega) (by omega)) ⟨hin, br_f h2 (nm_r (nI_1 i) (ih (i + 1) (by omega) (fun i' h' => ?_)))⟩
          rcases Nat.lt_or_ge i' i with c3 | c3
          · exact hno i' c3
          · have : i' = i := by omega
            subst this; exact c2
    exact br_t (nI_lt c (by omega)) ⟨j + 1, key j 0 (by omega) (fun i' h' => by omega)⟩
  · rw [decide_eq_false c] at hp
    exact br_f (nI_nlt (by omega) (by omega)) hp
theorem ro_grw_list (post : Int32 → Prop) (f1 f3 f4 f5 f6 : Int32) (n j v : Nat) (d : Nat → Nat) (al ao : Nat → Int32) (hj : j ≤ 14) (hv : v < 8) (hd : ∀ i, i < j → d i < 8 ∧ al i = nI (d i)) (hp : post (ro_w2 n j (ro_sd 2 d j) v)) : wpX_groupingWays__list post (f1, nI n, f3, f4, f5, f6, ro_BA, ro_GA, al, ao) (nI j) (nI v) := by
  have hb : ∀ i, i ≤ j → ro_sd 2 d i ≤ 8 := by
    intro i
    induction i with
    | zero => intro _; exact Nat.zero_le _
    | succ i ih =>
      intro h
      have := ih (by omega)
      have := (hd i (by omega)).1
      show max (ro_sd 2 d i) (d i + 1) ≤ 8
      omega
  have key : ∀ r i x4, i + r = j → x4 = nI (ro_sd 2 d i) - 1 → wX_groupingWays__list_6 post (nI j) (nI v) f1 (nI n) f3 f4 f5 f6 ro_BA ro_GA al ao (r + 1) x4 (nI i) := by
    intro r
    induction r with
    | zero =>
      intro i x4 hi hx
      have e : i = j := by omega
      subst e; subst hx
      unfold ro_w2 at hp
      refine br_t (nI_le (Nat.le_refl _) (by omega)) ?_
      by_cases c1 : nI v ≤ (nI (ro_sd 2 d i) - 1) + 1
      · rw [if_pos c1] at hp
        by_cases c2 : nI v ≤ nI (ro_sd 2 d i) - 1
        · rw [if_pos c2] at hp
          exact br_t c1 (br_t c2 (ro_wpG _ _ _ _ _ _ _ _ _ _ _ hp))
        · rw [if_neg c2] at hp
          exact br_t c1 (br_f c2 (ro_wpG _ _ _ _ _ _ _ _ _ _ _ hp))
      · rw [if_neg c1] at hp
        exact br_f c1 hp
    | succ r ih =>
      intro i x4 hi hx
      subst hx
      obtain ⟨h8, e⟩ := hd i (by omega)
      have hin : vp_in (nI i) 14 := vp_in_nI (by omega) (by decide)
      have ec : (nI i).toNatClampNeg = i := nI_clamp (by omega)
      have hg := hb i (by omega)
      have es : ro_sd 2 d (i + 1) = max (ro_sd 2 d i) (d i + 1) := rfl
      refine br_f (nI_ge (by omega) (by omega)) ⟨hin, ?_⟩
      by_cases c : d i + 1 ≤ ro_sd 2 d i
      · have h2 : al (nI i).toNatClampNeg ≤ nI (ro_sd 2 d i) - 1 := by rw [ec, e]; exact (ro_lem1 (by omega) (by omega)).mpr c
        exact br_t h2 (nm_r (nI_1 i) (ih (i + 1) _ (by omega) (by rw [es, Nat.max_eq_left c])))
      · have h2 : ¬ al (nI i).toNatClampNeg ≤ nI (ro_sd 2 d i) - 1 := by rw [ec, e]; exact fun z => c ((ro_lem1 (by omega) (by omega)).mp z)
        refine br_f h2 ⟨hin, nm_e (nm_r (nI_1 i) (ih (i + 1) _ (by omega) ?_))⟩
        rw [ec, e, es, Nat.max_eq_right (by omega), nI_pred]
  exact ⟨j + 1, key j 0 (-1) (by omega) (by rfl)⟩
theorem ro_nsw_list (post : Int32 → Prop) (f1 f3 f5 f6 : Int32) (n j v : Nat) (d : Nat → Nat) (al ao : Nat → Int32) (hj : j ≤ 14) (hv : v < 8) (hd : ∀ i, i < j → d i ≤ 1 ∧ al i = nI (d i)) (hp : v < 2 → post (ro_w3 n j (ro_sd 3 d j) v)) (hq : 2 ≤ v → post 0) : wpX_nestingWays__list post (f1, nI n, f3, nI (2 * n), f5, f6, ro_BA, ro_GA, al, ao) (nI j) (nI v) := by
  have key : v < 2 → ∀ r i x4, i + r = j → x4 = nI (2 * (v + ro_sd 3 d i)) - nI (i + 1) → wX_nestingWays__list_22 post (nI j) f1 (nI n) f3 (nI (2 * n)) f5 f6 ro_BA ro_GA al ao (r + 1) x4 (nI i) := by
    intro hv2
    have hp := hp hv2
    intro r
    induction r with
    | zero =>
      intro i x4 hi hx
      have e : i = j := by omega
      subst e; subst hx
      unfold ro_w3 at hp
      refine br_t (nI_le (Nat.le_refl _) (by omega)) (nm_e ?_)
      by_cases c1 : nI (2 * (v + ro_sd 3 d i)) - nI (i + 1) < 0
      · rw [if_pos c1] at hp
        exact br_t c1 hp
      · rw [if_neg c1] at hp
        by_cases c2 : nI (2 * (v + ro_sd 3 d i)) - nI (i + 1) ≤ (nI (2 * n) - 1) - nI i
        · rw [if_pos c2] at hp
          exact br_f c1 (br_t c2 ⟨by decide, nm_e (ro_wpB _ _ _ _ _ _ _ _ _ _ _ (ro_wpB _ _ _ _ _ _ _ _ _ _ _ hp))⟩)
        · rw [if_neg c2] at hp
          exact br_f c1 (br_f c2 hp)
    | succ r ih =>
      intro i x4 hi hx
      subst hx
      obtain ⟨h8, e⟩ := hd i (by omega)
      have hin : vp_in (nI i) 14 := vp_in_nI (by omega) (by decide)
      have ec : (nI i).toNatClampNeg = i := nI_clamp (by omega)
      have es : ro_sd 3 d (i + 1) = ro_sd 3 d i + d i := rfl
      refine br_f (nI_ge (by omega) (by omega)) ⟨hin, ?_⟩
      by_cases c : d i = 1
      · have h2 : al (nI i).toNatClampNeg = 1 := by rw [ec, e, c]; rfl
        refine br_t h2 (nm_e (nm_r (nI_1 i) (ih (i + 1) _ (by omega) ?_)))
        rw [es, c, show 2 * (v + (ro_sd 3 d i + 1)) = 2 * (v + ro_sd 3 d i) + 1 + 1 by omega, ← nI_1 (2 * (v + ro_sd 3 d i) + 1), ← nI_1 (2 * (v + ro_sd 3 d i)), ← nI_1 (i + 1)]
        grind
      · have c0 : d i = 0 := by omega
        have h2 : ¬ al (nI i).toNatClampNeg = 1 := by rw [ec, e, c0]; decide
        refine br_f h2 (nm_e (nm_r (nI_1 i) (ih (i + 1) _ (by omega) ?_)))
        rw [es, c0, Nat.add_zero, ← nI_1 (i + 1)]
        grind
  rcases (by omega : v = 0 ∨ v = 1 ∨ 2 ≤ v) with c | c | c
  · subst c
    exact br_t (by decide : nI 0 ≤ 1) (br_f (by decide : ¬ nI 0 = 1) ⟨j + 1, key (by omega) j 0 (-1) (by omega) (by rfl)⟩)
  · subst c
    exact br_t (by decide : nI 1 ≤ 1) (br_t (by decide : nI 1 = 1) ⟨j + 1, key (by omega) j 0 1 (by omega) (by show (1 : Int32) = nI (2 * (1 + 0)) - nI (0 + 1); decide)⟩)
  · exact br_f (nI_ge (a := 1) (b := v) (by omega) (by omega)) (hq c)
theorem ro_ptw_list (post : Int32 → Prop) (f1 f4 f5 f6 : Int32) (n k j v : Nat) (d : Nat → Nat) (al ao : Nat → Int32) (hj : j ≤ 14) (hv : v < 8) (hd : ∀ i, i < j → d i < 8 ∧ al i = nI (d i)) (hp : post (ro_w4 n k j (ro_sd 4 d j) v)) : wpX_partWays__list post (f1, nI n, nI k, f4, f5, f6, ro_BA, ro_GA, al, ao) (nI j) (nI v) := by
  have key : ∀ r i x4, i + r = j → x4 = (nI n - nI v) - nI (ro_sd 4 d i) → wX_partWays__list_11 post (nI j) f1 (nI n) (nI k) f4 f5 f6 ro_BA ro_GA al ao (r + 1) x4 (nI i) := by
    intro r
    induction r with
    | zero =>
      intro i x4 hi hx
      have e : i = j := by omega
      subst e; subst hx
      unfold ro_w4 at hp
      refine br_t (nI_le (Nat.le_refl _) (by omega)) (nm_e ?_)
      by_cases c1 : (nI k - 1) - nI i = 0
      · rw [if_pos c1] at hp
        by_cases c2 : (nI n - nI v) - nI (ro_sd 4 d i) = 0
        · rw [if_pos c2] at hp
          exact br_t c1 (br_t c2 hp)
        · rw [if_neg c2] at hp
          exact br_t c1 (br_f c2 hp)
      · rw [if_neg c1] at hp
        by_cases c2 : 0 ≤ (nI n - nI v) - nI (ro_sd 4 d i)
        · rw [if_pos c2] at hp
          exact br_f c1 (br_t c2 (ro_wpB _ _ _ _ _ _ _ _ _ _ _ hp))
        · rw [if_neg c2] at hp
          exact br_f c1 (br_f c2 hp)
    | succ r ih =>
      intro i x4 hi hx
      subst hx
      obtain ⟨h8, e⟩ := hd i (by omega)
      have hin : vp_in (nI i) 14 := vp_in_nI (by omega) (by decide)
      have ec : (nI i).toNatClampNeg = i := nI_clamp (by omega)
      have es : ro_sd 4 d (i + 1) = ro_sd 4 d i + d i := rfl
      refine br_f (nI_ge (by omega) (by omega)) ⟨hin, nm_e (nm_r (nI_1 i) (ih (i + 1) _ (by omega) ?_))⟩
      rw [ec, e, es, ← nI_add]
      grind
  refine nm_e ⟨j + 1, key j 0 _ (by omega) ?_⟩
  show nI n - nI v = nI n - nI v - nI 0
  rw [nI_0, Int32.sub_zero]
theorem ro_ways_list (post : Int32 → Prop) (f3 f5 f6 : Int32) (s n k j v : Nat) (d : Nat → Nat) (al ao : Nat → Int32) (h : ro_VC s n k) (hne : ¬ (s = 4 ∧ k = 0)) (hk : s = 0 ∨ s = 4 → f3 = nI k) (hj : j < ro_L s n k) (hv : v < 8) (ho : ro_OK s n k d j) (hd : ∀ i, i < j → al i = nI (d i)) (hp : post (nI (ro_wy s n k j (ro_sd s d j) v))) : wpX_waysWith__list post (nI s, nI n, f3, nI (ro_L s n k), f5, f6, ro_BA, ro_GA, al, ao) (nI j) (nI v) := by
  have hr := ro_sdR h hne j (Nat.le_of_lt hj) ho
  have h14 := ro_L14 h
  rw [ro_wyz h hne hj hr hv] at hp
  have hd' : ∀ i, i < j → d i < 8 ∧ al i = nI (d i) := fun i hi => ⟨(ho i hi).1, hd i hi⟩
  have h' := h
  obtain ⟨h1, h7, hs⟩ := h'
  rcases hs with ⟨rfl, hkn⟩ | ⟨rfl, hkn⟩ | ⟨rfl | rfl | rfl, rfl⟩
  · have e3 := hk (Or.inl rfl)
    subst e3
    rw [← ro_e0 h hj hr hv] at hp
    exact br_f (by decide : ¬ nI 0 < 0) (br_f (by decide : ¬ 3 < nI 0) (br_t (by decide : nI 0 = 0) (ro_chw_list _ _ _ _ _ n k j v d al ao (by omega) hv hd' hp)))
  · have e3 := hk (Or.inr rfl)
    subst e3
    rw [← ro_e4 h hj hr hv] at hp
    exact br_f (by decide : ¬ nI 4 < 0) (br_t (by decide : 3 < nI 4) (ro_ptw_list _ _ _ _ _ n k j v d al ao (by omega) hv hd' hp))
  · have hj' : j < n := hj
    exact br_f (by decide : ¬ nI 1 < 0) (br_f (by decide : ¬ 3 < nI 1) (br_f (by decide : ¬ nI 1 = 0) (br_t (by decide : nI 1 = 1) (ro_orw_list _ _ _ _ _ _ n 0 j v d al ao h7 hj' hv hd' hp))))
  · rw [← ro_e2 h hj hr hv] at hp
    exact br_f (by decide : ¬ nI 2 < 0) (br_f (by decide : ¬ 3 < nI 2) (br_f (by decide : ¬ nI 2 = 0) (br_f (by decide : ¬ nI 2 = 1) (br_t (by decide : nI 2 = 2) (ro_grw_list _ _ _ _ _ _ n j v d al ao (by omega) hv hd' hp)))))
  · have hd1 : ∀ i, i < j → d i ≤ 1 ∧ al i = nI (d i) := by
      intro i hi
      refine ⟨?_, hd i hi⟩
      have := (ho i hi).2
      have t : (decide (d i ≤ 1) && (decide (ro_sd 3 d i + d i ≤ n) && decide (i + 1 ≤ 2 * (ro_sd 3 d i + d i)))) = true := this
      rw [Bool.and_eq_true] at t
      exact of_decide_eq_true t.1
    refine br_f (by decide : ¬ nI 3 < 0) (br_f (by decide : ¬ 3 < nI 3) (br_f (by decide : ¬ nI 3 = 0) (br_f (by decide : ¬ nI 3 = 1) (br_f (by decide : ¬ nI 3 = 2) (br_t (by decide : nI 3 = 3) (ro_nsw_list _ _ _ _ _ n j v d al ao (by omega) hv hd1 ?_ ?_))))))
    · intro hv2
      rw [← ro_e3 h hj hr hv2] at hp
      exact hp
    · intro hv2
      have z : ro_wz 3 n 0 j (ro_sd 3 d j) v = 0 := by
        show cond (decide (v ≤ 1) && _) _ 0 = 0
        rw [decide_eq_false (by omega)]; rfl
      rw [z] at hp
      exact hp
end
section
theorem ro_chw_other (post : Int32 → Prop) (f1 f4 f5 f6 : Int32) (n k j v : Nat) (d : Nat → Nat) (al ao : Nat → Int32) (hj : j ≤ 14) (hv : v < 8) (hd : ∀ i, i < j → d i < 8 ∧ ao i = nI (d i)) (hp : post (ro_w0 n k j (ro_sd 0 d j) v)) : wpX_choiceWays__other post (f1, nI n, nI k, f4, f5, f6, ro_BA, ro_GA, al, ao) (nI j) (nI v) := by
  unfold ro_w0 at hp
  cases j with
  | zero =>
    rw [if_neg (show ¬ v < ro_sd 0 d 0 from Nat.not_lt_zero _)] at hp
    exact br_t (by decide : nI 0 ≤ 0) (ro_wpB _ _ _ _ _ _ _ _ _ _ _ hp)
  | succ i =>
    obtain ⟨h8, e⟩ := hd i (by omega)
    have h1 : ¬ nI (i + 1) ≤ 0 := nI_nle (by omega) (by omega)
    have hin : vp_in (nI (i + 1) - 1) 14 := by rw [nI_pred]; exact vp_in_nI (by omega) (by decide)
    have ec : (nI (i + 1) - 1).toNatClampNeg = i := by rw [nI_pred]; exact nI_clamp (by omega)
    by_cases c : d i < v
    · rw [if_neg (show ¬ v < ro_sd 0 d (i + 1) by show ¬ v < d i + 1; omega)] at hp
      have h2 : ao (nI (i + 1) - 1).toNatClampNeg < nI v := by rw [ec, e]; exact nI_lt c (by omega)
      exact br_f h1 ⟨hin, br_t h2 (ro_wpB _ _ _ _ _ _ _ _ _ _ _ hp)⟩
    · rw [if_pos (show v < ro_sd 0 d (i + 1) by show v < d i + 1; omega)] at hp
      have h2 : ¬ ao (nI (i + 1) - 1).toNatClampNeg < nI v := by rw [ec, e]; exact nI_nlt (by omega) (by omega)
      exact br_f h1 ⟨hin, br_f h2 hp⟩
theorem ro_fcw_other (post : Int32 → Prop) (f1 f3 f4 f5 f6 : Int32) (n j : Nat) (al ao : Nat → Int32) (hn : n ≤ 7) (hjn : j < n) (hp : post (nI (ro_fc (n - j - 1)))) : ∀ r f, 2 ≤ f → (f + r = n - j ∨ (f = 2 ∧ r = 0 ∧ n - j ≤ 2)) → wX_orderWays__other_41 post (nI j) f1 (nI n) f3 f4 f5 f6 ro_BA ro_GA al ao (r + 1) (nI (ro_fc (f - 1))) (nI f) := by
  intro r
  induction r with
  | zero =>
    intro f h2 h
    have hc : nI n - nI j ≤ nI f := by rw [pk_sub (by omega)]; exact nI_le (by omega) (by omega)
    have e : ro_fc (f - 1) = ro_fc (n - j - 1) := by
      rcases h with h | ⟨h, _, h'⟩
      · rw [← h]; rfl
      · subst h
        rcases (by omega : n - j = 1 ∨ n - j = 2) with c | c <;> rw [c] <;> rfl
    rw [e]
    exact br_t hc hp
  | succ r ih =>
    intro f h2 h
    have hc : ¬ nI n - nI j ≤ nI f := by rw [pk_sub (by omega)]; exact nI_ge (by omega) (by omega)
    exact br_f hc (nm_r (by rw [pk_mul, ro_fcS h2]) (nm_r (nI_1 f) (ih (f + 1) (by omega) (by omega))))
theorem ro_orw_other (post : Int32 → Prop) (f1 f3 f4 f5 f6 : Int32) (n k j v : Nat) (d : Nat → Nat) (al ao : Nat → Int32) (hn : n ≤ 7) (hjn : j < n) (hv : v < 8) (hd : ∀ i, i < j → d i < 8 ∧ ao i = nI (d i)) (hp : post (nI (ro_wz 1 n k j (ro_sd 1 d j) v))) : wpX_orderWays__other post (f1, nI n, f3, f4, f5, f6, ro_BA, ro_GA, al, ao) (nI j) (nI v) := by
  have hz : ro_wz 1 n k j (ro_sd 1 d j) v = cond (decide (v < n) && !((ro_sd 1 d j).testBit v)) (ro_fc (n - (j + 1))) 0 := rfl
  rw [hz] at hp
  by_cases c : v < n
  · rw [decide_eq_true c, Bool.true_and] at hp
    have key : ∀ r i, i + r = j → (∀ i', i' < i → d i' ≠ v) → wX_orderWays__other_13 post (nI j) (nI v) f1 (nI n) f3 f4 f5 f6 ro_BA ro_GA al ao (r + 1) (nI i) := by
      intro r
      induction r with
      | zero =>
        intro i hi hno
        have e : i = j := by omega
        subst e
        have hb : (ro_sd 1 d i).testBit v = false := by
          cases hq : (ro_sd 1 d i).testBit v
          · rfl
          · obtain ⟨i', h1, h2⟩ := (ro_bit d v i).mp hq
            exact absurd h2 (hno i' h1)
        rw [hb] at hp
        have hp' : post (nI (ro_fc (n - i - 1))) := by rw [Nat.sub_sub]; exact hp
        refine br_t (nI_le (Nat.le_refl _) (by omega)) ?_
        rcases Nat.lt_or_ge (n - i) 3 with h3 | h3
        · exact ⟨1, ro_fcw_other post f1 f3 f4 f5 f6 n i al ao hn hjn hp' 0 2 (by omega) (Or.inr ⟨rfl, rfl, by omega⟩)⟩
        · exact ⟨n - i - 2 + 1, ro_fcw_other post f1 f3 f4 f5 f6 n i al ao hn hjn hp' (n - i - 2) 2 (by omega) (Or.inl (by omega))⟩
      | succ r ih =>
        intro i hi hno
        obtain ⟨h8, e⟩ := hd i (by omega)
        have hin : vp_in (nI i) 14 := vp_in_nI (by omega) (by decide)
        have ec : (nI i).toNatClampNeg = i := nI_clamp (by omega)
        by_cases c2 : d i = v
        · have hb : (ro_sd 1 d j).testBit v = true := (ro_bit d v j).mpr ⟨i, by omega, c2⟩
          rw [hb] at hp
          have h2 : ao (nI i).toNatClampNeg = nI v := by rw [ec, e, c2]
          exact br_f (nI_ge (by omega) (by omega)) ⟨hin, br_t h2 hp⟩
        · have h2 : ¬ ao (nI i).toNatClampNeg = nI v := by rw [ec, e, nI_eq (by omega) (by omega)]; exact c2
          refine br_f (nI_ge (by omega) (by omega)) ⟨hin, br_f h2 (nm_r (nI_1 i) (ih (i + 1) (by omega) (fun i' h' => ?_)))⟩
          rcases Nat.lt_or_ge i' i with c3 | c3
          · exact hno i' c3
          · have : i' = i := by omega
            subst this; exact c2
    exact br_t (nI_lt c (by omega)) ⟨j + 1, key j 0 (by omega) (fun i' h' => by omega)⟩
  · rw [decide_eq_false c] at hp
    exact br_f (nI_nlt (by omega) (by omega)) hp
theorem ro_grw_other (post : Int32 → Prop) (f1 f3 f4 f5 f6 : Int32) (n j v : Nat) (d : Nat → Nat) (al ao : Nat → Int32) (hj : j ≤ 14) (hv : v < 8) (hd : ∀ i, i < j → d i < 8 ∧ ao i = nI (d i)) (hp : post (ro_w2 n j (ro_sd 2 d j) v)) : wpX_groupingWays__other post (f1, nI n, f3, f4, f5, f6, ro_BA, ro_GA, al, ao) (nI j) (nI v) := by
  have hb : ∀ i, i ≤ j → ro_sd 2 d i ≤ 8 := by
    intro i
    induction i with
    | zero => intro _; exact Nat.zero_le _
    | succ i ih =>
      intro h
      have := ih (by omega)
      have := (hd i (by omega)).1
      show max (ro_sd 2 d i) (d i + 1) ≤ 8
      omega
  have key : ∀ r i x4, i + r = j → x4 = nI (ro_sd 2 d i) - 1 → wX_groupingWays__other_6 post (nI j) (nI v) f1 (nI n) f3 f4 f5 f6 ro_BA ro_GA al ao (r + 1) x4 (nI i) := by
    intro r
    induction r with
    | zero =>
      intro i x4 hi hx
      have e : i = j := by omega
      subst e; subst hx
      unfold ro_w2 at hp
      refine br_t (nI_le (Nat.le_refl _) (by omega)) ?_
      by_cases c1 : nI v ≤ (nI (ro_sd 2 d i) - 1) + 1
      · rw [if_pos c1] at hp
        by_cases c2 : nI v ≤ nI (ro_sd 2 d i) - 1
        · rw [if_pos c2] at hp
          exact br_t c1 (br_t c2 (ro_wpG _ _ _ _ _ _ _ _ _ _ _ hp))
        · rw [if_neg c2] at hp
          exact br_t c1 (br_f c2 (ro_wpG _ _ _ _ _ _ _ _ _ _ _ hp))
      · rw [if_neg c1] at hp
        exact br_f c1 hp
    | succ r ih =>
      intro i x4 hi hx
      subst hx
      obtain ⟨h8, e⟩ := hd i (by omega)
      have hin : vp_in (nI i) 14 := vp_in_nI (by omega) (by decide)
      have ec : (nI i).toNatClampNeg = i := nI_clamp (by omega)
      have hg := hb i (by omega)
      have es : ro_sd 2 d (i + 1) = max (ro_sd 2 d i) (d i + 1) := rfl
      refine br_f (nI_ge (by omega) (by omega)) ⟨hin, ?_⟩
      by_cases c : d i + 1 ≤ ro_sd 2 d i
      · have h2 : ao (nI i).toNatClampNeg ≤ nI (ro_sd 2 d i) - 1 := by rw [ec, e]; exact (ro_lem1 (by omega) (by omega)).mpr c
        exact br_t h2 (nm_r (nI_1 i) (ih (i + 1) _ (by omega) (by rw [es, Nat.max_eq_left c])))
      · have h2 : ¬ ao (nI i).toNatClampNeg ≤ nI (ro_sd 2 d i) - 1 := by rw [ec, e]; exact fun z => c ((ro_lem1 (by omega) (by omega)).mp z)
        refine br_f h2 ⟨hin, nm_e (nm_r (nI_1 i) (ih (i + 1) _ (by omega) ?_))⟩
        rw [ec, e, es, Nat.max_eq_right (by omega), nI_pred]
  exact ⟨j + 1, key j 0 (-1) (by omega) (by rfl)⟩
theorem ro_nsw_other (post : Int32 → Prop) (f1 f3 f5 f6 : Int32) (n j v : Nat) (d : Nat → Nat) (al ao : Nat → Int32) (hj : j ≤ 14) (hv : v < 8) (hd : ∀ i, i < j → d i ≤ 1 ∧ ao i = nI (d i)) (hp : v < 2 → post (ro_w3 n j (ro_sd 3 d j) v)) (hq : 2 ≤ v → post 0) : wpX_nestingWays__other post (f1, nI n, f3, nI (2 * n), f5, f6, ro_BA, ro_GA, al, ao) (nI j) (nI v) := by
  have key : v < 2 → ∀ r i x4, i + r = j → x4 = nI (2 * (v + ro_sd 3 d i)) - nI (i + 1) → wX_nestingWays__other_22 post (nI j) f1 (nI n) f3 (nI (2 * n)) f5 f6 ro_BA ro_GA al ao (r + 1) x4 (nI i) := by
    intro hv2
    have hp := hp hv2
    intro r
    induction r with
    | zero =>
      intro i x4 hi hx
      have e : i = j := by omega
      subst e; subst hx
      unfold ro_w3 at hp
      refine br_t (nI_le (Nat.le_refl _) (by omega)) (nm_e ?_)
      by_cases c1 : nI (2 * (v + ro_sd 3 d i)) - nI (i + 1) < 0
      · rw [if_pos c1] at hp
        exact br_t c1 hp
      · rw [if_neg c1] at hp
        by_cases c2 : nI (2 * (v + ro_sd 3 d i)) - nI (i + 1) ≤ (nI (2 * n) - 1) - nI i
        · rw [if_pos c2] at hp
          exact br_f c1 (br_t c2 ⟨by decide, nm_e (ro_wpB _ _ _ _ _ _ _ _ _ _ _ (ro_wpB _ _ _ _ _ _ _ _ _ _ _ hp))⟩)
        · rw [if_neg c2] at hp
          exact br_f c1 (br_f c2 hp)
    | succ r ih =>
      intro i x4 hi hx
      subst hx
      obtain ⟨h8, e⟩ := hd i (by omega)
      have hin : vp_in (nI i) 14 := vp_in_nI (by omega) (by decide)
      have ec : (nI i).toNatClampNeg = i := nI_clamp (by omega)
      have es : ro_sd 3 d (i + 1) = ro_sd 3 d i + d i := rfl
      refine br_f (nI_ge (by omega) (by omega)) ⟨hin, ?_⟩
      by_cases c : d i = 1
      · have h2 : ao (nI i).toNatClampNeg = 1 := by rw [ec, e, c]; rfl
        refine br_t h2 (nm_e (nm_r (nI_1 i) (ih (i + 1) _ (by omega) ?_)))
        rw [es, c, show 2 * (v + (ro_sd 3 d i + 1)) = 2 * (v + ro_sd 3 d i) + 1 + 1 by omega, ← nI_1 (2 * (v + ro_sd 3 d i) + 1), ← nI_1 (2 * (v + ro_sd 3 d i)), ← nI_1 (i + 1)]
        grind
      · have c0 : d i = 0 := by omega
        have h2 : ¬ ao (nI i).toNatClampNeg = 1 := by rw [ec, e, c0]; decide
        refine br_f h2 (nm_e (nm_r (nI_1 i) (ih (i + 1) _ (by omega) ?_)))
        rw [es, c0, Nat.add_zero, ← nI_1 (i + 1)]
        grind
  rcases (by omega : v = 0 ∨ v = 1 ∨ 2 ≤ v) with c | c | c
  · subst c
    exact br_t (by decide : nI 0 ≤ 1) (br_f (by decide : ¬ nI 0 = 1) ⟨j + 1, key (by omega) j 0 (-1) (by omega) (by rfl)⟩)
  · subst c
    exact br_t (by decide : nI 1 ≤ 1) (br_t (by decide : nI 1 = 1) ⟨j + 1, key (by omega) j 0 1 (by omega) (by show (1 : Int32) = nI (2 * (1 + 0)) - nI (0 + 1); decide)⟩)
  · exact br_f (nI_ge (a := 1) (b := v) (by omega) (by omega)) (hq c)
theorem ro_ptw_other (post : Int32 → Prop) (f1 f4 f5 f6 : Int32) (n k j v : Nat) (d : Nat → Nat) (al ao : Nat → Int32) (hj : j ≤ 14) (hv : v < 8) (hd : ∀ i, i < j → d i < 8 ∧ ao i = nI (d i)) (hp : post (ro_w4 n k j (ro_sd 4 d j) v)) : wpX_partWays__other post (f1, nI n, nI k, f4, f5, f6, ro_BA, ro_GA, al, ao) (nI j) (nI v) := by
  have key : ∀ r i x4, i + r = j → x4 = (nI n - nI v) - nI (ro_sd 4 d i) → wX_partWays__other_11 post (nI j) f1 (nI n) (nI k) f4 f5 f6 ro_BA ro_GA al ao (r + 1) x4 (nI i) := by
    intro r
    induction r with
    | zero =>
      intro i x4 hi hx
      have e : i = j := by omega
      subst e; subst hx
      unfold ro_w4 at hp
      refine br_t (nI_le (Nat.le_refl _) (by omega)) (nm_e ?_)
      by_cases c1 : (nI k - 1) - nI i = 0
      · rw [if_pos c1] at hp
        by_cases c2 : (nI n - nI v) - nI (ro_sd 4 d i) = 0
        · rw [if_pos c2] at hp
          exact br_t c1 (br_t c2 hp)
        · rw [if_neg c2] at hp
          exact br_t c1 (br_f c2 hp)
      · rw [if_neg c1] at hp
        by_cases c2 : 0 ≤ (nI n - nI v) - nI (ro_sd 4 d i)
        · rw [if_pos c2] at hp
          exact br_f c1 (br_t c2 (ro_wpB _ _ _ _ _ _ _ _ _ _ _ hp))
        · rw [if_neg c2] at hp
          exact br_f c1 (br_f c2 hp)
    | succ r ih =>
      intro i x4 hi hx
      subst hx
      obtain ⟨h8, e⟩ := hd i (by omega)
      have hin : vp_in (nI i) 14 := vp_in_nI (by omega) (by decide)
      have ec : (nI i).toNatClampNeg = i := nI_clamp (by omega)
      have es : ro_sd 4 d (i + 1) = ro_sd 4 d i + d i := rfl
      refine br_f (nI_ge (by omega) (by omega)) ⟨hin, nm_e (nm_r (nI_1 i) (ih (i + 1) _ (by omega) ?_))⟩
      rw [ec, e, es, ← nI_add]
      grind
  refine nm_e ⟨j + 1, key j 0 _ (by omega) ?_⟩
  show nI n - nI v = nI n - nI v - nI 0
  rw [nI_0, Int32.sub_zero]
theorem ro_ways_other (post : Int32 → Prop) (f3 f5 f6 : Int32) (s n k j v : Nat) (d : Nat → Nat) (al ao : Nat → Int32) (h : ro_VC s n k) (hne : ¬ (s = 4 ∧ k = 0)) (hk : s = 0 ∨ s = 4 → f3 = nI k) (hj : j < ro_L s n k) (hv : v < 8) (ho : ro_OK s n k d j) (hd : ∀ i, i < j → ao i = nI (d i)) (hp : post (nI (ro_wy s n k j (ro_sd s d j) v))) : wpX_waysWith__other post (nI s, nI n, f3, nI (ro_L s n k), f5, f6, ro_BA, ro_GA, al, ao) (nI j) (nI v) := by
  have hr := ro_sdR h hne j (Nat.le_of_lt hj) ho
  have h14 := ro_L14 h
  rw [ro_wyz h hne hj hr hv] at hp
  have hd' : ∀ i, i < j → d i < 8 ∧ ao i = nI (d i) := fun i hi => ⟨(ho i hi).1, hd i hi⟩
  have h' := h
  obtain ⟨h1, h7, hs⟩ := h'
  rcases hs with ⟨rfl, hkn⟩ | ⟨rfl, hkn⟩ | ⟨rfl | rfl | rfl, rfl⟩
  · have e3 := hk (Or.inl rfl)
    subst e3
    rw [← ro_e0 h hj hr hv] at hp
    exact br_f (by decide : ¬ nI 0 < 0) (br_f (by decide : ¬ 3 < nI 0) (br_t (by decide : nI 0 = 0) (ro_chw_other _ _ _ _ _ n k j v d al ao (by omega) hv hd' hp)))
  · have e3 := hk (Or.inr rfl)
    subst e3
    rw [← ro_e4 h hj hr hv] at hp
    exact br_f (by decide : ¬ nI 4 < 0) (br_t (by decide : 3 < nI 4) (ro_ptw_other _ _ _ _ _ n k j v d al ao (by omega) hv hd' hp))
  · have hj' : j < n := hj
    exact br_f (by decide : ¬ nI 1 < 0) (br_f (by decide : ¬ 3 < nI 1) (br_f (by decide : ¬ nI 1 = 0) (br_t (by decide : nI 1 = 1) (ro_orw_other _ _ _ _ _ _ n 0 j v d al ao h7 hj' hv hd' hp))))
  · rw [← ro_e2 h hj hr hv] at hp
    exact br_f (by decide : ¬ nI 2 < 0) (br_f (by decide : ¬ 3 < nI 2) (br_f (by decide : ¬ nI 2 = 0) (br_f (by decide : ¬ nI 2 = 1) (br_t (by decide : nI 2 = 2) (ro_grw_other _ _ _ _ _ _ n j v d al ao (by omega) hv hd' hp)))))
  · have hd1 : ∀ i, i < j → d i ≤ 1 ∧ ao i = nI (d i) := by
      intro i hi
      refine ⟨?_, hd i hi⟩
      have := (ho i hi).2
      have t : (decide (d i ≤ 1) && (decide (ro_sd 3 d i + d i ≤ n) && decide (i + 1 ≤ 2 * (ro_sd 3 d i + d i)))) = true := this
      rw [Bool.and_eq_true] at t
      exact of_decide_eq_true t.1
    refine br_f (by decide : ¬ nI 3 < 0) (br_f (by decide : ¬ 3 < nI 3) (br_f (by decide : ¬ nI 3 = 0) (br_f (by decide : ¬ nI 3 = 1) (br_f (by decide : ¬ nI 3 = 2) (br_t (by decide : nI 3 = 3) (ro_nsw_other _ _ _ _ _ n j v d al ao (by omega) hv hd1 ?_ ?_))))))
    · intro hv2
      rw [← ro_e3 h hj hr hv2] at hp
      exact hp
    · intro hv2
      have z : ro_wz 3 n 0 j (ro_sd 3 d j) v = 0 := by
        show cond (decide (v ≤ 1) && _) _ 0 = 0
        rw [decide_eq_false (by omega)]; rfl
      rw [z] at hp
      exact hp
end
section
theorem ro_wo28_list (post : SX → Prop) (J : Int32 → Int32 → (Nat → Int32) → (Nat → Int32) → (Nat → Int32) → (Nat → Int32) → Prop) (f3 f5 f6 : Int32) (s n k j num : Nat) (al ao : Nat → Int32) (h : ro_VC s n k) (hne : ¬ (s = 4 ∧ k = 0)) (hk : s = 0 ∨ s = 4 → f3 = nI k) (hj : j < ro_L s n k) (hnum : num < ro_m s n k) (hd : ∀ i, i < j → al i = nI (ro_dg (ro_L s n k) (ro_ob s n k num) i))
    (hJ : J (nI (num - ro_rk s n k (ro_L s n k - j - 1) (8 * ro_pk (ro_dg (ro_L s n k) (ro_ob s n k num)) j + ro_dg (ro_L s n k) (ro_ob s n k num) j))) (nI (j + 1)) ro_BA ro_GA (upd al j (nI (ro_dg (ro_L s n k) (ro_ob s n k num) j))) ao) :
    ∀ r v, v + r = ro_dg (ro_L s n k) (ro_ob s n k num) j → wX_writeObject__list_28 post J (nI j) (nI s) (nI n) f3 (nI (ro_L s n k)) f5 f6 ro_BA ro_GA al ao (r + 1) (nI (num - ro_rk s n k (ro_L s n k - j - 1) (8 * ro_pk (ro_dg (ro_L s n k) (ro_ob s n k num)) j + v))) (nI v) (nI (ro_wy s n k j (ro_sd s (ro_dg (ro_L s n k) (ro_ob s n k num)) j) v)) := by
  have hOK := ro_OKob hne hnum
  have hx := ro_Mlt _ _ _ _ _ (ro_obM hne hnum)
  have hpk : 8 * ro_pk (ro_dg (ro_L s n k) (ro_ob s n k num)) j + ro_dg (ro_L s n k) (ro_ob s n k num) j = ro_ob s n k num / 8 ^ (ro_L s n k - j - 1) := ro_pkdg hx (j + 1) hj
  have h8 : ro_dg (ro_L s n k) (ro_ob s n k num) j < 8 := ro_dg8 _ _ _
  have h7 := h.2.1
  have h14 := ro_L14 h
  have hcap := ro_capm h
  have hdn : ro_dg (ro_L s n k) (ro_ob s n k num) j ≤ n := (ro_st1T h hne hj (ro_sdR h hne j (Nat.le_of_lt hj) (fun i hi => hOK i (by omega)))).2.2.2 _ h8 (hOK j hj).2
  have hOKj : ro_OK s n k (ro_dg (ro_L s n k) (ro_ob s n k num)) j := fun i hi => hOK i (by omega)
  have hA := fun t => ro_rkA (s := s) (n := n) (k := k) hne (ro_L s n k - j - 1) t hnum
  have hB := fun v (hv : v < 8) => ro_wyN hne hj hOKj hv
  have hin : vp_in (nI j) 14 := vp_in_nI (by omega) (by decide)
  have ec : (nI j).toNatClampNeg = j := nI_clamp (by omega)
  rw [← hpk] at hA
  generalize ro_dg (ro_L s n k) (ro_ob s n k num) = d at *
  intro r
  induction r with
  | zero =>
    intro v hv
    have e : v = d j := by omega
    have hJ' : J (nI (num - ro_rk s n k (ro_L s n k - j - 1) (8 * ro_pk d j + v))) (nI (j + 1)) ro_BA ro_GA (upd al (nI j).toNatClampNeg (nI v)) ao := by rw [ec, e]; exact hJ
    rcases Nat.lt_or_ge v n with c | c
    · refine br_f (nI_ge c (by omega)) (br_t ?_ ⟨hin, nm_e (nm_r (nI_1 j) hJ')⟩)
      have h1 := hB v (by omega)
      have h2 := ro_rkB s n k (ro_L s n k - j - 1) (8 * ro_pk d j + v)
      have h3 : ¬ ro_rk s n k (ro_L s n k - j - 1) (8 * ro_pk d j + v + 1) ≤ num := fun z => by have := (hA _).mp z; omega
      have h4 := (hA (8 * ro_pk d j + v)).mpr (by omega)
      have h5 := ro_rkm s n k (ro_L s n k - j - 1) (8 * ro_pk d j + v + 1)
      rw [h1]
      exact nI_lt (by omega) (by omega)
    · exact br_t (nI_le c (by omega)) ⟨hin, nm_e (nm_r (nI_1 j) hJ')⟩
  | succ r ih =>
    intro v hv
    have h1 := hB v (by omega)
    have h2 := ro_rkB s n k (ro_L s n k - j - 1) (8 * ro_pk d j + v)
    have h3 := (hA (8 * ro_pk d j + v + 1)).mpr (by omega)
    have h5 := ro_rkm s n k (ro_L s n k - j - 1) (8 * ro_pk d j + v + 1)
    refine br_f (nI_ge (by omega) (by omega)) (br_f ?_ (nm_r (e' := nI (num - ro_rk s n k (ro_L s n k - j - 1) (8 * ro_pk d j + (v + 1)))) ?_ (nm_r (nI_1 v) ?_)))
    · rw [h1]
      exact nI_nlt (by omega) (by omega)
    · rw [h1, pk_sub (by omega)]
      exact congrArg nI (by rw [← Nat.add_assoc]; omega)
    · exact ro_ways_list _ f3 f5 f6 s n k j (v + 1) d al ao h hne hk hj (by omega) hOKj hd (ih (v + 1) (by omega))
theorem ro_wo5_list (post : SX → Prop) (f3 f5 f6 : Int32) (s n k num : Nat) (h : ro_VC s n k) (hne : ¬ (s = 4 ∧ k = 0)) (hk : s = 0 ∨ s = 4 → f3 = nI k) (hnum : num < ro_m s n k) (ao : Nat → Int32) (hp : ∀ al : Nat → Int32, (∀ i, i < ro_L s n k → al i = nI (ro_dg (ro_L s n k) (ro_ob s n k num) i)) → post (nI s, nI n, f3, nI (ro_L s n k), f5, f6, ro_BA, ro_GA, al, ao)) :
    ∀ r j (al : Nat → Int32), j + r = ro_L s n k → (∀ i, i < j → al i = nI (ro_dg (ro_L s n k) (ro_ob s n k num) i)) → wX_writeObject__list_5 post (nI s) (nI n) f3 (nI (ro_L s n k)) f5 f6 (r + 1) (nI (num - ro_rk s n k (ro_L s n k - j) (ro_pk (ro_dg (ro_L s n k) (ro_ob s n k num)) j))) (nI j) ro_BA ro_GA al ao := by
  have h14 := ro_L14 h
  intro r
  induction r with
  | zero =>
    intro j al hj hd
    exact br_t (nI_le (by omega) (by omega)) (hp al (fun i hi => hd i (by omega)))
  | succ r ih =>
    intro j al hj hd
    have hOK := ro_OKob hne hnum
    refine br_f (nI_ge (by omega) (by omega)) ?_
    refine ro_ways_list _ f3 f5 f6 s n k j 0 (ro_dg (ro_L s n k) (ro_ob s n k num)) al ao h hne hk (by omega) (by omega) (fun i hi => hOK i (by omega)) hd ?_
    refine ⟨ro_dg (ro_L s n k) (ro_ob s n k num) j + 1, ?_⟩
    have e1 : ro_L s n k - j = (ro_L s n k - j - 1) + 1 := by omega
    rw [e1, ← ro_rkC]
    refine ro_wo28_list post _ f3 f5 f6 s n k j num al ao h hne hk (by omega) hnum hd ?_ _ 0 (Nat.zero_add _)
    have e2 : ro_L s n k - j - 1 = ro_L s n k - (j + 1) := by omega
    rw [e2]
    refine ih (j + 1) _ (by omega) (fun i hi => ?_)
    rcases Nat.lt_or_ge i j with c | c
    · rw [pk_un (by omega)]; exact hd i c
    · have : i = j := by omega
      subst this; exact pk_us
theorem ro_wo_list (post : SX → Prop) (f3 f5 f6 : Int32) (s n k num : Nat) (al ao : Nat → Int32) (h : ro_VC s n k) (hk : s = 0 ∨ s = 4 → f3 = nI k) (hnum : num < ro_m s n k ∨ ro_L s n k = 0) (hp : ∀ al : Nat → Int32, (∀ i, i < ro_L s n k → al i = nI (ro_dg (ro_L s n k) (ro_ob s n k num) i)) → post (nI s, nI n, f3, nI (ro_L s n k), f5, f6, ro_BA, ro_GA, al, ao)) : wpX_writeObject__list post (nI s, nI n, f3, nI (ro_L s n k), f5, f6, ro_BA, ro_GA, al, ao) (nI num) := by
  rcases Nat.eq_zero_or_pos (ro_L s n k) with hz | hz
  · refine ⟨1, br_t ?_ (hp al (fun i hi => by omega))⟩
    rw [hz]; decide
  · have hne : ¬ (s = 4 ∧ k = 0) := by
      rintro ⟨rfl, rfl⟩
      exact absurd (show (0 : Nat) < 0 from hz) (Nat.lt_irrefl 0)
    refine ⟨ro_L s n k + 1, ?_⟩
    have := ro_wo5_list post f3 f5 f6 s n k num h hne hk (by omega) ao hp (ro_L s n k) 0 al (by omega) (fun i hi => by omega)
    have e : num - ro_rk s n k (ro_L s n k - 0) (ro_pk (ro_dg (ro_L s n k) (ro_ob s n k num)) 0) = num := by
      show num - ro_rk s n k (ro_L s n k - 0) 0 = num
      rw [ro_rk0]; rfl
    rw [e] at this
    exact this
theorem ro_fw14_list (post : Int32 → Prop) (J : Int32 → Int32 → Prop) (x2 f3 f5 f6 : Int32) (s n k j : Nat) (d : Nat → Nat) (al ao : Nat → Int32) (h : ro_VC s n k) (hne : ¬ (s = 4 ∧ k = 0)) (hk : s = 0 ∨ s = 4 → f3 = nI k) (hj : j < ro_L s n k) (ho : ro_OK s n k d (j + 1)) (hd : ∀ i, i < j + 1 → al i = nI (d i))
    (hJ : J (nI (ro_rk s n k (ro_L s n k - j - 1) (8 * ro_pk d j + d j))) (nI (j + 1))) :
    ∀ r v, v + r = d j → wX_firstWith__list_14 post J x2 (nI j) (nI s) (nI n) f3 (nI (ro_L s n k)) f5 f6 ro_BA ro_GA al ao (r + 1) (nI (ro_rk s n k (ro_L s n k - j - 1) (8 * ro_pk d j + v))) (nI v) := by
  have h14 := ro_L14 h
  have hin : vp_in (nI j) 14 := vp_in_nI (by omega) (by decide)
  have ec : (nI j).toNatClampNeg = j := nI_clamp (by omega)
  have h8 := (ho j (by omega)).1
  have ed : al (nI j).toNatClampNeg = nI (d j) := by rw [ec]; exact hd j (by omega)
  intro r
  induction r with
  | zero =>
    intro v hv
    have e : v = d j := by omega
    subst e
    refine ⟨hin, br_t ?_ (nm_r (nI_1 j) hJ)⟩
    rw [ed]; exact nI_le (Nat.le_refl _) (by omega)
  | succ r ih =>
    intro v hv
    refine ⟨hin, br_f ?_ ?_⟩
    · rw [ed]; exact nI_ge (by omega) (by omega)
    · refine ro_ways_list _ f3 f5 f6 s n k j v d al ao h hne hk hj (by omega) (fun i hi => ho i (by omega)) (fun i hi => hd i (by omega)) ?_
      refine nm_r (e' := nI (ro_rk s n k (ro_L s n k - j - 1) (8 * ro_pk d j + (v + 1)))) ?_ (nm_r (nI_1 v) (ih (v + 1) (by omega)))
      rw [nI_add, ← Nat.add_assoc, ro_rkB, ro_wyN hne hj (fun i hi => ho i (by omega)) (by omega)]
theorem ro_fw5_list (post : Int32 → Prop) (f3 f5 f6 : Int32) (s n k p : Nat) (d : Nat → Nat) (al ao : Nat → Int32) (h : ro_VC s n k) (hne : ¬ (s = 4 ∧ k = 0)) (hk : s = 0 ∨ s = 4 → f3 = nI k) (hpL : p < ro_L s n k) (ho : ro_OK s n k d (p + 1)) (hd : ∀ i, i < p + 1 → al i = nI (d i)) (hp : post (nI (ro_rk s n k (ro_L s n k - (p + 1)) (ro_pk d (p + 1))))) :
    ∀ r j, j + r = p + 1 → wX_firstWith__list_5 post (nI p) (nI s) (nI n) f3 (nI (ro_L s n k)) f5 f6 ro_BA ro_GA al ao (r + 1) (nI (ro_rk s n k (ro_L s n k - j) (ro_pk d j))) (nI j) := by
  have h14 := ro_L14 h
  intro r
  induction r with
  | zero =>
    intro j hj
    have e : j = p + 1 := by omega
    subst e
    exact br_t (nI_lt (by omega) (by omega)) hp
  | succ r ih =>
    intro j hj
    refine br_f (nI_nlt (by omega) (by omega)) ⟨d j + 1, ?_⟩
    have e1 : ro_L s n k - j = (ro_L s n k - j - 1) + 1 := by omega
    rw [e1, ← ro_rkC]
    refine ro_fw14_list post _ (nI p) f3 f5 f6 s n k j d al ao h hne hk (by omega) (fun i hi => ho i (by omega)) (fun i hi => hd i (by omega)) ?_ _ 0 (Nat.zero_add _)
    have e2 : ro_L s n k - j - 1 = ro_L s n k - (j + 1) := by omega
    rw [e2]
    exact ih (j + 1) (by omega)
theorem ro_fw_list (post : Int32 → Prop) (f3 f5 f6 : Int32) (s n k p : Nat) (d : Nat → Nat) (al ao : Nat → Int32) (h : ro_VC s n k) (hne : ¬ (s = 4 ∧ k = 0)) (hk : s = 0 ∨ s = 4 → f3 = nI k) (hpL : p < ro_L s n k) (ho : ro_OK s n k d (p + 1)) (hd : ∀ i, i < p + 1 → al i = nI (d i)) (hp : post (nI (ro_rk s n k (ro_L s n k - (p + 1)) (ro_pk d (p + 1))))) : wpX_firstWith__list post (nI s, nI n, f3, nI (ro_L s n k), f5, f6, ro_BA, ro_GA, al, ao) (nI p) := by
  refine ⟨p + 1 + 1, ?_⟩
  have := ro_fw5_list post f3 f5 f6 s n k p d al ao h hne hk hpL ho hd hp (p + 1) 0 (by omega)
  rw [show ro_pk d 0 = 0 from rfl, ro_rk0] at this
  exact this
end
section
theorem ro_wo28_other (post : SX → Prop) (J : Int32 → Int32 → (Nat → Int32) → (Nat → Int32) → (Nat → Int32) → (Nat → Int32) → Prop) (f3 f5 f6 : Int32) (s n k j num : Nat) (al ao : Nat → Int32) (h : ro_VC s n k) (hne : ¬ (s = 4 ∧ k = 0)) (hk : s = 0 ∨ s = 4 → f3 = nI k) (hj : j < ro_L s n k) (hnum : num < ro_m s n k) (hd : ∀ i, i < j → ao i = nI (ro_dg (ro_L s n k) (ro_ob s n k num) i))
    (hJ : J (nI (num - ro_rk s n k (ro_L s n k - j - 1) (8 * ro_pk (ro_dg (ro_L s n k) (ro_ob s n k num)) j + ro_dg (ro_L s n k) (ro_ob s n k num) j))) (nI (j + 1)) ro_BA ro_GA al (upd ao j (nI (ro_dg (ro_L s n k) (ro_ob s n k num) j)))) :
    ∀ r v, v + r = ro_dg (ro_L s n k) (ro_ob s n k num) j → wX_writeObject__other_28 post J (nI j) (nI s) (nI n) f3 (nI (ro_L s n k)) f5 f6 ro_BA ro_GA al ao (r + 1) (nI (num - ro_rk s n k (ro_L s n k - j - 1) (8 * ro_pk (ro_dg (ro_L s n k) (ro_ob s n k num)) j + v))) (nI v) (nI (ro_wy s n k j (ro_sd s (ro_dg (ro_L s n k) (ro_ob s n k num)) j) v)) := by
  have hOK := ro_OKob hne hnum
  have hx := ro_Mlt _ _ _ _ _ (ro_obM hne hnum)
  have hpk : 8 * ro_pk (ro_dg (ro_L s n k) (ro_ob s n k num)) j + ro_dg (ro_L s n k) (ro_ob s n k num) j = ro_ob s n k num / 8 ^ (ro_L s n k - j - 1) := ro_pkdg hx (j + 1) hj
  have h8 : ro_dg (ro_L s n k) (ro_ob s n k num) j < 8 := ro_dg8 _ _ _
  have h7 := h.2.1
  have h14 := ro_L14 h
  have hcap := ro_capm h
  have hdn : ro_dg (ro_L s n k) (ro_ob s n k num) j ≤ n := (ro_st1T h hne hj (ro_sdR h hne j (Nat.le_of_lt hj) (fun i hi => hOK i (by omega)))).2.2.2 _ h8 (hOK j hj).2
  have hOKj : ro_OK s n k (ro_dg (ro_L s n k) (ro_ob s n k num)) j := fun i hi => hOK i (by omega)
  have hA := fun t => ro_rkA (s := s) (n := n) (k := k) hne (ro_L s n k - j - 1) t hnum
  have hB := fun v (hv : v < 8) => ro_wyN hne hj hOKj hv
  have hin : vp_in (nI j) 14 := vp_in_nI (by omega) (by decide)
  have ec : (nI j).toNatClampNeg = j := nI_clamp (by omega)
  rw [← hpk] at hA
  generalize ro_dg (ro_L s n k) (ro_ob s n k num) = d at *
  intro r
  induction r with
  | zero =>
    intro v hv
    have e : v = d j := by omega
    have hJ' : J (nI (num - ro_rk s n k (ro_L s n k - j - 1) (8 * ro_pk d j + v))) (nI (j + 1)) ro_BA ro_GA al (upd ao (nI j).toNatClampNeg (nI v)) := by rw [ec, e]; exact hJ
    rcases Nat.lt_or_ge v n with c | c
    · refine br_f (nI_ge c (by omega)) (br_t ?_ ⟨hin, nm_e (nm_r (nI_1 j) hJ')⟩)
      have h1 := hB v (by omega)
      have h2 := ro_rkB s n k (ro_L s n k - j - 1) (8 * ro_pk d j + v)
      have h3 : ¬ ro_rk s n k (ro_L s n k - j - 1) (8 * ro_pk d j + v + 1) ≤ num := fun z => by have := (hA _).mp z; omega
      have h4 := (hA (8 * ro_pk d j + v)).mpr (by omega)
      have h5 := ro_rkm s n k (ro_L s n k - j - 1) (8 * ro_pk d j + v + 1)
      rw [h1]
      exact nI_lt (by omega) (by omega)
    · exact br_t (nI_le c (by omega)) ⟨hin, nm_e (nm_r (nI_1 j) hJ')⟩
  | succ r ih =>
    intro v hv
    have h1 := hB v (by omega)
    have h2 := ro_rkB s n k (ro_L s n k - j - 1) (8 * ro_pk d j + v)
    have h3 := (hA (8 * ro_pk d j + v + 1)).mpr (by omega)
    have h5 := ro_rkm s n k (ro_L s n k - j - 1) (8 * ro_pk d j + v + 1)
    refine br_f (nI_ge (by omega) (by omega)) (br_f ?_ (nm_r (e' := nI (num - ro_rk s n k (ro_L s n k - j - 1) (8 * ro_pk d j + (v + 1)))) ?_ (nm_r (nI_1 v) ?_)))
    · rw [h1]
      exact nI_nlt (by omega) (by omega)
    · rw [h1, pk_sub (by omega)]
      exact congrArg nI (by rw [← Nat.add_assoc]; omega)
    · exact ro_ways_other _ f3 f5 f6 s n k j (v + 1) d al ao h hne hk hj (by omega) hOKj hd (ih (v + 1) (by omega))
theorem ro_wo5_other (post : SX → Prop) (f3 f5 f6 : Int32) (s n k num : Nat) (h : ro_VC s n k) (hne : ¬ (s = 4 ∧ k = 0)) (hk : s = 0 ∨ s = 4 → f3 = nI k) (hnum : num < ro_m s n k) (al : Nat → Int32) (hp : ∀ ao : Nat → Int32, (∀ i, i < ro_L s n k → ao i = nI (ro_dg (ro_L s n k) (ro_ob s n k num) i)) → post (nI s, nI n, f3, nI (ro_L s n k), f5, f6, ro_BA, ro_GA, al, ao)) :
    ∀ r j (ao : Nat → Int32), j + r = ro_L s n k → (∀ i, i < j → ao i = nI (ro_dg (ro_L s n k) (ro_ob s n k num) i)) → wX_writeObject__other_5 post (nI s) (nI n) f3 (nI (ro_L s n k)) f5 f6 (r + 1) (nI (num - ro_rk s n k (ro_L s n k - j) (ro_pk (ro_dg (ro_L s n k) (ro_ob s n k num)) j))) (nI j) ro_BA ro_GA al ao := by
  have h14 := ro_L14 h
  intro r
  induction r with
  | zero =>
    intro j ao hj hd
    exact br_t (nI_le (by omega) (by omega)) (hp ao (fun i hi => hd i (by omega)))
  | succ r ih =>
    intro j ao hj hd
    have hOK := ro_OKob hne hnum
    refine br_f (nI_ge (by omega) (by omega)) ?_
    refine ro_ways_other _ f3 f5 f6 s n k j 0 (ro_dg (ro_L s n k) (ro_ob s n k num)) al ao h hne hk (by omega) (by omega) (fun i hi => hOK i (by omega)) hd ?_
    refine ⟨ro_dg (ro_L s n k) (ro_ob s n k num) j + 1, ?_⟩
    have e1 : ro_L s n k - j = (ro_L s n k - j - 1) + 1 := by omega
    rw [e1, ← ro_rkC]
    refine ro_wo28_other post _ f3 f5 f6 s n k j num al ao h hne hk (by omega) hnum hd ?_ _ 0 (Nat.zero_add _)
    have e2 : ro_L s n k - j - 1 = ro_L s n k - (j + 1) := by omega
    rw [e2]
    refine ih (j + 1) _ (by omega) (fun i hi => ?_)
    rcases Nat.lt_or_ge i j with c | c
    · rw [pk_un (by omega)]; exact hd i c
    · have : i = j := by omega
      subst this; exact pk_us
theorem ro_wo_other (post : SX → Prop) (f3 f5 f6 : Int32) (s n k num : Nat) (al ao : Nat → Int32) (h : ro_VC s n k) (hk : s = 0 ∨ s = 4 → f3 = nI k) (hnum : num < ro_m s n k ∨ ro_L s n k = 0) (hp : ∀ ao : Nat → Int32, (∀ i, i < ro_L s n k → ao i = nI (ro_dg (ro_L s n k) (ro_ob s n k num) i)) → post (nI s, nI n, f3, nI (ro_L s n k), f5, f6, ro_BA, ro_GA, al, ao)) : wpX_writeObject__other post (nI s, nI n, f3, nI (ro_L s n k), f5, f6, ro_BA, ro_GA, al, ao) (nI num) := by
  rcases Nat.eq_zero_or_pos (ro_L s n k) with hz | hz
  · refine ⟨1, br_t ?_ (hp ao (fun i hi => by omega))⟩
    rw [hz]; decide
  · have hne : ¬ (s = 4 ∧ k = 0) := by
      rintro ⟨rfl, rfl⟩
      exact absurd (show (0 : Nat) < 0 from hz) (Nat.lt_irrefl 0)
    refine ⟨ro_L s n k + 1, ?_⟩
    have := ro_wo5_other post f3 f5 f6 s n k num h hne hk (by omega) al hp (ro_L s n k) 0 ao (by omega) (fun i hi => by omega)
    have e : num - ro_rk s n k (ro_L s n k - 0) (ro_pk (ro_dg (ro_L s n k) (ro_ob s n k num)) 0) = num := by
      show num - ro_rk s n k (ro_L s n k - 0) 0 = num
      rw [ro_rk0]; rfl
    rw [e] at this
    exact this
theorem ro_fw14_other (post : Int32 → Prop) (J : Int32 → Int32 → Prop) (x2 f3 f5 f6 : Int32) (s n k j : Nat) (d : Nat → Nat) (al ao : Nat → Int32) (h : ro_VC s n k) (hne : ¬ (s = 4 ∧ k = 0)) (hk : s = 0 ∨ s = 4 → f3 = nI k) (hj : j < ro_L s n k) (ho : ro_OK s n k d (j + 1)) (hd : ∀ i, i < j + 1 → ao i = nI (d i))
    (hJ : J (nI (ro_rk s n k (ro_L s n k - j - 1) (8 * ro_pk d j + d j))) (nI (j + 1))) :
    ∀ r v, v + r = d j → wX_firstWith__other_14 post J x2 (nI j) (nI s) (nI n) f3 (nI (ro_L s n k)) f5 f6 ro_BA ro_GA al ao (r + 1) (nI (ro_rk s n k (ro_L s n k - j - 1) (8 * ro_pk d j + v))) (nI v) := by
  have h14 := ro_L14 h
  have hin : vp_in (nI j) 14 := vp_in_nI (by omega) (by decide)
  have ec : (nI j).toNatClampNeg = j := nI_clamp (by omega)
  have h8 := (ho j (by omega)).1
  have ed : ao (nI j).toNatClampNeg = nI (d j) := by rw [ec]; exact hd j (by omega)
  intro r
  induction r with
  | zero =>
    intro v hv
    have e : v = d j := by omega
    subst e
    refine ⟨hin, br_t ?_ (nm_r (nI_1 j) hJ)⟩
    rw [ed]; exact nI_le (Nat.le_refl _) (by omega)
  | succ r ih =>
    intro v hv
    refine ⟨hin, br_f ?_ ?_⟩
    · rw [ed]; exact nI_ge (by omega) (by omega)
    · refine ro_ways_other _ f3 f5 f6 s n k j v d al ao h hne hk hj (by omega) (fun i hi => ho i (by omega)) (fun i hi => hd i (by omega)) ?_
      refine nm_r (e' := nI (ro_rk s n k (ro_L s n k - j - 1) (8 * ro_pk d j + (v + 1)))) ?_ (nm_r (nI_1 v) (ih (v + 1) (by omega)))
      rw [nI_add, ← Nat.add_assoc, ro_rkB, ro_wyN hne hj (fun i hi => ho i (by omega)) (by omega)]
theorem ro_fw5_other (post : Int32 → Prop) (f3 f5 f6 : Int32) (s n k p : Nat) (d : Nat → Nat) (al ao : Nat → Int32) (h : ro_VC s n k) (hne : ¬ (s = 4 ∧ k = 0)) (hk : s = 0 ∨ s = 4 → f3 = nI k) (hpL : p < ro_L s n k) (ho : ro_OK s n k d (p + 1)) (hd : ∀ i, i < p + 1 → ao i = nI (d i)) (hp : post (nI (ro_rk s n k (ro_L s n k - (p + 1)) (ro_pk d (p + 1))))) :
    ∀ r j, j + r = p + 1 → wX_firstWith__other_5 post (nI p) (nI s) (nI n) f3 (nI (ro_L s n k)) f5 f6 ro_BA ro_GA al ao (r + 1) (nI (ro_rk s n k (ro_L s n k - j) (ro_pk d j))) (nI j) := by
  have h14 := ro_L14 h
  intro r
  induction r with
  | zero =>
    intro j hj
    have e : j = p + 1 := by omega
    subst e
    exact br_t (nI_lt (by omega) (by omega)) hp
  | succ r ih =>
    intro j hj
    refine br_f (nI_nlt (by omega) (by omega)) ⟨d j + 1, ?_⟩
    have e1 : ro_L s n k - j = (ro_L s n k - j - 1) + 1 := by omega
    rw [e1, ← ro_rkC]
    refine ro_fw14_other post _ (nI p) f3 f5 f6 s n k j d al ao h hne hk (by omega) (fun i hi => ho i (by omega)) (fun i hi => hd i (by omega)) ?_ _ 0 (Nat.zero_add _)
    have e2 : ro_L s n k - j - 1 = ro_L s n k - (j + 1) := by omega
    rw [e2]
    exact ih (j + 1) (by omega)
theorem ro_fw_other (post : Int32 → Prop) (f3 f5 f6 : Int32) (s n k p : Nat) (d : Nat → Nat) (al ao : Nat → Int32) (h : ro_VC s n k) (hne : ¬ (s = 4 ∧ k = 0)) (hk : s = 0 ∨ s = 4 → f3 = nI k) (hpL : p < ro_L s n k) (ho : ro_OK s n k d (p + 1)) (hd : ∀ i, i < p + 1 → ao i = nI (d i)) (hp : post (nI (ro_rk s n k (ro_L s n k - (p + 1)) (ro_pk d (p + 1))))) : wpX_firstWith__other post (nI s, nI n, f3, nI (ro_L s n k), f5, f6, ro_BA, ro_GA, al, ao) (nI p) := by
  refine ⟨p + 1 + 1, ?_⟩
  have := ro_fw5_other post f3 f5 f6 s n k p d al ao h hne hk hpL ho hd hp (p + 1) 0 (by omega)
  rw [show ro_pk d 0 = 0 from rfl, ro_rk0] at this
  exact this
end
section
def ro_PB (N j : Nat) : Int32 := if j < N then ro_TB j else 0
def ro_PG (N j : Nat) : Int32 := if j < N then ro_TG j else 0
theorem ro_PB0 : ro_PB 0 = fun _ => 0 := funext fun j => if_neg (Nat.not_lt_zero j)
theorem ro_PG0 : ro_PG 0 = fun _ => 0 := funext fun j => if_neg (Nat.not_lt_zero j)
theorem ro_PBu (N : Nat) : upd (ro_PB N) N (ro_TB N) = ro_PB (N + 1) := by
  funext j
  unfold upd ro_PB
  rcases Nat.lt_trichotomy j N with c | c | c
  · rw [if_neg (by omega), if_pos c, if_pos (by omega)]
  · rw [if_pos c, if_pos (by omega), c]
  · rw [if_neg (by omega), if_neg (by omega), if_neg (by omega)]
theorem ro_PGu (N : Nat) : upd (ro_PG N) N (ro_TG N) = ro_PG (N + 1) := by
  funext j
  unfold upd ro_PG
  rcases Nat.lt_trichotomy j N with c | c | c
  · rw [if_neg (by omega), if_pos c, if_pos (by omega)]
  · rw [if_pos c, if_pos (by omega), c]
  · rw [if_neg (by omega), if_neg (by omega), if_neg (by omega)]
theorem ro_tb1 : ∀ i, i < 16 → ro_TB (16 * i) = 1 := by decide +kernel
theorem ro_tb2 : ∀ i, i < 16 → ∀ c, c < 16 → i < c → ro_TB (16 * i + c) = 0 := by decide +kernel
theorem ro_tb3 : ∀ i, i < 16 → ∀ c, c < 16 → 1 ≤ c → c ≤ i → ro_TB (16 * i - 16 + c - 1) + ro_TB (16 * i - 16 + c) = ro_TB (16 * i + c) := by decide +kernel
theorem ro_tg1 : ∀ i, i < 8 → ro_TG i = 1 := by decide +kernel
theorem ro_tg2 : ∀ i, i < 8 → ∀ c, c < 8 → 8 - i ≤ c → ro_TG (8 * i + c) = 0 := by decide +kernel
theorem ro_tg3 : ∀ i, i < 8 → ∀ c, c < 8 → 1 ≤ i → c < 8 - i → nI (c + 1) * ro_TG ((i - 1) * 8 + c) + ro_TG ((i - 1) * 8 + c + 1) = ro_TG (8 * i + c) := by decide +kernel
theorem ro_PBr {i : Nat} (h : i < 16) : ro_PB (16 * i + (i + 1)) = ro_PB (16 * (i + 1)) := by
  funext j
  unfold ro_PB
  by_cases c1 : j < 16 * i + (i + 1)
  · rw [if_pos c1, if_pos (by omega)]
  · rw [if_neg c1]
    by_cases c2 : j < 16 * (i + 1)
    · rw [if_pos c2]
      have e : j = 16 * i + (j - 16 * i) := by omega
      rw [e, ro_tb2 i h (j - 16 * i) (by omega) (by omega)]
    · rw [if_neg c2]
theorem ro_PGr {i : Nat} (h : i < 8) : ro_PG (8 * i + (8 - i)) = ro_PG (8 * (i + 1)) := by
  funext j
  unfold ro_PG
  by_cases c1 : j < 8 * i + (8 - i)
  · rw [if_pos c1, if_pos (by omega)]
  · rw [if_neg c1]
    by_cases c2 : j < 8 * (i + 1)
    · rw [if_pos c2]
      have e : j = 8 * i + (j - 8 * i) := by omega
      rw [e, ro_tg2 i h (j - 8 * i) (by omega) (by omega)]
    · rw [if_neg c2]
theorem ro_fb22 (post : SX → Prop) (J : Int32 → (Nat → Int32) → (Nat → Int32) → (Nat → Int32) → (Nat → Int32) → Prop) (f1 f2 f3 f4 f5 f6 : Int32) (aG al ao : Nat → Int32) (i : Nat) (hi : i < 16) (hJ : J (nI (i + 1)) (ro_PB (16 * (i + 1))) aG al ao) :
    ∀ r c, 1 ≤ c → c + r = i + 1 → wX_fillBinomials_22 post J (nI i) (nI (i * 16)) f1 f2 f3 f4 f5 f6 (r + 1) (nI c) (ro_PB (16 * i + c)) aG al ao := by
  intro r
  induction r with
  | zero =>
    intro c h1 hc
    have e : c = i + 1 := by omega
    subst e
    refine br_t (nI_lt (by omega) (by omega)) (nm_r (nI_1 i) ?_)
    rw [ro_PBr hi]; exact hJ
  | succ r ih =>
    intro c h1 hc
    have e1 : (nI (i * 16) - 16) + nI c = nI (16 * i - 16 + c) := by
      rw [show (16 : Int32) = nI 16 from rfl, pk_sub (by omega), nI_add]
      exact congrArg nI (by omega)
    have e2 : nI (16 * i - 16 + c) - 1 = nI (16 * i - 16 + c - 1) := by
      obtain ⟨m, hm⟩ : ∃ m, 16 * i - 16 + c = m + 1 := ⟨16 * i - 16 + c - 1, by omega⟩
      rw [hm, nI_pred]; rfl
    have e3 : nI (i * 16) + nI c = nI (16 * i + c) := by
      rw [nI_add]; exact congrArg nI (by omega)
    refine br_f (nI_nlt (by omega) (by omega)) (nm_r e1 ?_)
    rw [e2, e3]
    refine ⟨vp_in_nI (by omega) (by decide), vp_in_nI (by omega) (by decide), vp_in_nI (by omega) (by decide), nm_r (e' := ro_PB (16 * i + (c + 1))) ?_ (nm_r (nI_1 c) (ih (c + 1) (by omega) (by omega)))⟩
    rw [nI_clamp (by omega), nI_clamp (by omega), nI_clamp (by omega)]
    have p1 : ro_PB (16 * i + c) (16 * i - 16 + c - 1) = ro_TB (16 * i - 16 + c - 1) := if_pos (by omega)
    have p2 : ro_PB (16 * i + c) (16 * i - 16 + c) = ro_TB (16 * i - 16 + c) := if_pos (by omega)
    rw [p1, p2, ro_tb3 i hi c (by omega) h1 (by omega), ro_PBu]; rfl
theorem ro_fb2 (post : SX → Prop) (f1 f2 f3 f4 f5 f6 : Int32) (aG al ao : Nat → Int32) (hp : post (f1, f2, f3, f4, f5, f6, ro_BA, aG, al, ao)) :
    ∀ r i, i + r = 16 → wX_fillBinomials_2 post f1 f2 f3 f4 f5 f6 (r + 1) (nI i) (ro_PB (16 * i)) aG al ao := by
  intro r
  induction r with
  | zero =>
    intro i hi
    have e : i = 16 := by omega
    subst e
    exact br_t (by decide : 16 ≤ nI 16) hp
  | succ r ih =>
    intro i hi
    have e1 : nI i * 16 = nI (i * 16) := by rw [← pk_mul]; rfl
    refine br_f (nI_ge (a := i) (b := 16) (by omega) (by decide)) (nm_r e1 ⟨vp_in_nI (by omega) (by decide), nm_r (e' := ro_PB (16 * i + 1)) ?_ ⟨i + 1, ?_⟩⟩)
    · rw [nI_clamp (by omega), Nat.mul_comm i 16, ← ro_tb1 i (by omega), ro_PBu]
    · exact ro_fb22 post _ f1 f2 f3 f4 f5 f6 aG al ao i (by omega) (ih (i + 1) (by omega)) i 1 (by omega) (by omega)
theorem ro_fg31 (post : SX → Prop) (J : Int32 → (Nat → Int32) → (Nat → Int32) → (Nat → Int32) → (Nat → Int32) → Prop) (f1 f2 f3 f4 f5 f6 : Int32) (aB al ao : Nat → Int32) (i : Nat) (hi : i < 8) (h1 : 1 ≤ i) (hJ : J (nI (i + 1)) aB (ro_PG (8 * (i + 1))) al ao) :
    ∀ r c, c + r = 8 - i → wX_fillGroupings_31 post J (nI i) f1 f2 f3 f4 f5 f6 (r + 1) (nI c) aB (ro_PG (8 * i + c)) al ao := by
  have e8 : (8 : Int32) - nI i = nI (8 - i) := pk_sub (a := 8) (b := i) (by omega)
  intro r
  induction r with
  | zero =>
    intro c hc
    have e : c = 8 - i := by omega
    subst e
    refine br_t ?_ (nm_r (nI_1 i) ?_)
    · rw [e8]; exact nI_le (Nat.le_refl _) (by omega)
    · rw [ro_PGr hi]; exact hJ
  | succ r ih =>
    intro c hc
    have e1 : ((nI i - 1) * 8) + nI c = nI ((i - 1) * 8 + c) := by
      rw [show (1 : Int32) = nI 1 from rfl, pk_sub h1, show (8 : Int32) = nI 8 from rfl, pk_mul, nI_add]
    have e2 : (nI i * 8) + nI c = nI (8 * i + c) := by
      rw [show (8 : Int32) = nI 8 from rfl, pk_mul, nI_add, Nat.mul_comm]
    have p1 : ro_PG (8 * i + c) ((i - 1) * 8 + c) = ro_TG ((i - 1) * 8 + c) := if_pos (by omega)
    have p2 : ro_PG (8 * i + c) ((i - 1) * 8 + c + 1) = ro_TG ((i - 1) * 8 + c + 1) := if_pos (by omega)
    refine br_f ?_ (nm_r e1 ⟨vp_in_nI (by omega) (by decide), nm_e ?_⟩)
    · rw [e8]; exact nI_ge (by omega) (by omega)
    rw [e2, nI_1 ((i - 1) * 8 + c)]
    refine ⟨vp_in_nI (by omega) (by decide), vp_in_nI (by omega) (by decide), nm_r (e' := ro_PG (8 * i + (c + 1))) ?_ (nm_r (nI_1 c) (ih (c + 1) (by omega)))⟩
    rw [nI_clamp (by omega), nI_clamp (by omega), nI_clamp (by omega), p1, p2, nI_1 c, ro_tg3 i hi c (by omega) h1 (by omega), ro_PGu]; rfl
theorem ro_fg23 (post : SX → Prop) (f1 f2 f3 f4 f5 f6 : Int32) (aB al ao : Nat → Int32) (hp : post (f1, f2, f3, f4, f5, f6, aB, ro_GA, al, ao)) :
    ∀ r i, 1 ≤ i → i + r = 8 → wX_fillGroupings_23 post f1 f2 f3 f4 f5 f6 (r + 1) (nI i) aB (ro_PG (8 * i)) al ao := by
  intro r
  induction r with
  | zero =>
    intro i h1 hi
    have e : i = 8 := by omega
    subst e
    exact br_t (by decide : 8 ≤ nI 8) hp
  | succ r ih =>
    intro i h1 hi
    exact br_f (nI_ge (a := i) (b := 8) (by omega) (by decide)) ⟨8 - i + 1, ro_fg31 post _ f1 f2 f3 f4 f5 f6 aB al ao i (by omega) h1 (ih (i + 1) (by omega) (by omega)) (8 - i) 0 (by omega)⟩
theorem ro_fg2 (post : SX → Prop) (f1 f2 f3 f4 f5 f6 : Int32) (aB al ao : Nat → Int32) (hp : post (f1, f2, f3, f4, f5, f6, aB, ro_GA, al, ao)) :
    ∀ r i, i + r = 8 → wX_fillGroupings_2 post f1 f2 f3 f4 f5 f6 (r + 1) (nI i) aB (ro_PG i) al ao := by
  intro r
  induction r with
  | zero =>
    intro i hi
    have e : i = 8 := by omega
    subst e
    exact br_t (by decide : 8 ≤ nI 8) ⟨8, ro_fg23 post f1 f2 f3 f4 f5 f6 aB al ao hp 7 1 (by omega) (by omega)⟩
  | succ r ih =>
    intro i hi
    refine br_f (nI_ge (a := i) (b := 8) (by omega) (by decide)) ⟨vp_in_nI (by omega) (by decide), nm_r (e' := ro_PG (i + 1)) ?_ (nm_r (nI_1 i) (ih (i + 1) (by omega)))⟩
    rw [nI_clamp (by omega), ← ro_tg1 i (by omega), ro_PGu]
/-! count and start -/
def ro_cfp (s n k : Nat) : Bool := Nat.ble 1 (ro_cf s n k 0 0)
theorem ro_p0 : ro_al 7 (fun n => ro_al (n + 2) (fun k => ro_cfp 0 (n + 1) k)) = true := by decide +kernel
theorem ro_p1 : ro_al 7 (fun n => ro_cfp 1 (n + 1) 0 && (ro_cfp 2 (n + 1) 0 && ro_cfp 3 (n + 1) 0)) = true := by decide +kernel
theorem ro_p4 : ro_al 7 (fun n => ro_al (n + 1) (fun k => ro_cfp 4 (n + 1) (k + 1))) = true := by decide +kernel
theorem ro_cf1 {s n k : Nat} (h : ro_VC s n k) (hne : ¬ (s = 4 ∧ k = 0)) : 1 ≤ ro_cf s n k 0 0 := by
  refine Nat.le_of_ble_eq_true (show ro_cfp s n k = true from ?_)
  obtain ⟨h1, h7, h⟩ := h
  obtain ⟨n, rfl⟩ : ∃ p, n = p + 1 := ⟨n - 1, by omega⟩
  have hn : n < 7 := by omega
  have t := ro_alE _ ro_p1 n hn
  rw [Bool.and_eq_true, Bool.and_eq_true] at t
  rcases h with ⟨rfl, hk⟩ | ⟨rfl, hk⟩ | ⟨rfl | rfl | rfl, rfl⟩
  · exact ro_alE _ (ro_alE _ ro_p0 n hn) k (by omega)
  · obtain ⟨k, rfl⟩ : ∃ p, k = p + 1 := ⟨k - 1, by omega⟩
    exact ro_alE _ (ro_alE _ ro_p4 n hn) k (by omega)
  · exact t.1
  · exact t.2.1
  · exact t.2.2
theorem ro_mpos {s n k : Nat} (h : ro_VC s n k) (hne : ¬ (s = 4 ∧ k = 0)) : 0 < ro_m s n k := by
  have h1 := ro_N hne (ro_L s n k) 0 0 (Nat.zero_add _)
  have h2 := ro_cntcf h hne (ro_L s n k) 0 0 (Nat.zero_add _) (ro_RR0 h hne)
  have h3 := ro_cf1 h hne
  have h4 : cond (ro_M s n k 0 0) (ro_cnt s n k (ro_L s n k) 0 (ro_stc s 0 0)) 0 = ro_cnt s n k (ro_L s n k) 0 0 := rfl
  rw [h4, h2] at h1
  have h5 : ro_ct (fun i => decide (ro_ob s n k i / 8 ^ ro_L s n k = 0)) (ro_m s n k) ≤ ro_m s n k := ro_ctle _
  omega
theorem ro_m0 {s n k : Nat} (h : s = 4 ∧ k = 0) : ro_m s n k = 0 := by
  unfold ro_m ro_obs; rw [if_pos h]; rfl
theorem ro_mL {s n k : Nat} (h : ro_VC s n k) : 0 < ro_m s n k ∨ ro_L s n k = 0 := by
  by_cases hne : s = 4 ∧ k = 0
  · obtain ⟨rfl, rfl⟩ := hne; exact Or.inr rfl
  · exact Or.inl (ro_mpos h hne)
theorem ro_top {s n k : Nat} (h : ro_VC s n k) (hne : ¬ (s = 4 ∧ k = 0)) (hL : 0 < ro_L s n k) : ro_rk s n k (ro_L s n k - 1) (n + 1) = ro_m s n k := by
  refine ro_ct1 _ (fun i hi => decide_eq_true ?_)
  have hOK := ro_OKob hne hi
  have hx := ro_Mlt _ _ _ _ _ (ro_obM hne hi)
  have h0 := (ro_st1T h hne hL (ro_RR0 h hne)).2.2.2 _ (hOK 0 hL).1 (hOK 0 hL).2
  have hp : 8 * 0 + ro_dg (ro_L s n k) (ro_ob s n k i) 0 = ro_ob s n k i / 8 ^ (ro_L s n k - 1) := ro_pkdg hx 1 hL
  omega
theorem ro_len (post : Int32 → Prop) (f3 f4 f5 f6 : Int32) (s n k : Nat) (aB aG al ao : Nat → Int32) (h : ro_VC s n k) (hk : s = 0 ∨ s = 4 → f3 = nI k) (hp : post (nI (ro_L s n k))) : wpX_listLength post (nI s, nI n, f3, f4, f5, f6, aB, aG, al, ao) := by
  obtain ⟨h1, h7, hs⟩ := h
  rcases hs with ⟨rfl, hkn⟩ | ⟨rfl, hkn⟩ | ⟨rfl | rfl | rfl, rfl⟩
  · have e3 := hk (Or.inl rfl)
    subst e3
    exact br_f (by decide : ¬ nI 0 < 0) (br_f (by decide : ¬ 4 < nI 0) (br_t (by decide : nI 0 = 0) hp))
  · have e3 := hk (Or.inr rfl)
    subst e3
    exact br_f (by decide : ¬ nI 4 < 0) (br_f (by decide : ¬ 4 < nI 4) (br_f (by decide : ¬ nI 4 = 0) (br_f (by decide : ¬ nI 4 = 1) (br_f (by decide : ¬ nI 4 = 2) (br_f (by decide : ¬ nI 4 = 3) (br_t (by decide : nI 4 = 4) hp))))))
  · exact br_f (by decide : ¬ nI 1 < 0) (br_f (by decide : ¬ 4 < nI 1) (br_f (by decide : ¬ nI 1 = 0) (br_t (by decide : nI 1 = 1) hp)))
  · exact br_f (by decide : ¬ nI 2 < 0) (br_f (by decide : ¬ 4 < nI 2) (br_f (by decide : ¬ nI 2 = 0) (br_f (by decide : ¬ nI 2 = 1) (br_t (by decide : nI 2 = 2) hp))))
  · have hp' : post (2 * nI n) := by rw [show (2 : Int32) = nI 2 from rfl, pk_mul]; exact hp
    exact br_f (by decide : ¬ nI 3 < 0) (br_f (by decide : ¬ 4 < nI 3) (br_f (by decide : ¬ nI 3 = 0) (br_f (by decide : ¬ nI 3 = 1) (br_f (by decide : ¬ nI 3 = 2) (br_t (by decide : nI 3 = 3) hp')))))
theorem ro_cnO (post : Int32 → Prop) (f3 f5 f6 : Int32) (s n k : Nat) (al ao : Nat → Int32) (h : ro_VC s n k) (hk : s = 0 ∨ s = 4 → f3 = nI k) (hp : post (nI (ro_m s n k))) : wpX_countObjects post (nI s, nI n, f3, nI (ro_L s n k), f5, f6, ro_BA, ro_GA, al, ao) := by
  have h7 := h.2.1
  have h1 := h.1
  have h14 := ro_L14 h
  rcases Nat.eq_zero_or_pos (ro_L s n k) with hz | hz
  · have hz' : nI (ro_L s n k) = 0 := by rw [hz]; rfl
    refine br_t hz' ?_
    obtain ⟨_, _, hs⟩ := h
    rcases hs with ⟨rfl, hkn⟩ | ⟨rfl, hkn⟩ | ⟨rfl | rfl | rfl, rfl⟩
    · have e : k = 0 := hz
      subst e
      exact br_t (by decide : nI 0 = 0) hp
    · have e : k = 0 := hz
      subst e
      rw [ro_m0 ⟨rfl, rfl⟩] at hp
      exact br_f (by decide : ¬ nI 4 = 0) hp
    · have e : n = 0 := hz
      omega
    · have e : n = 0 := hz
      omega
    · have e : 2 * n = 0 := hz
      omega
  · have hne : ¬ (s = 4 ∧ k = 0) := by
      rintro ⟨rfl, rfl⟩
      exact absurd (show (0 : Nat) < 0 from hz) (Nat.lt_irrefl 0)
    have key : ∀ r v, v + r = n + 1 → wX_countObjects_24 post (nI s) (nI n) f3 (nI (ro_L s n k)) f5 f6 ro_BA ro_GA al ao (r + 1) (nI (ro_rk s n k (ro_L s n k - 1) v)) (nI v) := by
      intro r
      induction r with
      | zero =>
        intro v hv
        have e : v = n + 1 := by omega
        subst e
        rw [ro_top h hne hz]
        exact br_t (nI_lt (by omega) (by omega)) hp
      | succ r ih =>
        intro v hv
        refine br_f (nI_nlt (by omega) (by omega)) ?_
        refine ro_ways_list _ f3 f5 f6 s n k 0 v (fun _ => 0) al ao h hne hk hz (by omega) (fun i hi => by omega) (fun i hi => by omega) ?_
        refine nm_r (e' := nI (ro_rk s n k (ro_L s n k - 1) (v + 1))) ?_ (nm_r (nI_1 v) (ih (v + 1) (by omega)))
        have e2 : 8 * ro_pk (fun _ => 0) 0 + v = v := by show 8 * 0 + v = v; omega
        rw [nI_add, ro_rkB, ro_wyN hne hz (fun i hi => by omega) (by omega), e2]; rfl
    refine br_f (nI_ne0 hz (by omega)) ⟨n + 1 + 1, ?_⟩
    have := key (n + 1) 0 (by omega)
    rw [ro_rk0] at this
    exact this
theorem ro_start (post : SX → Prop) (f1 f2 f3' f4 f5 f6 f3 : Int32) (s n k : Nat) (al ao : Nat → Int32) (h : ro_VC s n k) (hk : s = 0 ∨ s = 4 → f3 = nI k) (hp : ∀ al : Nat → Int32, (∀ i, i < ro_L s n k → al i = nI (ro_dg (ro_L s n k) (ro_ob s n k 0) i)) → post (nI s, nI n, f3, nI (ro_L s n k), nI (ro_m s n k), nI 0, ro_BA, ro_GA, al, ao)) : wpX_start post (f1, f2, f3', f4, f5, f6, ro_BA, ro_GA, al, ao) (nI s) (nI n) f3 := by
  unfold wpX_start
  refine ro_len _ f3 f4 f5 f6 s n k ro_BA ro_GA al ao h hk ?_
  refine ro_cnO _ f3 f5 f6 s n k al ao h hk ?_
  exact ro_wo_list _ f3 (nI (ro_m s n k)) (nI 0) s n k 0 al ao h hk (ro_mL h) hp
end
section
theorem ro_b0 {j x : Nat} : ro_stc 0 j x ≤ 8 := by
  cases j with
  | zero => exact Nat.zero_le _
  | succ j => show x % 8 + 1 ≤ 8; omega
theorem ro_b2 : ∀ j x, ro_stc 2 j x ≤ 8 := by
  intro j
  induction j with
  | zero => intro x; exact Nat.zero_le _
  | succ j ih =>
    intro x
    have := ih (x / 8)
    show max (ro_stc 2 j (x / 8)) (x % 8 + 1) ≤ 8
    omega
theorem ro_b3 : ∀ j x, ro_stc 3 j x ≤ 7 * j := by
  intro j
  induction j with
  | zero => intro x; exact Nat.zero_le _
  | succ j ih =>
    intro x
    have := ih (x / 8)
    show ro_stc 3 j (x / 8) + x % 8 ≤ 7 * (j + 1)
    omega
theorem ro_b43 : ∀ j x, ro_stc 4 j x = ro_stc 3 j x := by
  intro j
  induction j with
  | zero => intro x; rfl
  | succ j ih =>
    intro x
    show ro_stc 4 j (x / 8) + x % 8 = ro_stc 3 j (x / 8) + x % 8
    rw [ih]
theorem ro_lN8 (y : Nat) (hy : y < 2 ^ 63) : (lN y &&& 7).toInt32 = nI (y % 8) := by
  have h := wb_mask (n := y) (k := 3) (by omega) (by decide)
  rw [show (7 : Int64) = lN (2 ^ 3 - 1) from rfl, h, lN_i]
theorem ro_lNs (y : Nat) (hy : y < 2 ^ 63) : ((lN y).toUInt64 >>> ((3 : Int32).toInt64.toUInt64 &&& Int64.toUInt64 63)).toInt64 = lN (y / 8) :=
  wb_shr (n := y) (k := 3) (by omega) (by decide)
def ro_bi (b : Bool) : Int32 := cond b 1 0
theorem ro_g43 (post : Int32 → Prop) (J : Int32 → Int32 → Int32 → Int32 → Int64 → Int32 → Prop) (x3 x7 f1 f2 f3 f4 f5 : Int32) (yl yo : Nat → Int64) (v G S w y i : Nat) (H : Bool) (hv : v < 8) (hw : w < 8) (hG : G ≤ 8) (hy : y < 2 ^ 63)
    (hJ : J (nI (max G (w + 1)) - 1) (nI (S + w)) x7 (ro_bi (H || decide (w = v))) (lN (y / 8)) (nI (i + 1))) :
    wY_goesOn_43 post J x3 (nI v) (nI G - 1) (nI S) x7 (ro_bi H) (lN y) (nI i) (nI w) f1 f2 f3 f4 f5 yl yo := by
  have h64 : ∀ x5 x8, x5 = nI (max G (w + 1)) - 1 → x8 = ro_bi (H || decide (w = v)) → wY_goesOn_64 post J x3 (nI v) x5 (nI S) x7 x8 (lN y) (nI i) (nI w) f1 f2 f3 f4 f5 yl yo := by
    rintro x5 x8 rfl rfl
    exact nm_r (nI_add S w) (nm_r (ro_lNs y hy) (nm_r (nI_1 i) hJ))
  have h54 : ∀ x5, x5 = nI (max G (w + 1)) - 1 → wY_goesOn_54 post J x3 (nI v) x5 (nI S) x7 (ro_bi H) (lN y) (nI i) (nI w) f1 f2 f3 f4 f5 yl yo := by
    intro x5 h5
    by_cases c : w = v
    · refine br_t (by rw [c]) (h64 x5 1 h5 ?_)
      rw [decide_eq_true c, Bool.or_true]; rfl
    · refine br_f (by rw [nI_eq (by omega) (by omega)]; exact c) (h64 x5 _ h5 ?_)
      rw [decide_eq_false c, Bool.or_false]
  by_cases c : w + 1 ≤ G
  · exact br_t ((ro_lem1 (by omega) (by omega)).mpr c) (h54 _ (by rw [Nat.max_eq_left c]))
  · exact br_f (fun z => c ((ro_lem1 (by omega) (by omega)).mp z)) (h54 _ (by rw [Nat.max_eq_right (by omega), nI_pred]))
theorem ro_tbor (q w v : Nat) (H : Bool) : (H || (q ||| 2 ^ w).testBit v) = ((H || decide (w = v)) || q.testBit v) := by
  rw [Nat.testBit_or, Nat.testBit_two_pow]
  cases H <;> cases q.testBit v <;> simp
theorem ro_g19 (post : Int32 → Prop) (x7 f1 f2 f3 f4 f5 : Int32) (yl yo : Nat → Int64) (v j : Nat) (hv : v < 8) (hj : j ≤ 14) :
    ∀ r i y G S H, i + r = j → 1 ≤ i → y < 2 ^ 63 → G ≤ 8 →
      (∀ z, wY_goesOn_19 post (nI j) (nI v) f1 f2 f3 f4 f5 yl yo (0 + 1) (nI (max G (ro_stc 2 r y)) - 1) (nI (S + ro_stc 3 r y)) x7 (ro_bi (H || (ro_stc 1 r y).testBit v)) z (nI j)) →
      wY_goesOn_19 post (nI j) (nI v) f1 f2 f3 f4 f5 yl yo (r + 1) (nI G - 1) (nI S) x7 (ro_bi H) (lN y) (nI i) := by
  intro r
  induction r with
  | zero =>
    intro i y G S H hi h1 hy hG hx
    have e : i = j := by omega
    subst e
    have := hx (lN y)
    rw [show ro_stc 2 0 y = 0 from rfl, show ro_stc 3 0 y = 0 from rfl, show ro_stc 1 0 y = 0 from rfl, Nat.zero_testBit, Bool.or_false, Nat.max_eq_left (Nat.zero_le _)] at this
    exact this
  | succ r ih =>
    intro i y G S H hi h1 hy hG hx
    refine br_f (nI_ge (by omega) (by omega)) (nm_r (ro_lN8 y hy) (br_f (nI_ne0 h1 (by omega)) ?_))
    refine ro_g43 post _ (nI j) x7 f1 f2 f3 f4 f5 yl yo v G S (y % 8) y i H hv (Nat.mod_lt _ (by decide)) hG hy ?_
    refine ih (i + 1) (y / 8) (max G (y % 8 + 1)) (S + y % 8) (H || decide (y % 8 = v)) (by omega) (by omega) (by omega) (by omega) (fun z => ?_)
    have := hx z
    rw [show ro_stc 2 (r + 1) y = max (ro_stc 2 r (y / 8)) (y % 8 + 1) from rfl, show ro_stc 3 (r + 1) y = ro_stc 3 r (y / 8) + y % 8 from rfl, show ro_stc 1 (r + 1) y = (ro_stc 1 r (y / 8) ||| 2 ^ (y % 8)) from rfl, ro_tbor] at this
    rw [show max (max G (y % 8 + 1)) (ro_stc 2 r (y / 8)) = max G (max (ro_stc 2 r (y / 8)) (y % 8 + 1)) by omega, show S + y % 8 + ro_stc 3 r (y / 8) = S + (ro_stc 3 r (y / 8) + y % 8) by omega]
    exact this
theorem ro_gx (post : Int32 → Prop) (f3 f4 f5 : Int32) (s n k j v x : Nat) (yl yo : Nat → Int64) (z : Int64) (h : ro_VC s n k) (hk : s = 0 ∨ s = 4 → f3 = nI k) (hj : j < ro_L s n k) (hv : v < 8) (hp : post (ro_bi (ro_ok s n k j (ro_stc s j x) v))) :
    wY_goesOn_19 post (nI j) (nI v) (nI s) (nI n) f3 f4 f5 yl yo (0 + 1) (nI (ro_stc 2 j x) - 1) (nI (v + ro_stc 3 j x)) (nI (ro_stc 0 j x) - 1) (ro_bi ((ro_stc 1 j x).testBit v)) z (nI j) := by
  have h14 := ro_L14 h
  have b0 := ro_b0 (j := j) (x := x)
  have b2 := ro_b2 j x
  have b3 := ro_b3 j x
  refine br_t (nI_le (Nat.le_refl _) (by omega)) ?_
  obtain ⟨h1, h7, hs⟩ := h
  rcases hs with ⟨rfl, hkn⟩ | ⟨rfl, hkn⟩ | ⟨rfl | rfl | rfl, rfl⟩
  · have hp' : post (ro_bi (decide (v < n) && decide (ro_stc 0 j x ≤ v))) := hp
    refine br_t (by decide : nI 0 = 0) ?_
    by_cases c : v < n
    · rw [decide_eq_true c, Bool.true_and] at hp'
      refine br_f (nI_ge c (by omega)) ?_
      by_cases c2 : ro_stc 0 j x ≤ v
      · rw [decide_eq_true c2] at hp'
        exact br_f (fun z => by have := (ro_lem1 (by omega) (by omega)).mp z; omega) hp'
      · rw [decide_eq_false c2] at hp'
        exact br_t ((ro_lem1 (by omega) (by omega)).mpr (by omega)) hp'
    · rw [decide_eq_false c] at hp'
      exact br_t (nI_le (by omega) (by omega)) hp'
  · have e3 := hk (Or.inr rfl)
    subst e3
    have hjk : j < k := hj
    have hp' : post (ro_bi (decide (ro_stc 4 j x + v ≤ n) && (decide (j + 1 < k) || decide (ro_stc 4 j x + v = n)))) := hp
    rw [ro_b43] at hp'
    refine br_f (by decide : ¬ nI 4 = 0) (br_f (by decide : ¬ nI 4 = 1) (br_f (by decide : ¬ nI 4 = 2) (br_t (by decide : nI 4 = 4) ?_)))
    by_cases c : ro_stc 3 j x + v ≤ n
    · rw [decide_eq_true c, Bool.true_and] at hp'
      refine br_f (nI_nlt (by omega) (by omega)) ?_
      have ek : nI k - 1 = nI (k - 1) := pk_sub (a := k) (b := 1) (by omega)
      by_cases c2 : j + 1 < k
      · rw [decide_eq_true c2, Bool.true_or] at hp'
        exact br_t (by rw [ek]; exact nI_lt (by omega) (by omega)) hp'
      · rw [decide_eq_false c2, Bool.false_or] at hp'
        refine br_f (by rw [ek]; exact nI_nlt (by omega) (by omega)) ?_
        by_cases c3 : ro_stc 3 j x + v = n
        · rw [decide_eq_true c3] at hp'
          exact br_t (by rw [Nat.add_comm, c3]) hp'
        · rw [decide_eq_false c3] at hp'
          exact br_f (by rw [nI_eq (by omega) (by omega)]; omega) hp'
    · rw [decide_eq_false c, Bool.false_and] at hp'
      exact br_t (nI_lt (by omega) (by omega)) hp'
  · have hp' : post (ro_bi (decide (v < n) && !((ro_stc 1 j x).testBit v))) := hp
    refine br_f (by decide : ¬ nI 1 = 0) (br_t (by decide : nI 1 = 1) ?_)
    by_cases c : v < n
    · rw [decide_eq_true c, Bool.true_and] at hp'
      refine br_f (nI_ge c (by omega)) ?_
      cases hb : (ro_stc 1 j x).testBit v
      · rw [hb] at hp'
        exact br_t (by decide : ro_bi false = 0) hp'
      · rw [hb] at hp'
        exact br_f (by decide : ¬ ro_bi true = 0) hp'
    · rw [decide_eq_false c, Bool.false_and] at hp'
      exact br_t (nI_le (by omega) (by omega)) hp'
  · have hp' : post (ro_bi (decide (v ≤ ro_stc 2 j x))) := hp
    refine br_f (by decide : ¬ nI 2 = 0) (br_f (by decide : ¬ nI 2 = 1) (br_t (by decide : nI 2 = 2) ?_))
    rw [Int32.sub_add_cancel]
    by_cases c : v ≤ ro_stc 2 j x
    · rw [decide_eq_true c] at hp'
      exact br_f (nI_nlt c (by omega)) hp'
    · rw [decide_eq_false c] at hp'
      exact br_t (nI_lt (by omega) (by omega)) hp'
  · have hp' : post (ro_bi (decide (v ≤ 1) && (decide (ro_stc 3 j x + v ≤ n) && decide (j + 1 ≤ 2 * (ro_stc 3 j x + v))))) := hp
    refine br_f (by decide : ¬ nI 3 = 0) (br_f (by decide : ¬ nI 3 = 1) (br_f (by decide : ¬ nI 3 = 2) (br_f (by decide : ¬ nI 3 = 4) ?_)))
    by_cases c : v ≤ 1
    · rw [decide_eq_true c, Bool.true_and] at hp'
      refine br_f (nI_nlt (a := 1) (b := v) c (by omega)) ?_
      by_cases c2 : ro_stc 3 j x + v ≤ n
      · rw [decide_eq_true c2, Bool.true_and] at hp'
        refine br_f (nI_nlt (by omega) (by omega)) ?_
        have e2 : 2 * nI (v + ro_stc 3 j x) = nI (2 * (v + ro_stc 3 j x)) := pk_mul 2 _
        rw [e2, nI_1 j]
        by_cases c3 : j + 1 ≤ 2 * (ro_stc 3 j x + v)
        · rw [decide_eq_true c3] at hp'
          exact br_f (nI_nlt (by omega) (by omega)) hp'
        · rw [decide_eq_false c3] at hp'
          exact br_t (nI_lt (by omega) (by omega)) hp'
      · rw [decide_eq_false c2, Bool.false_and] at hp'
        exact br_t (nI_lt (by omega) (by omega)) hp'
    · rw [decide_eq_false c, Bool.false_and] at hp'
      exact br_t (nI_lt (a := 1) (b := v) (by omega) (by omega)) hp'
theorem ro_goes (post : Int32 → Prop) (f3 f4 f5 : Int32) (s n k j v x : Nat) (yl yo : Nat → Int64) (h : ro_VC s n k) (hk : s = 0 ∨ s = 4 → f3 = nI k) (hj : j < ro_L s n k) (hv : v < 8) (hx : x < 2 ^ 63) (hp : post (ro_bi (ro_ok s n k j (ro_stc s j x) v))) :
    wpY_goesOn post (nI s, nI n, f3, f4, f5, yl, yo) (lN x) (nI j) (nI v) := by
  have h14 := ro_L14 h
  refine ⟨j + 1, ?_⟩
  cases j with
  | zero =>
    have := ro_gx post f3 f4 f5 s n k 0 v x yl yo (lN x) h hk hj hv hp
    rw [show ro_stc 1 0 x = 0 from rfl, Nat.zero_testBit] at this
    exact this
  | succ r =>
    refine br_f (nI_ge (a := 0) (by omega) (by omega)) (nm_r (ro_lN8 x hx) (br_t rfl ?_))
    refine ro_g43 post _ (nI (r + 1)) (nI (x % 8)) (nI s) (nI n) f3 f4 f5 yl yo v 0 v (x % 8) x 0 false hv (Nat.mod_lt _ (by decide)) (by omega) hx ?_
    refine ro_g19 post (nI (x % 8)) (nI s) (nI n) f3 f4 f5 yl yo v (r + 1) hv (by omega) r 1 (x / 8) (max 0 (x % 8 + 1)) (v + x % 8) (false || decide (x % 8 = v)) (by omega) (by omega) (by omega) (by omega) (fun z => ?_)
    have := ro_gx post f3 f4 f5 s n k (r + 1) v x yl yo z h hk hj hv hp
    rw [show ro_stc 2 (r + 1) x = max (ro_stc 2 r (x / 8)) (x % 8 + 1) from rfl, show ro_stc 3 (r + 1) x = ro_stc 3 r (x / 8) + x % 8 from rfl, show ro_stc 1 (r + 1) x = (ro_stc 1 r (x / 8) ||| 2 ^ (x % 8)) from rfl, show ro_stc 0 (r + 1) x = x % 8 + 1 from rfl, nI_pred] at this
    rw [show max (max 0 (x % 8 + 1)) (ro_stc 2 r (x / 8)) = max (ro_stc 2 r (x / 8)) (x % 8 + 1) by omega, show v + x % 8 + ro_stc 3 r (x / 8) = v + (ro_stc 3 r (x / 8) + x % 8) by omega, ← ro_tbor, Bool.false_or]
    exact this
end
section
def ro_LA (a : Nat → Int64) (l : List Nat) : Prop := ∀ t, t < l.length → a t = lN (l.getD t 0)
theorem ro_lenY (post : Int32 → Prop) (f3 f4 f5 : Int32) (s n k : Nat) (yl yo : Nat → Int64) (h : ro_VC s n k) (hk : s = 0 ∨ s = 4 → f3 = nI k) (hp : post (nI (ro_L s n k))) : wpY_length post (nI s, nI n, f3, f4, f5, yl, yo) := by
  obtain ⟨h1, h7, hs⟩ := h
  rcases hs with ⟨rfl, hkn⟩ | ⟨rfl, hkn⟩ | ⟨rfl | rfl | rfl, rfl⟩
  · have e3 := hk (Or.inl rfl)
    subst e3
    exact br_t (by decide : nI 0 = 0) hp
  · have e3 := hk (Or.inr rfl)
    subst e3
    exact br_f (by decide : ¬ nI 4 = 0) (br_t (by decide : nI 4 = 4) hp)
  · exact br_f (by decide : ¬ nI 1 = 0) (br_f (by decide : ¬ nI 1 = 4) (br_f (by decide : ¬ nI 1 = 3) hp))
  · exact br_f (by decide : ¬ nI 2 = 0) (br_f (by decide : ¬ nI 2 = 4) (br_f (by decide : ¬ nI 2 = 3) hp))
  · have hp' : post (2 * nI n) := by rw [show (2 : Int32) = nI 2 from rfl, pk_mul]; exact hp
    exact br_f (by decide : ¬ nI 3 = 0) (br_f (by decide : ¬ nI 3 = 4) (br_t (by decide : nI 3 = 3) hp'))
theorem ro_w118 (post : SY → Prop) (J : Int32 → Int32 → (Nat → Int64) → (Nat → Int64) → Prop) (f1 f2 f3 f4 : Int32) (j : Nat) (l : List Nat) (yo : Nat → Int64) (hc : l.length ≤ 5040) (hl : ro_LA yo l) (hJ : ∀ yl, ro_LA yl l → J (nI (j + 1)) (nI l.length) yl yo) :
    ∀ r t yl, t + r = l.length → (∀ i, i < t → yl i = lN (l.getD i 0)) → wY_write_118 post J (nI j) f1 f2 f3 f4 (nI l.length) (r + 1) (nI t) yl yo := by
  intro r
  induction r with
  | zero =>
    intro t yl ht hy
    exact br_t (nI_le (by omega) (by omega)) (nm_r (nI_1 j) (hJ yl (fun i hi => hy i (by omega))))
  | succ r ih =>
    intro t yl ht hy
    have hin : vp_in (nI t) 5040 := vp_in_nI (by omega) (by decide)
    have ec : (nI t).toNatClampNeg = t := nI_clamp (by omega)
    refine br_f (nI_ge (by omega) (by omega)) ⟨hin, hin, nm_e (nm_r (nI_1 t) (ih (t + 1) _ (by omega) (fun i hi => ?_)))⟩
    rw [ec]
    rcases Nat.lt_or_ge i t with c | c
    · rw [pk_uLn (by omega)]; exact hy i c
    · have : i = t := by omega
      subst this; rw [pk_uLs]; exact hl i (by omega)
theorem ro_levlt {s n k j x : Nat} (hj : j ≤ 14) (h : x ∈ ro_lev s n k j) : x < 2 ^ 42 := by
  have h1 := ro_Mlt _ _ _ _ _ ((ro_levM s n k j x).mp h)
  have h2 : 8 ^ j ≤ 8 ^ 14 := Nat.pow_le_pow_right (by decide) hj
  have h3 : (8 : Nat) ^ 14 = 2 ^ 42 := by decide
  omega
theorem ro_w45 (post : SY → Prop) (J : Int32 → Int32 → (Nat → Int64) → (Nat → Int64) → Prop) (f3 f4 : Int32) (s n k j : Nat) (yl : Nat → Int64) (h : ro_VC s n k) (hne : ¬ (s = 4 ∧ k = 0)) (hk : s = 0 ∨ s = 4 → f3 = nI k) (hj : j < ro_L s n k) (hl : ro_LA yl (ro_lev s n k j)) (hJ : ∀ yl yo, ro_LA yl (ro_lev s n k (j + 1)) → J (nI (j + 1)) (nI (ro_lev s n k (j + 1)).length) yl yo) :
    ∀ r i yo, i + r = 8 * (ro_lev s n k j).length → ro_LA yo (ro_fl (ro_np s n k j (ro_lev s n k j)) (ro_nf (ro_lev s n k j)) i) → wY_write_45 post J (nI j) (nI s) (nI n) f3 f4 (nI (ro_lev s n k j).length) (r + 1) (nI (ro_fl (ro_np s n k j (ro_lev s n k j)) (ro_nf (ro_lev s n k j)) i).length) (nI i) yl yo := by
  have hcap := ro_cap h hne (Nat.le_of_lt hj)
  have hcap1 : (ro_lev s n k (j + 1)).length ≤ 5040 := ro_cap h hne (Nat.succ_le_of_lt hj)
  have h14 := ro_L14 h
  have e8 : (8 : Int32) * nI (ro_lev s n k j).length = nI (8 * (ro_lev s n k j).length) := pk_mul 8 _
  have hnx : ro_lev s n k (j + 1) = ro_fl (ro_np s n k j (ro_lev s n k j)) (ro_nf (ro_lev s n k j)) (8 * (ro_lev s n k j).length) := ro_nxfl s n k j _
  have hlt : ∀ i, i < (ro_lev s n k j).length → (ro_lev s n k j).getD i 0 < 2 ^ 42 := fun i hi => by
    rw [ro_gD _ _ hi]; exact ro_levlt (by omega) (List.getElem_mem hi)
  intro r
  induction r with
  | zero =>
    intro i yo hi hy
    have e : i = 8 * (ro_lev s n k j).length := by omega
    subst e
    refine br_t (by rw [e8]; exact nI_le (Nat.le_refl _) (by omega)) ⟨(ro_lev s n k (j + 1)).length + 1, ?_⟩
    rw [← hnx] at hy ⊢
    exact ro_w118 post J (nI s) (nI n) f3 f4 j (ro_lev s n k (j + 1)) yo hcap1 hy (fun yl hyl => hJ yl yo hyl) _ 0 yl (by omega) (fun i hi => by omega)
  | succ r ih =>
    intro i yo hi hy
    have hi8 : i / 8 < (ro_lev s n k j).length := by omega
    have d1 : nI i / 8 = nI (i / 8) := pk_div (a := i) (d := 8) (by omega) (by decide) (by decide)
    have d2 : nI i - nI i / 8 * 8 = nI (i % 8) := pk_rem (a := i) (d := 8) (by omega) (by decide) (by decide)
    have hin : vp_in (nI i / 8) 5040 := by rw [d1]; exact vp_in_nI (by omega) (by decide)
    have n8 : ¬ (8 : Int32) = 0 := by decide
    have ea : yl (nI i / 8).toNatClampNeg = lN ((ro_lev s n k j).getD (i / 8) 0) := by
      rw [d1, nI_clamp (by omega)]; exact hl _ hi8
    have hx42 := hlt _ hi8
    refine br_f (by rw [e8]; exact nI_ge (by omega) (by omega)) ⟨n8, hin, n8, ?_⟩
    rw [d2, ea]
    refine ro_goes _ f3 f4 (nI (ro_lev s n k j).length) s n k j (i % 8) ((ro_lev s n k j).getD (i / 8) 0) yl yo h hk hj (Nat.mod_lt _ (by decide)) (by omega) ?_
    have hpi : ro_ok s n k j (ro_stc s j ((ro_lev s n k j).getD (i / 8) 0)) (i % 8) = ro_np s n k j (ro_lev s n k j) i := rfl
    rw [hpi]
    have IH := ih (i + 1)
    rw [show ro_fl (ro_np s n k j (ro_lev s n k j)) (ro_nf (ro_lev s n k j)) (i + 1) = cond (ro_np s n k j (ro_lev s n k j) i) (ro_fl (ro_np s n k j (ro_lev s n k j)) (ro_nf (ro_lev s n k j)) i ++ [ro_nf (ro_lev s n k j) i]) (ro_fl (ro_np s n k j (ro_lev s n k j)) (ro_nf (ro_lev s n k j)) i) from rfl] at IH
    cases hb : ro_np s n k j (ro_lev s n k j) i
    · rw [hb] at IH
      exact br_t (by decide : ro_bi false = 0) (nm_r (nI_1 i) (IH yo (by omega) hy))
    · rw [hb] at IH
      have hlen : (ro_fl (ro_np s n k j (ro_lev s n k j)) (ro_nf (ro_lev s n k j)) i).length < 5040 := by
        rw [ro_flL]
        have c1 : ro_ct (ro_np s n k j (ro_lev s n k j)) (i + 1) ≤ ro_ct (ro_np s n k j (ro_lev s n k j)) (8 * (ro_lev s n k j).length) := ro_ctmono _ _ (by omega)
        have c2 : ro_ct (ro_np s n k j (ro_lev s n k j)) (i + 1) = ro_ct (ro_np s n k j (ro_lev s n k j)) i + cond (ro_np s n k j (ro_lev s n k j) i) 1 0 := rfl
        rw [hb] at c2
        have c3 : (ro_lev s n k (j + 1)).length = ro_ct (ro_np s n k j (ro_lev s n k j)) (8 * (ro_lev s n k j).length) := by rw [hnx, ro_flL]
        have c4 : ro_ct (ro_np s n k j (ro_lev s n k j)) (i + 1) = ro_ct (ro_np s n k j (ro_lev s n k j)) i + 1 := c2
        omega
      refine br_f (by decide : ¬ ro_bi true = 0) ⟨n8, hin, n8, vp_in_nI hlen (by decide), nm_e (nm_r (nI_1 _) (nm_r (nI_1 i) ?_))⟩
      rw [nI_clamp (by omega), nI_l (by omega), show (8 : Int64) = lN 8 from rfl, lN_mul, lN_add]
      have IH2 := IH (vp_updL yo (ro_fl (ro_np s n k j (ro_lev s n k j)) (ro_nf (ro_lev s n k j)) i).length (lN (8 * (ro_lev s n k j).getD (i / 8) 0 + i % 8))) (by omega)
      generalize ro_fl (ro_np s n k j (ro_lev s n k j)) (ro_nf (ro_lev s n k j)) i = l at *
      have e1 : (l ++ [ro_nf (ro_lev s n k j) i]).length = l.length + 1 := by rw [List.length_append]; rfl
      have IH3 := IH2 (fun t ht => by
        change t < (l ++ [ro_nf (ro_lev s n k j) i]).length at ht
        change _ = lN ((l ++ [ro_nf (ro_lev s n k j) i]).getD t 0)
        rw [e1] at ht
        rcases Nat.lt_or_ge t l.length with c | c
        · rw [pk_uLn (by omega), ro_gA1 _ _ _ c]; exact hy t c
        · have : t = l.length := by omega
          subst this
          rw [pk_uLs, ro_gA2]; rfl)
      change wY_write_45 post J (nI j) (nI s) (nI n) f3 f4 (nI (ro_lev s n k j).length) (r + 1) (nI (l ++ [ro_nf (ro_lev s n k j) i]).length) (nI (i + 1)) yl _ at IH3
      rw [e1] at IH3
      exact IH3
theorem ro_w33 (post : SY → Prop) (f3 f4 : Int32) (s n k : Nat) (h : ro_VC s n k) (hne : ¬ (s = 4 ∧ k = 0)) (hk : s = 0 ∨ s = 4 → f3 = nI k) (hp : ∀ yl yo, ro_LA yl (ro_obs s n k) → post (nI s, nI n, f3, f4, nI (ro_m s n k), yl, yo)) :
    ∀ r j yl yo, j + r = ro_L s n k → ro_LA yl (ro_lev s n k j) → wY_write_33 post (nI s) (nI n) f3 f4 (r + 1) (nI j) (nI (ro_lev s n k j).length) yl yo := by
  have h14 := ro_L14 h
  intro r
  induction r with
  | zero =>
    intro j yl yo hj hl
    have e : j = ro_L s n k := by omega
    subst e
    unfold wY_write_33
    refine ro_lenY _ f3 f4 _ s n k yl yo h hk ?_
    refine br_t (nI_le (Nat.le_refl _) (by omega)) ?_
    have := hp yl yo (by rw [ro_obs1 hne]; exact hl)
    unfold ro_m at this
    rw [ro_obs1 hne] at this
    exact this
  | succ r ih =>
    intro j yl yo hj hl
    unfold wY_write_33
    refine ro_lenY _ f3 f4 _ s n k yl yo h hk ?_
    refine br_f (nI_ge (by omega) (by omega)) ⟨8 * (ro_lev s n k j).length + 1, ?_⟩
    exact ro_w45 post _ f3 f4 s n k j yl h hne hk (by omega) hl (fun yl' yo' h' => ih (j + 1) yl' yo' (by omega) h') _ 0 yo (by omega) (fun t ht => absurd ht (Nat.not_lt_zero t))
theorem ro_write (post : SY → Prop) (f3 f4 f5 : Int32) (s n k : Nat) (yl yo : Nat → Int64) (h : ro_VC s n k) (hk : s = 0 ∨ s = 4 → f3 = nI k) (hp : ∀ yl yo, ro_LA yl (ro_obs s n k) → post (nI s, nI n, f3, f4, nI (ro_m s n k), yl, yo)) : wpY_write post (nI s, nI n, f3, f4, f5, yl, yo) := by
  have h14 := ro_L14 h
  unfold wpY_write
  refine ro_lenY _ f3 f4 f5 s n k yl yo h hk ?_
  by_cases hne : s = 4 ∧ k = 0
  · have hm := ro_m0 (n := n) hne
    obtain ⟨rfl, rfl⟩ := hne
    refine br_t (by decide : nI 0 = 0) (br_t (by decide : nI 4 = 4) (nm_e ⟨1, ?_⟩))
    unfold wY_write_33
    refine ro_lenY _ f3 f4 0 4 n 0 _ yo h hk ?_
    refine br_t (by decide : nI 0 ≤ 0) ?_
    have := hp (vp_updL yl 0 0) yo (fun t ht => by
      have : (ro_obs 4 n 0).length = 0 := hm
      omega)
    rw [hm] at this
    exact this
  · have h20 : wY_write_20 post (nI s) (nI n) f3 f4 f5 yl yo := by
      refine nm_e ⟨ro_L s n k + 1, ?_⟩
      refine ro_w33 post f3 f4 s n k h hne hk hp (ro_L s n k) 0 _ yo (by omega) (fun t ht => ?_)
      have e : t = 0 := by
        have : t < 1 := ht
        omega
      subst e
      exact pk_uLs
    refine br_c (fun hz => br_f ?_ h20) (fun _ => h20)
    intro h4
    have hs : s = 4 := by
      obtain ⟨h1, h7, hs⟩ := h
      have : nI s = nI 4 := h4
      rw [nI_eq (by omega) (by omega)] at this
      exact this
    subst hs
    have hz' : nI k = nI 0 := hz
    rw [nI_eq (by have := h.2.2; have := h.2.1; omega) (by omega)] at hz'
    exact hne ⟨rfl, hz'⟩
end
section
theorem ro_m1 (x : Int32) : x + (-1) = x - 1 := by grind
theorem ro_oblt {s n k i : Nat} (h : ro_VC s n k) (hne : ¬ (s = 4 ∧ k = 0)) (hi : i < ro_m s n k) : ro_ob s n k i < 2 ^ 42 := by
  have h1 := ro_Mlt _ _ _ _ _ (ro_obM hne hi)
  have h2 : 8 ^ (ro_L s n k) ≤ 8 ^ 14 := Nat.pow_le_pow_right (by decide) (ro_L14 h)
  have h3 : (8 : Nat) ^ 14 = 2 ^ 42 := by decide
  omega
theorem ro_and7 (y : Nat) : nI y &&& 7 = nI (y % 8) := by
  rw [pk_and (nI y) (m := 7) 3 (by decide)]
  have e : (nI y).toBitVec.toNat = y % 2 ^ 32 := BitVec.toNat_ofNat _ _
  rw [e]
  exact congrArg nI (by omega)
theorem ro_dig (post : Int32 → Prop) (f3 f4 f5 : Int32) (s n k i x : Nat) (yl yo : Nat → Int64) (h : ro_VC s n k) (hk : s = 0 ∨ s = 4 → f3 = nI k) (hi : i < ro_L s n k) (hx : x < 2 ^ 42) (hp : post (nI (ro_dg (ro_L s n k) x i))) : wpY_digit post (nI s, nI n, f3, f4, f5, yl, yo) (lN x) (nI i) := by
  have h14 := ro_L14 h
  unfold wpY_digit
  refine ro_lenY _ f3 f4 f5 s n k yl yo h hk ?_
  have e1 : 3 * ((nI (ro_L s n k) - 1) - nI i) = nI (3 * (ro_L s n k - 1 - i)) := by
    rw [show (1 : Int32) = nI 1 from rfl, pk_sub (by omega), pk_sub (by omega), show (3 : Int32) = nI 3 from rfl, pk_mul]
  have e2 : 2 ^ (3 * (ro_L s n k - 1 - i)) = 8 ^ (ro_L s n k - 1 - i) := by
    rw [Nat.pow_mul]
  rw [e1, wb_shr (by omega) (by omega), lN_i, ro_and7, e2]
  exact hp
theorem ro_dgS (L x j : Nat) (hj : j < L) : x / 8 ^ (L - (j + 1)) = 8 * (x / 8 ^ (L - j)) + ro_dg L x j := by
  unfold ro_dg
  have e1 : L - j = (L - (j + 1)) + 1 := by omega
  have e2 : L - 1 - j = L - (j + 1) := by omega
  rw [e1, e2, Nat.pow_succ, ← Nat.div_div_eq_div_mul]
  omega
theorem ro_dgD (L x j p : Nat) (hj : j ≤ p) (hp : p < L) : ro_dg L x j = x / 8 ^ (L - (p + 1)) / 8 ^ (p - j) % 8 := by
  unfold ro_dg
  rw [Nat.div_div_eq_div_mul, ← Nat.pow_add, show L - (p + 1) + (p - j) = L - 1 - j by omega]
theorem ro_alike (post : Int32 → Prop) (f3 : Int32) (s n k num cur p : Nat) (yl yo : Nat → Int64) (h : ro_VC s n k) (hne : ¬ (s = 4 ∧ k = 0)) (hk : s = 0 ∨ s = 4 → f3 = nI k) (hl : ro_LA yl (ro_obs s n k)) (hn : num < ro_m s n k) (hc : cur < ro_m s n k) (hpL : p < ro_L s n k)
    (hp : post (ro_bi (decide (ro_ob s n k num / 8 ^ (ro_L s n k - (p + 1)) = ro_ob s n k cur / 8 ^ (ro_L s n k - (p + 1)))))) : wpY_alike post (nI s, nI n, f3, nI cur, nI (ro_m s n k), yl, yo) (nI num) (nI p) := by
  have h14 := ro_L14 h
  have hcap := ro_capm h
  have i1 : vp_in (nI num) 5040 := vp_in_nI (by omega) (by decide)
  have i2 : vp_in (nI cur) 5040 := vp_in_nI (by omega) (by decide)
  have c1 : yl (nI num).toNatClampNeg = lN (ro_ob s n k num) := by rw [nI_clamp (by omega)]; exact hl num hn
  have c2 : yl (nI cur).toNatClampNeg = lN (ro_ob s n k cur) := by rw [nI_clamp (by omega)]; exact hl cur hc
  have b1 := ro_oblt h hne hn
  have b2 := ro_oblt h hne hc
  have key : ∀ r j, j + r = p + 1 → ro_ob s n k num / 8 ^ (ro_L s n k - j) = ro_ob s n k cur / 8 ^ (ro_L s n k - j) → wY_alike_2 post (nI num) (nI p) (nI s) (nI n) f3 (nI cur) (nI (ro_m s n k)) yl yo (r + 1) (nI j) := by
    intro r
    induction r with
    | zero =>
      intro j hj he
      have e : j = p + 1 := by omega
      subst e
      rw [decide_eq_true he] at hp
      exact br_t (nI_lt (by omega) (by omega)) hp
    | succ r ih =>
      intro j hj he
      refine br_f (nI_nlt (by omega) (by omega)) ⟨i1, ?_⟩
      rw [c1]
      refine ro_dig _ f3 _ _ s n k j _ yl yo h hk (by omega) b1 ?_
      refine ⟨i2, ?_⟩
      rw [c2]
      refine ro_dig _ f3 _ _ s n k j _ yl yo h hk (by omega) b2 ?_
      have d1 := ro_dg8 (ro_L s n k) (ro_ob s n k num) j
      have d2 := ro_dg8 (ro_L s n k) (ro_ob s n k cur) j
      by_cases c : ro_dg (ro_L s n k) (ro_ob s n k num) j = ro_dg (ro_L s n k) (ro_ob s n k cur) j
      · refine br_t (by rw [c]) (nm_r (nI_1 j) (ih (j + 1) (by omega) ?_))
        rw [ro_dgS _ _ _ (by omega), ro_dgS _ _ _ (by omega), he, c]
      · refine br_f (by rw [nI_eq (by omega) (by omega)]; exact c) ?_
        rw [decide_eq_false (fun z => c (by rw [ro_dgD _ _ j p (by omega) hpL, ro_dgD _ _ j p (by omega) hpL, z]))] at hp
        exact hp
  refine ⟨p + 1 + 1, key (p + 1) 0 (by omega) ?_⟩
  have x1 := ro_Mlt _ _ _ _ _ (ro_obM hne hn)
  have x2 := ro_Mlt _ _ _ _ _ (ro_obM hne hc)
  rw [Nat.sub_zero, Nat.div_eq_of_lt x1, Nat.div_eq_of_lt x2]
/-- the first object with the code t at r numbers from the end -/
theorem ro_fst {s n k : Nat} (hne : ¬ (s = 4 ∧ k = 0)) {r t cur : Nat} (hc : cur < ro_m s n k) (ht : ro_ob s n k cur / 8 ^ r = t) :
    ro_rk s n k r t ≤ cur ∧ (∀ num, num < ro_rk s n k r t → ¬ ro_ob s n k num / 8 ^ r = t) ∧ ro_ob s n k (ro_rk s n k r t) / 8 ^ r = t := by
  have h1 : ro_rk s n k r t ≤ cur := (ro_rkA hne r t hc).mpr (by omega)
  refine ⟨h1, fun num hn he => ?_, ?_⟩
  · have := (ro_rkA (s := s) (n := n) (k := k) hne r t (num := num) (by omega)).mpr (by omega)
    omega
  · have h2 := (ro_rkA hne r t (num := ro_rk s n k r t) (by omega)).mp (Nat.le_refl _)
    have h3 : ro_ob s n k (ro_rk s n k r t) / 8 ^ r ≤ ro_ob s n k cur / 8 ^ r := by
      rcases Nat.lt_or_ge (ro_rk s n k r t) cur with c | c
      · exact Nat.div_le_div_right (Nat.le_of_lt (ro_obS hne c hc))
      · have : ro_rk s n k r t = cur := by omega
        rw [this]; exact Nat.le_refl _
    omega
theorem ro_fl23 (post : Int32 → Prop) (f3 : Int32) (s n k cur p : Nat) (yl yo : Nat → Int64) (h : ro_VC s n k) (hne : ¬ (s = 4 ∧ k = 0)) (hk : s = 0 ∨ s = 4 → f3 = nI k) (hl : ro_LA yl (ro_obs s n k)) (hc : cur < ro_m s n k) (hpL : p < ro_L s n k)
    (hp : post (nI (ro_rk s n k (ro_L s n k - (p + 1)) (ro_ob s n k cur / 8 ^ (ro_L s n k - (p + 1)))))) :
    ∀ r num, num + r = ro_rk s n k (ro_L s n k - (p + 1)) (ro_ob s n k cur / 8 ^ (ro_L s n k - (p + 1))) → wY_firstLike_23 post (nI p) (nI s) (nI n) f3 (nI cur) (nI (ro_m s n k)) yl yo (r + 1) (nI num) := by
  have hcap := ro_capm h
  obtain ⟨h1, h2, h3⟩ := ro_fst (r := ro_L s n k - (p + 1)) hne hc rfl
  intro r
  induction r with
  | zero =>
    intro num hn
    have e : num = ro_rk s n k (ro_L s n k - (p + 1)) (ro_ob s n k cur / 8 ^ (ro_L s n k - (p + 1))) := by omega
    refine br_f (nI_ge (by omega) (by omega)) ?_
    refine ro_alike _ f3 s n k num cur p yl yo h hne hk hl (by omega) hc hpL ?_
    rw [decide_eq_true (by rw [e]; exact h3)]
    exact br_f (by decide : ¬ ro_bi true = 0) (by rw [e]; exact hp)
  | succ r ih =>
    intro num hn
    refine br_f (nI_ge (by omega) (by omega)) ?_
    refine ro_alike _ f3 s n k num cur p yl yo h hne hk hl (by omega) hc hpL ?_
    rw [decide_eq_false (h2 num (by omega))]
    exact br_t (by decide : ro_bi false = 0) (nm_r (nI_1 num) (ih (num + 1) (by omega)))
theorem ro_lk25 (post : Int32 → Prop) (f3 : Int32) (s n k cur p : Nat) (yl yo : Nat → Int64) (h : ro_VC s n k) (hne : ¬ (s = 4 ∧ k = 0)) (hk : s = 0 ∨ s = 4 → f3 = nI k) (hl : ro_LA yl (ro_obs s n k)) (hc : cur < ro_m s n k) (hpL : p < ro_L s n k)
    (hp : post (nI (ro_ct (fun i => decide (ro_ob s n k i / 8 ^ (ro_L s n k - (p + 1)) = ro_ob s n k cur / 8 ^ (ro_L s n k - (p + 1)))) (ro_m s n k)))) :
    ∀ r num, num + r = ro_m s n k → wY_like_25 post (nI p) (nI s) (nI n) f3 (nI cur) (nI (ro_m s n k)) yl yo (r + 1) (nI (ro_ct (fun i => decide (ro_ob s n k i / 8 ^ (ro_L s n k - (p + 1)) = ro_ob s n k cur / 8 ^ (ro_L s n k - (p + 1)))) num)) (nI num) := by
  have hcap := ro_capm h
  intro r
  induction r with
  | zero =>
    intro num hn
    have e : num = ro_m s n k := by omega
    subst e
    exact br_t (nI_le (Nat.le_refl _) (by omega)) hp
  | succ r ih =>
    intro num hn
    have IH := ih (num + 1) (by omega)
    refine br_f (nI_ge (by omega) (by omega)) ?_
    refine ro_alike _ f3 s n k num cur p yl yo h hne hk hl (by omega) hc hpL ?_
    rw [show ro_ct (fun i => decide (ro_ob s n k i / 8 ^ (ro_L s n k - (p + 1)) = ro_ob s n k cur / 8 ^ (ro_L s n k - (p + 1)))) (num + 1) = ro_ct (fun i => decide (ro_ob s n k i / 8 ^ (ro_L s n k - (p + 1)) = ro_ob s n k cur / 8 ^ (ro_L s n k - (p + 1)))) num + cond (decide (ro_ob s n k num / 8 ^ (ro_L s n k - (p + 1)) = ro_ob s n k cur / 8 ^ (ro_L s n k - (p + 1)))) 1 0 from rfl] at IH
    cases hb : decide (ro_ob s n k num / 8 ^ (ro_L s n k - (p + 1)) = ro_ob s n k cur / 8 ^ (ro_L s n k - (p + 1)))
    · rw [hb] at IH
      exact br_t (by decide : ro_bi false = 0) (nm_r (nI_1 num) IH)
    · rw [hb] at IH
      exact br_f (by decide : ¬ ro_bi true = 0) (nm_r (nI_1 _) (nm_r (nI_1 num) IH))
/-! how many places differ -/
def ro_df (s n k cur num : Nat) (i : Nat) : Bool := !(decide (ro_dg (ro_L s n k) (ro_ob s n k cur) i = ro_dg (ro_L s n k) (ro_ob s n k num) i))
theorem ro_dfX (post : Int32 → SX → Prop) (f3 f5 f6 : Int32) (s n k cur num : Nat) (al ao : Nat → Int32) (h : ro_VC s n k) (h1 : ∀ i, i < ro_L s n k → al i = nI (ro_dg (ro_L s n k) (ro_ob s n k cur) i)) (h2 : ∀ i, i < ro_L s n k → ao i = nI (ro_dg (ro_L s n k) (ro_ob s n k num) i))
    (hp : post (nI (ro_ct (ro_df s n k cur num) (ro_L s n k))) (nI s, nI n, f3, nI (ro_L s n k), f5, f6, ro_BA, ro_GA, al, ao)) :
    ∀ r j, j + r = ro_L s n k → wX_difference_23 post (nI s) (nI n) f3 (nI (ro_L s n k)) f5 f6 ro_BA ro_GA al ao (r + 1) (nI (ro_ct (ro_df s n k cur num) j)) (nI j) := by
  have h14 := ro_L14 h
  intro r
  induction r with
  | zero =>
    intro j hj
    have e : j = ro_L s n k := by omega
    subst e
    exact br_t (nI_le (Nat.le_refl _) (by omega)) hp
  | succ r ih =>
    intro j hj
    have IH := ih (j + 1) (by omega)
    have hin : vp_in (nI j) 14 := vp_in_nI (by omega) (by decide)
    have ec : (nI j).toNatClampNeg = j := nI_clamp (by omega)
    have d1 := ro_dg8 (ro_L s n k) (ro_ob s n k num) j
    have d2 := ro_dg8 (ro_L s n k) (ro_ob s n k cur) j
    have e1 : al (nI j).toNatClampNeg = nI (ro_dg (ro_L s n k) (ro_ob s n k cur) j) := by rw [ec]; exact h1 j (by omega)
    have e2 : ao (nI j).toNatClampNeg = nI (ro_dg (ro_L s n k) (ro_ob s n k num) j) := by rw [ec]; exact h2 j (by omega)
    refine br_f (nI_ge (by omega) (by omega)) ⟨hin, hin, ?_⟩
    rw [show ro_ct (ro_df s n k cur num) (j + 1) = ro_ct (ro_df s n k cur num) j + cond (!(decide (ro_dg (ro_L s n k) (ro_ob s n k cur) j = ro_dg (ro_L s n k) (ro_ob s n k num) j))) 1 0 from rfl] at IH
    by_cases c : ro_dg (ro_L s n k) (ro_ob s n k cur) j = ro_dg (ro_L s n k) (ro_ob s n k num) j
    · rw [decide_eq_true c] at IH
      exact br_t (by rw [e1, e2, c]) (nm_r (nI_1 j) IH)
    · rw [decide_eq_false c] at IH
      exact br_f (by rw [e1, e2, nI_eq (by omega) (by omega)]; exact c) (nm_r (nI_1 _) (nm_r (nI_1 j) IH))
theorem ro_dfY (post : Int32 → Prop) (f3 : Int32) (s n k cur num : Nat) (yl yo : Nat → Int64) (h : ro_VC s n k) (hne : ¬ (s = 4 ∧ k = 0)) (hk : s = 0 ∨ s = 4 → f3 = nI k) (hl : ro_LA yl (ro_obs s n k)) (hn : num < ro_m s n k) (hc : cur < ro_m s n k)
    (hp : post (nI (ro_ct (ro_df s n k cur num) (ro_L s n k)))) :
    ∀ r j, j + r = ro_L s n k → wY_difference_18 post (nI num) (nI s) (nI n) f3 (nI cur) (nI (ro_m s n k)) yl yo (r + 1) (nI (ro_ct (ro_df s n k cur num) j)) (nI j) := by
  have h14 := ro_L14 h
  have hcap := ro_capm h
  have i1 : vp_in (nI num) 5040 := vp_in_nI (by omega) (by decide)
  have i2 : vp_in (nI cur) 5040 := vp_in_nI (by omega) (by decide)
  have c1 : yl (nI num).toNatClampNeg = lN (ro_ob s n k num) := by rw [nI_clamp (by omega)]; exact hl num hn
  have c2 : yl (nI cur).toNatClampNeg = lN (ro_ob s n k cur) := by rw [nI_clamp (by omega)]; exact hl cur hc
  have b1 := ro_oblt h hne hn
  have b2 := ro_oblt h hne hc
  intro r
  induction r with
  | zero =>
    intro j hj
    have e : j = ro_L s n k := by omega
    subst e
    unfold wY_difference_18
    refine ro_lenY _ f3 _ _ s n k yl yo h hk ?_
    exact br_t (nI_le (Nat.le_refl _) (by omega)) hp
  | succ r ih =>
    intro j hj
    have IH := ih (j + 1) (by omega)
    have d1 := ro_dg8 (ro_L s n k) (ro_ob s n k num) j
    have d2 := ro_dg8 (ro_L s n k) (ro_ob s n k cur) j
    unfold wY_difference_18
    refine ro_lenY _ f3 _ _ s n k yl yo h hk ?_
    refine br_f (nI_ge (by omega) (by omega)) ⟨i1, ?_⟩
    rw [c1]
    refine ro_dig _ f3 _ _ s n k j _ yl yo h hk (by omega) b1 ?_
    refine ⟨i2, ?_⟩
    rw [c2]
    refine ro_dig _ f3 _ _ s n k j _ yl yo h hk (by omega) b2 ?_
    rw [show ro_ct (ro_df s n k cur num) (j + 1) = ro_ct (ro_df s n k cur num) j + cond (!(decide (ro_dg (ro_L s n k) (ro_ob s n k cur) j = ro_dg (ro_L s n k) (ro_ob s n k num) j))) 1 0 from rfl] at IH
    by_cases c : ro_dg (ro_L s n k) (ro_ob s n k cur) j = ro_dg (ro_L s n k) (ro_ob s n k num) j
    · rw [decide_eq_true c] at IH
      exact br_t (by rw [c]) (nm_r (nI_1 j) IH)
    · rw [decide_eq_false c] at IH
      exact br_f (by rw [nI_eq (by omega) (by omega)]; exact fun z => c z.symm) (nm_r (nI_1 _) (nm_r (nI_1 j) IH))
end
section
def ro_im1 (s n d : Nat) : Nat := match s with
  | 0 => n - 1 - d
  | 3 => 1 - d
  | _ => d
/-- the numbers of the mirrored object -/
def ro_mi (s n k x i : Nat) : Nat := ro_im1 s n (ro_dg (ro_L s n k) x (ro_L s n k - 1 - i))
theorem ro_mi0 {n k : Nat} {d e : Nat → Nat} {L : Nat} (hL : L = k) (hd : ro_OK 0 n k d L) (he : ∀ i, e i = n - 1 - d (L - 1 - i)) (h7 : n ≤ 7) : ro_OK 0 n k e L := by
  have hok : ∀ i, i < L → d i < n ∧ ro_sd 0 d i ≤ d i := fun i hi => by
    have t : (decide (d i < n) && decide (ro_sd 0 d i ≤ d i)) = true := (hd i hi).2
    rw [Bool.and_eq_true] at t
    exact ⟨of_decide_eq_true t.1, of_decide_eq_true t.2⟩
  intro i hi
  have h1 := hok (L - 1 - i) (by omega)
  have hlt : e i < n := by rw [he]; omega
  refine ⟨by omega, ?_⟩
  show (decide (e i < n) && decide (ro_sd 0 e i ≤ e i)) = true
  rw [decide_eq_true hlt, Bool.true_and]
  apply decide_eq_true
  cases i with
  | zero => exact Nat.zero_le _
  | succ i =>
    show e i + 1 ≤ e (i + 1)
    rw [he i, he (i + 1)]
    obtain ⟨c, hc⟩ : ∃ c, L - 1 - i = c + 1 := ⟨L - 1 - i - 1, by omega⟩
    have e2 : L - 1 - (i + 1) = c := by omega
    have h2 := hok (c + 1) (by omega)
    have h3 : d c + 1 ≤ d (c + 1) := h2.2
    rw [hc, e2]
    omega
theorem ro_mi1 {n k : Nat} {d e : Nat → Nat} {L : Nat} (hd : ro_OK 1 n k d L) (he : ∀ i, e i = d (L - 1 - i)) : ro_OK 1 n k e L := by
  have hok : ∀ i, i < L → d i < n ∧ (ro_sd 1 d i).testBit (d i) = false := fun i hi => by
    have t : (decide (d i < n) && !((ro_sd 1 d i).testBit (d i))) = true := (hd i hi).2
    rw [Bool.and_eq_true] at t
    refine ⟨of_decide_eq_true t.1, ?_⟩
    have := t.2
    cases hq : (ro_sd 1 d i).testBit (d i)
    · rfl
    · rw [hq] at this; cases this
  intro i hi
  have h1 := hok (L - 1 - i) (by omega)
  refine ⟨by rw [he]; exact (hd _ (by omega)).1, ?_⟩
  show (decide (e i < n) && !((ro_sd 1 e i).testBit (e i))) = true
  rw [decide_eq_true (by rw [he]; exact h1.1), Bool.true_and]
  cases hq : (ro_sd 1 e i).testBit (e i)
  · rfl
  · exfalso
    obtain ⟨i', hi', e'⟩ := (ro_bit e (e i) i).mp hq
    rw [he, he] at e'
    have h2 := (hok (L - 1 - i') (by omega)).2
    have h3 := (ro_bit d (d (L - 1 - i')) (L - 1 - i')).mpr ⟨L - 1 - i, by omega, e'.symm⟩
    rw [h2] at h3; cases h3
theorem ro_mi4 {n k : Nat} {d e : Nat → Nat} {L : Nat} (hL : L = k) (hL0 : 0 < L) (hd : ro_OK 4 n k d L) (he : ∀ i, e i = d (L - 1 - i)) : ro_OK 4 n k e L := by
  have hlast : ro_sd 4 d L = n := by
    have t : (decide (ro_sd 4 d (L - 1) + d (L - 1) ≤ n) && (decide (L - 1 + 1 < k) || decide (ro_sd 4 d (L - 1) + d (L - 1) = n))) = true := (hd (L - 1) (by omega)).2
    rw [Bool.and_eq_true, decide_eq_false (show ¬ L - 1 + 1 < k by omega), Bool.false_or] at t
    have := of_decide_eq_true t.2
    obtain ⟨c, hc⟩ : ∃ c, L = c + 1 := ⟨L - 1, by omega⟩
    rw [hc] at this ⊢
    exact this
  have hs : ∀ i, i ≤ L → ro_sd 4 e i + ro_sd 4 d (L - i) = n := by
    intro i
    induction i with
    | zero => intro _; rw [Nat.sub_zero, hlast]; exact Nat.zero_add _
    | succ i ih =>
      intro hi
      have h1 := ih (by omega)
      show ro_sd 4 e i + e i + ro_sd 4 d (L - (i + 1)) = n
      have e1 : ro_sd 4 d (L - i) = ro_sd 4 d (L - (i + 1)) + d (L - 1 - i) := by
        obtain ⟨c, hc⟩ : ∃ c, L - i = c + 1 := ⟨L - i - 1, by omega⟩
        rw [hc, show L - (i + 1) = c by omega, show L - 1 - i = c by omega]; rfl
      rw [he]; omega
  intro i hi
  refine ⟨by rw [he]; exact (hd _ (by omega)).1, ?_⟩
  show (decide (ro_sd 4 e i + e i ≤ n) && (decide (i + 1 < k) || decide (ro_sd 4 e i + e i = n))) = true
  have h1 : ro_sd 4 e i + e i + ro_sd 4 d (L - (i + 1)) = n := hs (i + 1) (by omega)
  rw [decide_eq_true (by omega), Bool.true_and]
  rcases Nat.lt_or_ge (i + 1) k with c | c
  · rw [decide_eq_true c]; rfl
  · have z : L - (i + 1) = 0 := by omega
    rw [z] at h1
    have h2 : ro_sd 4 e i + e i + 0 = n := h1
    rw [decide_eq_true (show ro_sd 4 e i + e i = n by omega), Bool.or_true]
theorem ro_mi3 {n k : Nat} {d e : Nat → Nat} {L : Nat} (hL : L = 2 * n) (hL0 : 0 < L) (hd : ro_OK 3 n k d L) (he : ∀ i, e i = 1 - d (L - 1 - i)) : ro_OK 3 n k e L := by
  have hok : ∀ i, i < L → d i ≤ 1 ∧ ro_sd 3 d i + d i ≤ n ∧ i + 1 ≤ 2 * (ro_sd 3 d i + d i) := fun i hi => by
    have t : (decide (d i ≤ 1) && (decide (ro_sd 3 d i + d i ≤ n) && decide (i + 1 ≤ 2 * (ro_sd 3 d i + d i)))) = true := (hd i hi).2
    rw [Bool.and_eq_true, Bool.and_eq_true] at t
    exact ⟨of_decide_eq_true t.1, of_decide_eq_true t.2.1, of_decide_eq_true t.2.2⟩
  have hb : ∀ i, i ≤ L → ro_sd 3 d i ≤ i ∧ i ≤ 2 * ro_sd 3 d i := by
    intro i
    induction i with
    | zero => intro _; exact ⟨Nat.le_refl _, Nat.zero_le _⟩
    | succ i ih =>
      intro hi
      have h1 := ih (by omega)
      have h2 := hok i (by omega)
      show ro_sd 3 d i + d i ≤ i + 1 ∧ i + 1 ≤ 2 * (ro_sd 3 d i + d i)
      omega
  have hlast : ro_sd 3 d L = n := by
    have h1 := hb L (Nat.le_refl _)
    have h2 := hok (L - 1) (by omega)
    obtain ⟨c, hc⟩ : ∃ c, L = c + 1 := ⟨L - 1, by omega⟩
    have e1 : ro_sd 3 d L = ro_sd 3 d (L - 1) + d (L - 1) := by rw [hc]; rfl
    omega
  have hs : ∀ i, i ≤ L → ro_sd 3 e i + n = i + ro_sd 3 d (L - i) := by
    intro i
    induction i with
    | zero =>
      intro _
      rw [Nat.sub_zero, hlast]
      show 0 + n = 0 + n
      rfl
    | succ i ih =>
      intro hi
      have h1 := ih (by omega)
      have h2 := hok (L - 1 - i) (by omega)
      show ro_sd 3 e i + e i + n = i + 1 + ro_sd 3 d (L - (i + 1))
      have e1 : ro_sd 3 d (L - i) = ro_sd 3 d (L - (i + 1)) + d (L - 1 - i) := by
        obtain ⟨c, hc⟩ : ∃ c, L - i = c + 1 := ⟨L - i - 1, by omega⟩
        rw [hc, show L - (i + 1) = c by omega, show L - 1 - i = c by omega]; rfl
      rw [he]; omega
  intro i hi
  refine ⟨by rw [he]; omega, ?_⟩
  show (decide (e i ≤ 1) && (decide (ro_sd 3 e i + e i ≤ n) && decide (i + 1 ≤ 2 * (ro_sd 3 e i + e i)))) = true
  have h1 : ro_sd 3 e i + e i + n = i + 1 + ro_sd 3 d (L - (i + 1)) := hs (i + 1) (by omega)
  have h2 := hb (L - (i + 1)) (by omega)
  rw [decide_eq_true (by rw [he]; omega), decide_eq_true (by omega), decide_eq_true (by omega)]; rfl
theorem ro_miOK {s n k cur : Nat} (h : ro_VC s n k) (hs2 : s ≠ 2) (hc : cur < ro_m s n k) (hne : ¬ (s = 4 ∧ k = 0)) : ro_OK s n k (ro_mi s n k (ro_ob s n k cur)) (ro_L s n k) := by
  have hd := ro_OKob hne hc
  obtain ⟨h1, h7, hs⟩ := h
  rcases hs with ⟨rfl, hkn⟩ | ⟨rfl, hkn⟩ | ⟨rfl | rfl | rfl, rfl⟩
  · exact ro_mi0 rfl hd (fun _ => rfl) h7
  · exact ro_mi4 rfl (show 0 < k by omega) hd (fun _ => rfl)
  · exact ro_mi1 hd (fun _ => rfl)
  · exact absurd rfl hs2
  · exact ro_mi3 rfl (show 0 < 2 * n by omega) hd (fun _ => rfl)
/-- what is subtracted in a mirror image -/
theorem ro_miI {s n k cur i : Nat} (h : ro_VC s n k) (hc : cur < ro_m s n k) (hne : ¬ (s = 4 ∧ k = 0)) (hi : i < ro_L s n k) : (s = 0 → ro_dg (ro_L s n k) (ro_ob s n k cur) i + 1 ≤ n) ∧ (s = 3 → ro_dg (ro_L s n k) (ro_ob s n k cur) i ≤ 1) := by
  have hd := ro_OKob hne hc
  constructor
  · rintro rfl
    have t : (decide (ro_dg (ro_L 0 n k) (ro_ob 0 n k cur) i < n) && _) = true := (hd i hi).2
    rw [Bool.and_eq_true] at t
    exact of_decide_eq_true t.1
  · rintro rfl
    have t : (decide (ro_dg (ro_L 3 n k) (ro_ob 3 n k cur) i ≤ 1) && _) = true := (hd i hi).2
    rw [Bool.and_eq_true] at t
    exact of_decide_eq_true t.1
theorem ro_s0 {s n k : Nat} (h : ro_VC s n k) (a : Nat) (ha : a < 5) : nI s = nI a ↔ s = a := by
  have := h.2.2
  exact nI_eq (by omega) (by omega)
theorem ro_mIX (post : Int32 → Prop) (f3 f4 f5 f6 : Int32) (s n k d : Nat) (aB aG al ao : Nat → Int32) (h : ro_VC s n k) (h0 : s = 0 → d + 1 ≤ n) (h3 : s = 3 → d ≤ 1) (hp : post (nI (ro_im1 s n d))) : wpX_mirrorImage post (nI s, nI n, f3, f4, f5, f6, aB, aG, al, ao) (nI d) := by
  have h' := h
  obtain ⟨h1, h7, hs⟩ := h'
  rcases hs with ⟨rfl, hkn⟩ | ⟨rfl, hkn⟩ | ⟨rfl | rfl | rfl, rfl⟩
  · have := h0 rfl
    refine br_t (by decide : nI 0 = 0) ?_
    rw [show (1 : Int32) = nI 1 from rfl, pk_sub h1, pk_sub (by omega)]; exact hp
  · exact br_f (by decide : ¬ nI 4 = 0) (br_f (by decide : ¬ nI 4 = 3) hp)
  · exact br_f (by decide : ¬ nI 1 = 0) (br_f (by decide : ¬ nI 1 = 3) hp)
  · exact br_f (by decide : ¬ nI 2 = 0) (br_f (by decide : ¬ nI 2 = 3) hp)
  · refine br_f (by decide : ¬ nI 3 = 0) (br_t (by decide : nI 3 = 3) ?_)
    rw [show (1 : Int32) = nI 1 from rfl, pk_sub (h3 rfl)]; exact hp
theorem ro_mX20 (post : Int32 → SX → Prop) (f3 f5 f6 : Int32) (s n k cur : Nat) (al : Nat → Int32) (h : ro_VC s n k) (hs2 : s ≠ 2) (hne : ¬ (s = 4 ∧ k = 0)) (hk : s = 0 ∨ s = 4 → f3 = nI k) (hc : cur < ro_m s n k) (h1 : ∀ i, i < ro_L s n k → al i = nI (ro_dg (ro_L s n k) (ro_ob s n k cur) i))
    (hp : ∀ ao, post (nI (ro_rk s n k 0 (ro_pk (ro_mi s n k (ro_ob s n k cur)) (ro_L s n k)))) (nI s, nI n, f3, nI (ro_L s n k), f5, f6, ro_BA, ro_GA, al, ao)) :
    ∀ r j ao, j + r = ro_L s n k → (∀ i, i < j → ao i = nI (ro_mi s n k (ro_ob s n k cur) i)) → wX_mirrored_20 post (nI s) (nI n) f3 (nI (ro_L s n k)) f5 f6 (r + 1) (nI j) ro_BA ro_GA al ao := by
  have h14 := ro_L14 h
  have hOK := ro_miOK h hs2 hc hne
  intro r
  induction r with
  | zero =>
    intro j ao hj ha
    have e : j = ro_L s n k := by omega
    subst e
    refine br_t (nI_le (Nat.le_refl _) (by omega)) ?_
    rcases Nat.eq_zero_or_pos (ro_L s n k) with hz | hz
    · refine ⟨1, br_t (by rw [hz]; decide) ?_⟩
      have := hp ao
      rw [show ro_pk (ro_mi s n k (ro_ob s n k cur)) (ro_L s n k) = 0 by rw [hz]; rfl, ro_rk0] at this
      exact this
    · obtain ⟨p, hpL⟩ : ∃ p, ro_L s n k = p + 1 := ⟨ro_L s n k - 1, by omega⟩
      have e1 : nI (ro_L s n k) - 1 = nI p := by rw [hpL, nI_pred]
      rw [e1]
      refine ro_fw_other _ f3 f5 f6 s n k p (ro_mi s n k (ro_ob s n k cur)) al ao h hne hk (by omega) (fun i hi => hOK i (by omega)) (fun i hi => ha i (by omega)) ?_
      rw [← hpL, Nat.sub_self]
      exact hp ao
  | succ r ih =>
    intro j ao hj ha
    have e1 : (nI (ro_L s n k) - 1) - nI j = nI (ro_L s n k - 1 - j) := by
      rw [show (1 : Int32) = nI 1 from rfl, pk_sub (by omega), pk_sub (by omega)]
    have hin : vp_in ((nI (ro_L s n k) - 1) - nI j) 14 := by rw [e1]; exact vp_in_nI (by omega) (by decide)
    have ea : al ((nI (ro_L s n k) - 1) - nI j).toNatClampNeg = nI (ro_dg (ro_L s n k) (ro_ob s n k cur) (ro_L s n k - 1 - j)) := by
      rw [e1, nI_clamp (by omega)]; exact h1 _ (by omega)
    have hI := ro_miI (i := ro_L s n k - 1 - j) h hc hne (by omega)
    refine br_f (nI_ge (by omega) (by omega)) ⟨hin, ?_⟩
    rw [ea]
    refine ro_mIX _ f3 _ f5 f6 s n k _ _ _ al ao h hI.1 hI.2 ?_
    refine ⟨vp_in_nI (by omega) (by decide), nm_e (nm_r (nI_1 j) (ih (j + 1) _ (by omega) (fun i hi => ?_)))⟩
    rw [nI_clamp (by omega)]
    rcases Nat.lt_or_ge i j with c | c
    · rw [pk_un (by omega)]; exact ha i c
    · have : i = j := by omega
      subst this; exact pk_us
theorem ro_pklt {d : Nat → Nat} : ∀ j, (∀ i, i < j → d i < 8) → ro_pk d j < 8 ^ j := by
  intro j
  induction j with
  | zero => intro _; show 0 < 8 ^ 0; decide
  | succ j ih =>
    intro h
    have h1 := ih (fun i hi => h i (by omega))
    have h2 := h j (by omega)
    show 8 * ro_pk d j + d j < 8 ^ (j + 1)
    rw [Nat.pow_succ]; omega
theorem ro_mY99 (post : Int32 → Prop) (f3 f4 : Int32) (s n k t c0 : Nat) (yl yo : Nat → Int64) (h : ro_VC s n k) (hne : ¬ (s = 4 ∧ k = 0)) (hl : ro_LA yl (ro_obs s n k)) (hc : c0 < ro_m s n k) (ht : ro_ob s n k c0 = t) (hp : post (nI (ro_rk s n k 0 t))) :
    ∀ r num, num + r = ro_rk s n k 0 t → wY_mirrored_99 post (lN t) (nI s) (nI n) f3 f4 (nI (ro_m s n k)) yl yo (r + 1) (nI num) := by
  have hcap := ro_capm h
  obtain ⟨h1, h2, h3⟩ := ro_fst (r := 0) (t := t) hne hc (by rw [Nat.pow_zero, Nat.div_one]; exact ht)
  have ht42 := ro_oblt h hne hc
  rw [ht] at ht42
  intro r
  induction r with
  | zero =>
    intro num hn
    have e : num = ro_rk s n k 0 t := by omega
    subst e
    rw [Nat.pow_zero, Nat.div_one] at h3
    refine br_f (nI_ge (by omega) (by omega)) ⟨vp_in_nI (by omega) (by decide), br_t ?_ hp⟩
    rw [nI_clamp (by omega), hl _ (show _ < ro_m s n k by omega)]
    exact congrArg lN h3
  | succ r ih =>
    intro num hn
    have h4 := h2 num (by omega)
    rw [Nat.pow_zero, Nat.div_one] at h4
    have b := ro_oblt h hne (show num < ro_m s n k by omega)
    refine br_f (nI_ge (by omega) (by omega)) ⟨vp_in_nI (by omega) (by decide), br_f ?_ (nm_r (nI_1 num) (ih (num + 1) (by omega)))⟩
    rw [nI_clamp (by omega), hl _ (show _ < ro_m s n k by omega)]
    show ¬ lN (ro_ob s n k num) = lN t
    rw [pk_lEQ (by omega) (by omega)]
    exact h4
theorem ro_mY27 (post : Int32 → Prop) (f3 : Int32) (s n k cur : Nat) (yl yo : Nat → Int64) (h : ro_VC s n k) (hs2 : s ≠ 2) (hne : ¬ (s = 4 ∧ k = 0)) (hk : s = 0 ∨ s = 4 → f3 = nI k) (hl : ro_LA yl (ro_obs s n k)) (hc : cur < ro_m s n k)
    (hp : post (nI (ro_rk s n k 0 (ro_pk (ro_mi s n k (ro_ob s n k cur)) (ro_L s n k))))) :
    ∀ r j, j + r = ro_L s n k → wY_mirrored_27 post (nI s) (nI n) f3 (nI cur) (nI (ro_m s n k)) yl yo (r + 1) (lN (ro_pk (ro_mi s n k (ro_ob s n k cur)) j)) (nI r - 1) := by
  have h14 := ro_L14 h
  have hcap := ro_capm h
  have hOK := ro_miOK h hs2 hc hne
  have i2 : vp_in (nI cur) 5040 := vp_in_nI (by omega) (by decide)
  have c2 : yl (nI cur).toNatClampNeg = lN (ro_ob s n k cur) := by rw [nI_clamp (by omega)]; exact hl cur hc
  have b2 := ro_oblt h hne hc
  intro r
  induction r with
  | zero =>
    intro j hj
    have e : j = ro_L s n k := by omega
    subst e
    obtain ⟨c0, hc0, e0⟩ := ro_obE hne (ro_Mpk _ hOK)
    exact br_t (by decide : nI 0 - 1 < 0) ⟨_, ro_mY99 post f3 (nI cur) s n k _ c0 yl yo h hne hl hc0 e0 hp _ 0 (Nat.zero_add _)⟩
  | succ r ih =>
    intro j hj
    have IH := ih (j + 1) (by omega)
    have er : r = ro_L s n k - 1 - j := by omega
    rw [nI_pred]
    refine br_f (nI_pos (by omega)) ⟨i2, ?_⟩
    rw [c2]
    refine ro_dig _ f3 _ _ s n k r _ yl yo h hk (by omega) b2 ?_
    have hI := ro_miI (i := r) h hc hne (by omega)
    have d8 := ro_dg8 (ro_L s n k) (ro_ob s n k cur) r
    have es : ro_pk (ro_mi s n k (ro_ob s n k cur)) (j + 1) = 8 * ro_pk (ro_mi s n k (ro_ob s n k cur)) j + ro_im1 s n (ro_dg (ro_L s n k) (ro_ob s n k cur) r) := by
      rw [er]; rfl
    rw [es] at IH
    have mk : ∀ y : Int32, y = nI (ro_im1 s n (ro_dg (ro_L s n k) (ro_ob s n k cur) r)) → ro_im1 s n (ro_dg (ro_L s n k) (ro_ob s n k cur) r) < 8 → 8 * lN (ro_pk (ro_mi s n k (ro_ob s n k cur)) j) + y.toInt64 = lN (8 * ro_pk (ro_mi s n k (ro_ob s n k cur)) j + ro_im1 s n (ro_dg (ro_L s n k) (ro_ob s n k cur) r)) := by
      rintro y rfl hlt
      rw [nI_l (by omega), show (8 : Int64) = lN 8 from rfl, lN_mul, lN_add]
    have h' := h
    obtain ⟨h1, h7, hs⟩ := h'
    rcases hs with ⟨rfl, hkn⟩ | ⟨rfl, hkn⟩ | ⟨rfl | rfl | rfl, rfl⟩
    · have q := hI.1 rfl
      refine br_t (by decide : nI 0 = 0) (nm_r (mk _ ?_ ?_) (nm_r (ro_m1 _) IH))
      · rw [show (1 : Int32) = nI 1 from rfl, pk_sub h1, pk_sub (by omega)]; rfl
      · show n - 1 - _ < 8; omega
    · exact br_f (by decide : ¬ nI 4 = 0) (br_f (by decide : ¬ nI 4 = 3) (nm_r (mk _ rfl d8) (nm_r (ro_m1 _) IH)))
    · exact br_f (by decide : ¬ nI 1 = 0) (br_f (by decide : ¬ nI 1 = 3) (nm_r (mk _ rfl d8) (nm_r (ro_m1 _) IH)))
    · exact absurd rfl hs2
    · have q := hI.2 rfl
      refine br_f (by decide : ¬ nI 3 = 0) (br_t (by decide : nI 3 = 3) (nm_r (mk _ ?_ ?_) (nm_r (ro_m1 _) IH)))
      · rw [show (1 : Int32) = nI 1 from rfl, pk_sub q]; rfl
      · show 1 - _ < 8; omega
end
section
/-- both sides hold the same object of the same list; X's tables are the two tables -/
def i_Rel (k : Nat) (u : SX) (v : SY) : Prop := ∃ (s n c cur : Nat) (f3 : Int32) (al ao : Nat → Int32) (yl yo : Nat → Int64), ro_VC s n c ∧ (s = 0 ∨ s = 4 → f3 = nI c) ∧ (cur < ro_m s n c ∨ (ro_m s n c = 0 ∧ cur = 0)) ∧ (∀ i, i < ro_L s n c → al i = nI (ro_dg (ro_L s n c) (ro_ob s n c cur) i)) ∧ ro_LA yl (ro_obs s n c) ∧ u = (nI s, nI n, f3, nI (ro_L s n c), nI (ro_m s n c), nI cur, ro_BA, ro_GA, al, ao) ∧ v = (nI s, nI n, f3, nI cur, nI (ro_m s n c), yl, yo)
theorem i_up {k : Nat} {u : SX} {v : SY} (h : i_Rel k u v) : i_Rel (k + 4) u v := h
theorem ro_fbW (post : SX → Prop) (f1 f2 f3 f4 f5 f6 : Int32) (aG al ao : Nat → Int32) (hp : post (f1, f2, f3, f4, f5, f6, ro_BA, aG, al, ao)) : wpX_fillBinomials post (f1, f2, f3, f4, f5, f6, (fun _ => 0), aG, al, ao) := by
  have := ro_fb2 post f1 f2 f3 f4 f5 f6 aG al ao hp 16 0 (by omega)
  rw [Nat.mul_zero, ro_PB0] at this
  exact ⟨17, this⟩
theorem ro_fgW (post : SX → Prop) (f1 f2 f3 f4 f5 f6 : Int32) (aB al ao : Nat → Int32) (hp : post (f1, f2, f3, f4, f5, f6, aB, ro_GA, al, ao)) : wpX_fillGroupings post (f1, f2, f3, f4, f5, f6, aB, (fun _ => 0), al, ao) := by
  have := ro_fg2 post f1 f2 f3 f4 f5 f6 aB al ao hp 8 0 (by omega)
  rw [ro_PG0] at this
  exact ⟨9, this⟩
theorem ro_m00 {s n c : Nat} (h : ro_VC s n c) : 0 < ro_m s n c ∨ (ro_m s n c = 0 ∧ 0 = 0) := by
  rcases Nat.eq_zero_or_pos (ro_m s n c) with z | z
  · exact Or.inr ⟨z, rfl⟩
  · exact Or.inl z
theorem ro_nem {s n c i : Nat} (h : i < ro_m s n c) : ¬ (s = 4 ∧ c = 0) := fun z => by
  rw [ro_m0 z] at h; omega
theorem ro_choX (post : Int32 → SX → Prop) (f1 f2 f3' f4 f5 f6 f3 : Int32) (s n k : Nat) (al ao : Nat → Int32) (h : ro_VC s n k) (hk : s = 0 ∨ s = 4 → f3 = nI k) (hp : ∀ al : Nat → Int32, (∀ i, i < ro_L s n k → al i = nI (ro_dg (ro_L s n k) (ro_ob s n k 0) i)) → post 1 (nI s, nI n, f3, nI (ro_L s n k), nI (ro_m s n k), nI 0, ro_BA, ro_GA, al, ao)) : wX_choose_54 post (nI s) (nI n) f3 f1 f2 f3' f4 f5 f6 ro_BA ro_GA al ao := by
  unfold wX_choose_54
  exact ro_start _ f1 f2 f3' f4 f5 f6 f3 s n k al ao h hk hp
theorem ro_choY (post : Int32 → SY → Prop) (f1 f2 f3' f4 f5 f3 : Int32) (s n k : Nat) (yl yo : Nat → Int64) (h : ro_VC s n k) (hk : s = 0 ∨ s = 4 → f3 = nI k) (hp : ∀ yl yo, ro_LA yl (ro_obs s n k) → post 1 (nI s, nI n, f3, nI 0, nI (ro_m s n k), yl, yo)) : wY_choose_42 post (nI s) (nI n) f3 f1 f2 f3' f4 f5 yl yo := by
  unfold wY_choose_42
  exact ro_write _ f3 (nI 0) f5 s n k yl yo h hk hp
theorem i_vc0 : wpX_init (fun u => wpY_init (fun v => i_Rel 0 u v)) := by
  have hv : ro_VC 1 3 0 := ⟨by decide, by decide, Or.inr (Or.inr ⟨Or.inl rfl, rfl⟩)⟩
  have hk : (1 : Nat) = 0 ∨ (1 : Nat) = 4 → (0 : Int32) = nI 0 := fun _ => rfl
  unfold wpX_init
  refine ro_fbW _ _ _ _ _ _ _ _ _ _ ?_
  refine ro_fgW _ _ _ _ _ _ _ _ _ _ ?_
  refine ro_start _ _ _ _ _ _ _ 0 1 3 0 _ _ hv hk (fun al ha => ?_)
  unfold wpY_init
  refine ro_write _ 0 (nI 0) 0 1 3 0 _ _ hv hk (fun yl yo hy => ?_)
  exact ⟨1, 3, 0, 0, 0, al, _, yl, yo, hv, hk, ro_m00 hv, ha, hy, rfl, rfl⟩
theorem i_vc_choose {k : Nat} {u : SX} {v : SY} (I : i_Rel k u v) (hk : k + 4 ≤ 2048) (v1 : Int32) (v2 : Int32) (v3 : Int32) : wpX_choose (fun r u' => wpY_choose (fun r' v' => r' = r ∧ i_Rel (k + 4) u' v') v v1 v2 v3) u v1 v2 v3 := by
  have I' := I
  obtain ⟨s, n, c, cur, f3, al, ao, yl, yo, hv, hf, hc, ha, hl, rfl, rfl⟩ := I'
  by_cases c1 : v1 < 0
  · exact br_t c1 (br_t c1 ⟨rfl, I⟩)
  by_cases c2 : 4 < v1
  · exact br_f c1 (br_t c2 (br_f c1 (br_t c2 ⟨rfl, I⟩)))
  by_cases c3 : v2 < 1
  · exact br_f c1 (br_f c2 (br_t c3 (br_f c1 (br_f c2 (br_t c3 ⟨rfl, I⟩)))))
  by_cases c4 : v2 ≤ 7
  · obtain ⟨s', hs', rfl⟩ := nI_of c1
    have c3' : ¬ v2 < 0 := fun z => c3 (Int32.lt_trans z (by decide))
    obtain ⟨n', hn', rfl⟩ := nI_of c3'
    have b1 : s' ≤ 4 := by
      rcases Nat.lt_or_ge 4 s' with z | z
      · exact absurd (nI_lt z hs') c2
      · exact z
    have b2 : 1 ≤ n' := by
      rcases Nat.lt_or_ge n' 1 with z | z
      · exact absurd (nI_lt z (by decide)) c3
      · exact z
    have b3 : n' ≤ 7 := (nI_leI hn' (by decide)).mp c4
    have fin : ∀ c', ro_VC s' n' c' → (s' = 0 ∨ s' = 4 → v3 = nI c') →
        ∀ PY : (Int32 → SY → Prop) → Prop, (∀ post, wY_choose_42 post (nI s') (nI n') v3 (nI s) (nI n) f3 (nI cur) (nI (ro_m s n c)) yl yo → PY post) →
        wX_choose_54 (fun r u' => PY (fun r' v' => r' = r ∧ i_Rel (k + 4) u' v')) (nI s') (nI n') v3 (nI s) (nI n) f3 (nI (ro_L s n c)) (nI (ro_m s n c)) (nI cur) ro_BA ro_GA al ao := by
      intro c' hv' hf' PY hPY
      refine ro_choX _ _ _ _ _ _ _ v3 s' n' c' al ao hv' hf' (fun al' ha' => ?_)
      refine hPY _ (ro_choY _ _ _ _ _ _ v3 s' n' c' yl yo hv' hf' (fun yl' yo' hy' => ?_))
      exact ⟨rfl, s', n', c', 0, v3, al', ao, yl', yo', hv', hf', ro_m00 hv', ha', hy', rfl, rfl⟩
    have sized : (s' = 0 ∨ s' = 4) → ∀ PY : (Int32 → SY → Prop) → Prop, (∀ post, wY_choose_31 post (nI s') (nI n') v3 (nI s) (nI n) f3 (nI cur) (nI (ro_m s n c)) yl yo → PY post) → wX_choose_31 (fun r u' => PY (fun r' v' => r' = r ∧ i_Rel (k + 4) u' v')) (nI s') (nI n') v3 (nI s) (nI n) f3 (nI (ro_L s n c)) (nI (ro_m s n c)) (nI cur) ro_BA ro_GA al ao := by
      intro hs PY hPY
      refine br_f (by decide : ¬ (1 : Int32) = 0) ?_
      by_cases d1 : v3 < 0
      · exact br_t d1 (hPY _ (br_t d1 ⟨rfl, I⟩))
      by_cases d2 : v3 ≤ nI n'
      · obtain ⟨c', hc', rfl⟩ := nI_of d1
        have d3 := (nI_leI hc' hn').mp d2
        refine br_f d1 (br_t d2 ?_)
        exact fin c' ⟨b2, b3, by omega⟩ (fun _ => rfl) PY (fun post hp => hPY post (br_f d1 (br_t d2 hp)))
      · exact br_f d1 (br_f d2 (hPY _ (br_f d1 (br_f d2 ⟨rfl, I⟩))))
    have free : (s' = 1 ∨ s' = 2 ∨ s' = 3) → ∀ PY : (Int32 → SY → Prop) → Prop, (∀ post, wY_choose_42 post (nI s') (nI n') v3 (nI s) (nI n) f3 (nI cur) (nI (ro_m s n c)) yl yo → PY post) → wX_choose_36 (fun r u' => PY (fun r' v' => r' = r ∧ i_Rel (k + 4) u' v')) (nI s') (nI n') v3 0 (nI s) (nI n) f3 (nI (ro_L s n c)) (nI (ro_m s n c)) (nI cur) ro_BA ro_GA al ao := by
      intro hs PY hPY
      refine br_t rfl ?_
      exact fin 0 ⟨b2, b3, by omega⟩ (fun z => by omega) PY hPY
    by_cases e0 : nI s' = 0
    · have s0 : s' = 0 := (nI_eq (b := 0) hs' (by decide)).mp e0
      refine br_f c1 (br_f c2 (br_f c3 (br_t c4 (br_t e0 ?_))))
      exact sized (Or.inl s0) (fun post => wpY_choose post (nI s, nI n, f3, nI cur, nI (ro_m s n c), yl, yo) (nI s') (nI n') v3) (fun post hp => br_f c1 (br_f c2 (br_f c3 (br_t c4 (br_t e0 hp)))))
    · have s0 : s' ≠ 0 := fun z => e0 (by rw [z]; rfl)
      by_cases e4 : nI s' = 4
      · have s4 : s' = 4 := (nI_eq (b := 4) hs' (by decide)).mp e4
        refine br_f c1 (br_f c2 (br_f c3 (br_t c4 (br_f e0 (br_t e4 ?_)))))
        exact sized (Or.inr s4) (fun post => wpY_choose post (nI s, nI n, f3, nI cur, nI (ro_m s n c), yl, yo) (nI s') (nI n') v3) (fun post hp => br_f c1 (br_f c2 (br_f c3 (br_t c4 (br_f e0 (br_t e4 hp))))))
      · have s4 : s' ≠ 4 := fun z => e4 (by rw [z]; rfl)
        refine br_f c1 (br_f c2 (br_f c3 (br_t c4 (br_f e0 (br_f e4 ?_)))))
        exact free (by omega) (fun post => wpY_choose post (nI s, nI n, f3, nI cur, nI (ro_m s n c), yl, yo) (nI s') (nI n') v3) (fun post hp => br_f c1 (br_f c2 (br_f c3 (br_t c4 (br_f e0 (br_f e4 hp))))))
  · exact br_f c1 (br_f c2 (br_f c3 (br_f c4 (br_f c1 (br_f c2 (br_f c3 (br_f c4 ⟨rfl, I⟩)))))))
end
section
theorem ro_has0 (post : Int32 → Prop) (f1 f2 f3 f6 : Int32) (L m : Nat) (aB aG al ao : Nat → Int32) (v1 : Int32) (hm : m < 2 ^ 31) (hb : m = 0 ∨ v1 < 0 ∨ nI L ≤ v1) (hp : post 0) : wpX_hasItem post (f1, f2, f3, nI L, nI m, f6, aB, aG, al, ao) v1 := by
  by_cases c1 : nI m ≤ 0
  · exact br_t c1 hp
  by_cases c2 : v1 < 0
  · exact br_f c1 (br_t c2 hp)
  have c3 : nI L ≤ v1 := by
    rcases hb with z | z | z
    · subst z; exact absurd (by decide) c1
    · exact absurd z c2
    · exact z
  exact br_f c1 (br_f c2 (br_t c3 hp))
theorem ro_has1 (post : Int32 → Prop) (f1 f2 f3 f6 : Int32) (L m j : Nat) (aB aG al ao : Nat → Int32) (hm : m < 2 ^ 31) (hL : L < 2 ^ 31) (h0 : 0 < m) (hj : j < L) (hp : post 1) : wpX_hasItem post (f1, f2, f3, nI L, nI m, f6, aB, aG, al, ao) (nI j) :=
  br_f (nI_nle h0 hm) (br_f (nI_pos (by omega)) (br_f (nI_ge hj hL) hp))
theorem ro_split (v1 : Int32) (L m : Nat) (hL : L < 2 ^ 31) : (m = 0 ∨ v1 < 0 ∨ nI L ≤ v1) ∨ (0 < m ∧ ∃ j, j < L ∧ v1 = nI j) := by
  rcases Nat.eq_zero_or_pos m with z | z
  · exact Or.inl (Or.inl z)
  by_cases c1 : v1 < 0
  · exact Or.inl (Or.inr (Or.inl c1))
  by_cases c2 : nI L ≤ v1
  · exact Or.inl (Or.inr (Or.inr c2))
  obtain ⟨j, hj, rfl⟩ := nI_of c1
  refine Or.inr ⟨z, j, ?_, rfl⟩
  rcases Nat.lt_or_ge j L with d | d
  · exact d
  · exact absurd (nI_le d hj) c2
theorem ro_lis0 (post : Int32 → Prop) (f1 f2 f3 f4 f6 : Int32) (m : Nat) (aB aG al ao : Nat → Int32) (v1 : Int32) (hb : v1 < 0 ∨ nI m ≤ v1) (hp : post 0) : wpX_isListed post (f1, f2, f3, f4, nI m, f6, aB, aG, al, ao) v1 := by
  by_cases c1 : v1 < 0
  · exact br_t c1 hp
  have c2 : nI m ≤ v1 := by
    rcases hb with z | z
    · exact absurd z c1
    · exact z
  exact br_f c1 (br_t c2 hp)
theorem ro_lis1 (post : Int32 → Prop) (f1 f2 f3 f4 f6 : Int32) (m j : Nat) (aB aG al ao : Nat → Int32) (v1 : Int32) (he : v1 = nI j) (hm : m < 2 ^ 31) (hj : j < m) (hp : post 1) : wpX_isListed post (f1, f2, f3, f4, nI m, f6, aB, aG, al, ao) v1 := by
  subst he
  exact br_f (nI_pos (by omega)) (br_f (nI_ge hj hm) hp)
theorem ro_split2 (v1 : Int32) (m : Nat) : (v1 < 0 ∨ nI m ≤ v1) ∨ (∃ j, j < m ∧ v1 = nI j) := by
  by_cases c1 : v1 < 0
  · exact Or.inl (Or.inl c1)
  by_cases c2 : nI m ≤ v1
  · exact Or.inl (Or.inr c2)
  obtain ⟨j, hj, rfl⟩ := nI_of c1
  refine Or.inr ⟨j, ?_, rfl⟩
  rcases Nat.lt_or_ge j m with d | d
  · exact d
  · exact absurd (nI_le d hj) c2
theorem i_vc_count {k : Nat} {u : SX} {v : SY} (I : i_Rel k u v) (hk : k + 4 ≤ 2048) : wpX_count (fun r => wpY_count (fun r' => r' = r ∧ i_Rel (k + 4) u v) v) u := by
  have I' := I
  obtain ⟨s, n, c, cur, f3, al, ao, yl, yo, hv, hf, hc, ha, hl, rfl, rfl⟩ := I'
  exact ⟨rfl, I⟩
theorem i_vc_number {k : Nat} {u : SX} {v : SY} (I : i_Rel k u v) (hk : k + 4 ≤ 2048) : wpX_number (fun r => wpY_number (fun r' => r' = r ∧ i_Rel (k + 4) u v) v) u := by
  have I' := I
  obtain ⟨s, n, c, cur, f3, al, ao, yl, yo, hv, hf, hc, ha, hl, rfl, rfl⟩ := I'
  exact br_c (fun z => br_t z ⟨rfl, I⟩) (fun z => br_f z ⟨rfl, I⟩)
/-- Y's guard of item, firstLike and like fails -/
theorem ro_Ybad {A : Prop} (f3 f4 : Int32) (s n c : Nat) (yl yo : Nat → Int64) (P : Prop) (v1 : Int32) (hv : ro_VC s n c) (hf : s = 0 ∨ s = 4 → f3 = nI c) (hb : ro_m s n c = 0 ∨ v1 < 0 ∨ nI (ro_L s n c) ≤ v1) (hp : P) :
    ((nI (ro_m s n c) = 0 → P) ∧ (¬ nI (ro_m s n c) = 0 → ((v1 < 0 → P) ∧ (¬ v1 < 0 → wpY_length (fun r_3 => (v1 < r_3 → A) ∧ (¬ v1 < r_3 → P)) (nI s, nI n, f3, f4, nI (ro_m s n c), yl, yo))))) := by
  refine br_c (fun _ => hp) (fun z1 => br_c (fun _ => hp) (fun z2 => ?_))
  refine ro_lenY _ f3 _ _ s n c yl yo hv hf ?_
  rcases hb with z | z | z
  · rw [z] at z1; exact absurd (by decide) z1
  · exact absurd z z2
  · exact br_f (Int32.not_lt.mpr z) hp
theorem ro_Ygood {A : Prop} (f3 f4 : Int32) (s n c j : Nat) (yl yo : Nat → Int64) (P : Prop) (hv : ro_VC s n c) (hf : s = 0 ∨ s = 4 → f3 = nI c) (h0 : 0 < ro_m s n c) (hj : j < ro_L s n c) (hA : A) :
    ((nI (ro_m s n c) = 0 → P) ∧ (¬ nI (ro_m s n c) = 0 → ((nI j < 0 → P) ∧ (¬ nI j < 0 → wpY_length (fun r_3 => (nI j < r_3 → A) ∧ (¬ nI j < r_3 → P)) (nI s, nI n, f3, f4, nI (ro_m s n c), yl, yo))))) := by
  have hcap := ro_capm hv
  have h14 := ro_L14 hv
  refine br_f (nI_ne0 h0 (by omega)) (br_f (nI_pos (by omega)) ?_)
  refine ro_lenY _ f3 _ _ s n c yl yo hv hf ?_
  exact br_t (nI_lt hj (by omega)) hA
theorem i_vc_item {k : Nat} {u : SX} {v : SY} (I : i_Rel k u v) (hk : k + 4 ≤ 2048) (v1 : Int32) : wpX_item (fun r => wpY_item (fun r' => r' = r ∧ i_Rel (k + 4) u v) v v1) u v1 := by
  have I' := I
  obtain ⟨s, n, c, cur, f3, al, ao, yl, yo, hv, hf, hc, ha, hl, rfl, rfl⟩ := I'
  have hcap := ro_capm hv
  have h14 := ro_L14 hv
  unfold wpX_item
  rcases ro_split v1 (ro_L s n c) (ro_m s n c) (by omega) with hb | ⟨h0, j, hj, rfl⟩
  · refine ro_has0 _ _ _ _ _ _ _ _ _ _ _ _ (by omega) hb ?_
    exact br_t rfl (ro_Ybad f3 (nI cur) s n c yl yo _ v1 hv hf hb ⟨rfl, I⟩)
  · have hcur : cur < ro_m s n c := by omega
    refine ro_has1 _ _ _ _ _ _ _ _ _ _ _ _ (by omega) (by omega) h0 hj ?_
    refine br_f (by decide : ¬ (1 : Int32) = 0) ⟨vp_in_nI (by omega) (by decide), ?_⟩
    refine ro_Ygood f3 (nI cur) s n c j yl yo _ hv hf h0 hj ⟨vp_in_nI (by omega) (by decide), ?_⟩
    rw [nI_clamp (n := cur) (by omega), hl cur hcur]
    refine ro_dig _ f3 _ _ s n c j _ yl yo hv hf hj (ro_oblt hv (ro_nem hcur) hcur) ?_
    refine ⟨?_, I⟩
    rw [nI_clamp (by omega), ha j hj]; rfl
theorem i_vc_go {k : Nat} {u : SX} {v : SY} (I : i_Rel k u v) (hk : k + 4 ≤ 2048) (v1 : Int32) : wpX_go (fun r u' => wpY_go (fun r' v' => r' = r ∧ i_Rel (k + 4) u' v') v v1) u v1 := by
  have I' := I
  obtain ⟨s, n, c, cur, f3, al, ao, yl, yo, hv, hf, hc, ha, hl, rfl, rfl⟩ := I'
  have hcap := ro_capm hv
  unfold wpX_go
  rcases ro_split2 v1 (ro_m s n c) with hb | ⟨j, hj, rfl⟩
  · refine ro_lis0 _ _ _ _ _ _ _ _ _ _ _ _ hb ?_
    refine br_t rfl (br_c (fun _ => ⟨rfl, I⟩) (fun z => ?_))
    rcases hb with z2 | z2
    · exact absurd z2 z
    · exact br_f (Int32.not_lt.mpr z2) ⟨rfl, I⟩
  · refine ro_lis1 _ _ _ _ _ _ _ j _ _ _ _ _ rfl (by omega) hj ?_
    refine br_f (by decide : ¬ (1 : Int32) = 0) ?_
    refine ro_wo_list _ f3 _ _ s n c j al ao hv hf (Or.inl hj) (fun al' ha' => ?_)
    refine br_f (nI_pos (by omega)) (br_t (nI_lt hj (by omega)) ?_)
    exact ⟨rfl, s, n, c, j, f3, al', ao, yl, yo, hv, hf, Or.inl hj, ha', hl, rfl, rfl⟩
theorem i_vc_next {k : Nat} {u : SX} {v : SY} (I : i_Rel k u v) (hk : k + 4 ≤ 2048) : wpX_next (fun r u' => wpY_next (fun r' v' => r' = r ∧ i_Rel (k + 4) u' v') v) u := by
  have I' := I
  obtain ⟨s, n, c, cur, f3, al, ao, yl, yo, hv, hf, hc, ha, hl, rfl, rfl⟩ := I'
  have hcap := ro_capm hv
  unfold wpX_next
  rcases Nat.lt_or_ge (cur + 1) (ro_m s n c) with d | d
  · refine ro_lis1 _ _ _ _ _ _ _ (cur + 1) _ _ _ _ _ (nI_1 cur) (by omega) d ?_
    refine br_f (by decide : ¬ (1 : Int32) = 0) (nm_r (nI_1 cur) ?_)
    refine ro_wo_list _ f3 _ _ s n c (cur + 1) al ao hv hf (Or.inl d) (fun al' ha' => ?_)
    refine br_t (by rw [nI_1]; exact nI_lt d (by omega)) (nm_r (nI_1 cur) ?_)
    exact ⟨rfl, s, n, c, cur + 1, f3, al', ao, yl, yo, hv, hf, Or.inl d, ha', hl, rfl, rfl⟩
  · refine ro_lis0 _ _ _ _ _ _ _ _ _ _ _ _ (Or.inr (by rw [nI_1]; exact nI_le d (by omega))) ?_
    exact br_t rfl (br_f (by rw [nI_1]; exact nI_nlt d (by omega)) ⟨rfl, I⟩)
theorem i_vc_previous {k : Nat} {u : SX} {v : SY} (I : i_Rel k u v) (hk : k + 4 ≤ 2048) : wpX_previous (fun r u' => wpY_previous (fun r' v' => r' = r ∧ i_Rel (k + 4) u' v') v) u := by
  have I' := I
  obtain ⟨s, n, c, cur, f3, al, ao, yl, yo, hv, hf, hc, ha, hl, rfl, rfl⟩ := I'
  have hcap := ro_capm hv
  unfold wpX_previous
  cases cur with
  | zero =>
    refine ro_lis0 _ _ _ _ _ _ _ _ _ _ _ _ (Or.inl (by decide)) ?_
    exact br_t rfl (br_c (fun _ => ⟨rfl, I⟩) (fun _ => br_t rfl ⟨rfl, I⟩))
  | succ cur =>
    have d : cur < ro_m s n c := by omega
    refine ro_lis1 _ _ _ _ _ _ _ cur _ _ _ _ _ (nI_pred cur) (by omega) d ?_
    refine br_f (by decide : ¬ (1 : Int32) = 0) (nm_r (nI_pred cur) ?_)
    refine ro_wo_list _ f3 _ _ s n c cur al ao hv hf (Or.inl d) (fun al' ha' => ?_)
    refine br_f (nI_ne0 (by omega) (by omega)) (br_f (nI_ne0 (by omega) (by omega)) (nm_r (nI_pred cur) ?_))
    exact ⟨rfl, s, n, c, cur, f3, al', ao, yl, yo, hv, hf, Or.inl d, ha', hl, rfl, rfl⟩
theorem i_vc_firstLike {k : Nat} {u : SX} {v : SY} (I : i_Rel k u v) (hk : k + 4 ≤ 2048) (v1 : Int32) : wpX_firstLike (fun r => wpY_firstLike (fun r' => r' = r ∧ i_Rel (k + 4) u v) v v1) u v1 := by
  have I' := I
  obtain ⟨s, n, c, cur, f3, al, ao, yl, yo, hv, hf, hc, ha, hl, rfl, rfl⟩ := I'
  have hcap := ro_capm hv
  have h14 := ro_L14 hv
  unfold wpX_firstLike
  rcases ro_split v1 (ro_L s n c) (ro_m s n c) (by omega) with hb | ⟨h0, j, hj, rfl⟩
  · refine ro_has0 _ _ _ _ _ _ _ _ _ _ _ _ (by omega) hb ?_
    exact br_t rfl (ro_Ybad f3 (nI cur) s n c yl yo _ v1 hv hf hb ⟨rfl, I⟩)
  · have hcur : cur < ro_m s n c := by omega
    have hne := ro_nem hcur
    have hOK := ro_OKob hne hcur
    have hx := ro_Mlt _ _ _ _ _ (ro_obM hne hcur)
    refine ro_has1 _ _ _ _ _ _ _ _ _ _ _ _ (by omega) (by omega) h0 hj ?_
    refine br_f (by decide : ¬ (1 : Int32) = 0) ?_
    refine ro_fw_list _ f3 _ _ s n c j (ro_dg (ro_L s n c) (ro_ob s n c cur)) al ao hv hne hf hj (fun i hi => hOK i (by omega)) (fun i hi => ha i (by omega)) ?_
    rw [ro_pkdg hx (j + 1) hj]
    refine ro_Ygood f3 (nI cur) s n c j yl yo _ hv hf h0 hj ⟨ro_rk s n c (ro_L s n c - (j + 1)) (ro_ob s n c cur / 8 ^ (ro_L s n c - (j + 1))) + 1, ?_⟩
    exact ro_fl23 _ f3 s n c cur j yl yo hv hne hf hl hcur hj ⟨rfl, I⟩ _ 0 (Nat.zero_add _)
theorem i_vc_like {k : Nat} {u : SX} {v : SY} (I : i_Rel k u v) (hk : k + 4 ≤ 2048) (v1 : Int32) : wpX_like (fun r => wpY_like (fun r' => r' = r ∧ i_Rel (k + 4) u v) v v1) u v1 := by
  have I' := I
  obtain ⟨s, n, c, cur, f3, al, ao, yl, yo, hv, hf, hc, ha, hl, rfl, rfl⟩ := I'
  have hcap := ro_capm hv
  have h14 := ro_L14 hv
  unfold wpX_like
  rcases ro_split v1 (ro_L s n c) (ro_m s n c) (by omega) with hb | ⟨h0, j, hj, rfl⟩
  · refine ro_has0 _ _ _ _ _ _ _ _ _ _ _ _ (by omega) hb ?_
    exact br_t rfl (ro_Ybad f3 (nI cur) s n c yl yo _ v1 hv hf hb ⟨rfl, I⟩)
  · have hcur : cur < ro_m s n c := by omega
    have hne := ro_nem hcur
    have hOK := ro_OKob hne hcur
    have hx := ro_Mlt _ _ _ _ _ (ro_obM hne hcur)
    refine ro_has1 _ _ _ _ _ _ _ _ _ _ _ _ (by omega) (by omega) h0 hj ?_
    refine br_f (by decide : ¬ (1 : Int32) = 0) ⟨vp_in_nI (by omega) (by decide), ?_⟩
    rw [nI_clamp (n := j) (by omega), ha j hj]
    refine ro_ways_list _ f3 _ _ s n c j _ (ro_dg (ro_L s n c) (ro_ob s n c cur)) al ao hv hne hf hj (ro_dg8 _ _ _) (fun i hi => hOK i (by omega)) (fun i hi => ha i (by omega)) ?_
    have e1 : 8 * ro_pk (ro_dg (ro_L s n c) (ro_ob s n c cur)) j + ro_dg (ro_L s n c) (ro_ob s n c cur) j = ro_ob s n c cur / 8 ^ (ro_L s n c - (j + 1)) := ro_pkdg hx (j + 1) hj
    rw [ro_wyN hne hj (fun i hi => hOK i (by omega)) (ro_dg8 _ _ _), e1, Nat.sub_sub]
    refine ro_Ygood f3 (nI cur) s n c j yl yo _ hv hf h0 hj ⟨ro_m s n c + 1, ?_⟩
    exact ro_lk25 _ f3 s n c cur j yl yo hv hne hf hl hcur hj ⟨rfl, I⟩ _ 0 (Nat.zero_add _)
theorem i_vc_difference {k : Nat} {u : SX} {v : SY} (I : i_Rel k u v) (hk : k + 4 ≤ 2048) (v1 : Int32) : wpX_difference (fun r u' => wpY_difference (fun r' => r' = r ∧ i_Rel (k + 4) u' v) v v1) u v1 := by
  have I' := I
  obtain ⟨s, n, c, cur, f3, al, ao, yl, yo, hv, hf, hc, ha, hl, rfl, rfl⟩ := I'
  have hcap := ro_capm hv
  unfold wpX_difference
  rcases ro_split2 v1 (ro_m s n c) with hb | ⟨j, hj, rfl⟩
  · refine ro_lis0 _ _ _ _ _ _ _ _ _ _ _ _ hb ?_
    refine br_t rfl (br_c (fun _ => ⟨rfl, I⟩) (fun z => ?_))
    rcases hb with z2 | z2
    · exact absurd z2 z
    · exact br_f (Int32.not_lt.mpr z2) ⟨rfl, I⟩
  · have hcur : cur < ro_m s n c := by omega
    have hne := ro_nem hcur
    refine ro_lis1 _ _ _ _ _ _ _ j _ _ _ _ _ rfl (by omega) hj ?_
    refine br_f (by decide : ¬ (1 : Int32) = 0) ?_
    refine ro_wo_other _ f3 _ _ s n c j al ao hv hf (Or.inl hj) (fun ao' ha' => ?_)
    refine ⟨ro_L s n c + 1, ro_dfX _ f3 _ _ s n c cur j al ao' hv ha ha' ?_ (ro_L s n c) 0 (Nat.zero_add _)⟩
    refine br_f (nI_pos (by omega)) (br_t (nI_lt hj (by omega)) ⟨ro_L s n c + 1, ?_⟩)
    refine ro_dfY _ f3 s n c cur j yl yo hv hne hf hl hj hcur ?_ (ro_L s n c) 0 (Nat.zero_add _)
    exact ⟨rfl, s, n, c, cur, f3, al, ao', yl, yo, hv, hf, hc, ha, hl, rfl, rfl⟩
theorem i_vc_mirrored {k : Nat} {u : SX} {v : SY} (I : i_Rel k u v) (hk : k + 4 ≤ 2048) : wpX_mirrored (fun r u' => wpY_mirrored (fun r' => r' = r ∧ i_Rel (k + 4) u' v) v) u := by
  have I' := I
  obtain ⟨s, n, c, cur, f3, al, ao, yl, yo, hv, hf, hc, ha, hl, rfl, rfl⟩ := I'
  have hcap := ro_capm hv
  by_cases c2 : nI s = 2
  · exact br_t c2 (br_t c2 ⟨rfl, I⟩)
  by_cases c0 : nI (ro_m s n c) = 0
  · exact br_f c2 (br_t c0 (br_f c2 (br_t c0 ⟨rfl, I⟩)))
  have hs2 : s ≠ 2 := fun z => c2 (by rw [z]; rfl)
  have hm : ro_m s n c ≠ 0 := fun z => c0 (by rw [z]; rfl)
  have hcur : cur < ro_m s n c := by omega
  have hne := ro_nem hcur
  refine br_f c2 (br_f c0 ⟨ro_L s n c + 1, ?_⟩)
  refine ro_mX20 _ f3 _ _ s n c cur al hv hs2 hne hf hcur ha (fun ao' => ?_) (ro_L s n c) 0 ao (Nat.zero_add _) (fun i hi => absurd hi (Nat.not_lt_zero i))
  refine br_f c2 (br_f c0 ?_)
  refine ro_lenY _ f3 _ _ s n c yl yo hv hf ?_
  refine nm_e ⟨ro_L s n c + 1, ?_⟩
  refine ro_mY27 _ f3 s n c cur yl yo hv hs2 hne hf hl hcur ?_ (ro_L s n c) 0 (Nat.zero_add _)
  exact ⟨rfl, s, n, c, cur, f3, al, ao', yl, yo, hv, hf, hc, ha, hl, rfl, rfl⟩
end
