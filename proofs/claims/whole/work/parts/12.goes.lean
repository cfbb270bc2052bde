theorem ro_b0 {j x : Nat} : ro_stc 0 j x ≤ 8 := by
  cases j with
  | zero => exact Nat.zero_le _
  | succ j => show x % 8 + 1 ≤ 8; omega
theorem ro_b2 : ∀ j x, ro_stc 2 j x ≤ 8 := by
  intro j
  induction j with
  | zero => intro x; exact Nat.zero_le _
  | succ j ih =>
    intro x
    have := ih (x / 8)
    show max (ro_stc 2 j (x / 8)) (x % 8 + 1) ≤ 8
    omega
theorem ro_b3 : ∀ j x, ro_stc 3 j x ≤ 7 * j := by
  intro j
  induction j with
  | zero => intro x; exact Nat.zero_le _
  | succ j ih =>
    intro x
    have := ih (x / 8)
    show ro_stc 3 j (x / 8) + x % 8 ≤ 7 * (j + 1)
    omega
theorem ro_b43 : ∀ j x, ro_stc 4 j x = ro_stc 3 j x := by
  intro j
  induction j with
  | zero => intro x; rfl
  | succ j ih =>
    intro x
    show ro_stc 4 j (x / 8) + x % 8 = ro_stc 3 j (x / 8) + x % 8
    rw [ih]
theorem ro_lN8 (y : Nat) (hy : y < 2 ^ 63) : (lN y &&& 7).toInt32 = nI (y % 8) := by
  have h := wb_mask (n := y) (k := 3) (by omega) (by decide)
  rw [show (7 : Int64) = lN (2 ^ 3 - 1) from rfl, h, lN_i]
theorem ro_lNs (y : Nat) (hy : y < 2 ^ 63) : ((lN y).toUInt64 >>> ((3 : Int32).toInt64.toUInt64 &&& Int64.toUInt64 63)).toInt64 = lN (y / 8) :=
  wb_shr (n := y) (k := 3) (by omega) (by decide)
def ro_bi (b : Bool) : Int32 := cond b 1 0
theorem ro_g43 (post : Int32 → Prop) (J : Int32 → Int32 → Int32 → Int32 → Int64 → Int32 → Prop) (x3 x7 f1 f2 f3 f4 f5 : Int32) (yl yo : Nat → Int64) (v G S w y i : Nat) (H : Bool) (hv : v < 8) (hw : w < 8) (hG : G ≤ 8) (hy : y < 2 ^ 63)
    (hJ : J (nI (max G (w + 1)) - 1) (nI (S + w)) x7 (ro_bi (H || decide (w = v))) (lN (y / 8)) (nI (i + 1))) :
    wY_goesOn_43 post J x3 (nI v) (nI G - 1) (nI S) x7 (ro_bi H) (lN y) (nI i) (nI w) f1 f2 f3 f4 f5 yl yo := by
  have h64 : ∀ x5 x8, x5 = nI (max G (w + 1)) - 1 → x8 = ro_bi (H || decide (w = v)) → wY_goesOn_64 post J x3 (nI v) x5 (nI S) x7 x8 (lN y) (nI i) (nI w) f1 f2 f3 f4 f5 yl yo := by
    rintro x5 x8 rfl rfl
    exact nm_r (nI_add S w) (nm_r (ro_lNs y hy) (nm_r (nI_1 i) hJ))
  have h54 : ∀ x5, x5 = nI (max G (w + 1)) - 1 → wY_goesOn_54 post J x3 (nI v) x5 (nI S) x7 (ro_bi H) (lN y) (nI i) (nI w) f1 f2 f3 f4 f5 yl yo := by
    intro x5 h5
    by_cases c : w = v
    · refine br_t (by rw [c]) (h64 x5 1 h5 ?_)
      rw [decide_eq_true c, Bool.or_true]; rfl
    · refine br_f (by rw [nI_eq (by omega) (by omega)]; exact c) (h64 x5 _ h5 ?_)
      rw [decide_eq_false c, Bool.or_false]
  by_cases c : w + 1 ≤ G
  · exact br_t ((ro_lem1 (by omega) (by omega)).mpr c) (h54 _ (by rw [Nat.max_eq_left c]))
  · exact br_f (fun z => c ((ro_lem1 (by omega) (by omega)).mp z)) (h54 _ (by rw [Nat.max_eq_right (by omega), nI_pred]))
theorem ro_tbor (q w v : Nat) (H : Bool) : (H || (q ||| 2 ^ w).testBit v) = ((H || decide (w = v)) || q.testBit v) := by
  rw [Nat.testBit_or, Nat.testBit_two_pow]
  cases H <;> cases q.testBit v <;> simp
theorem ro_g19 (post : Int32 → Prop) (x7 f1 f2 f3 f4 f5 : Int32) (yl yo : Nat → Int64) (v j : Nat) (hv : v < 8) (hj : j ≤ 14) :
    ∀ r i y G S H, i + r = j → 1 ≤ i → y < 2 ^ 63 → G ≤ 8 →
      (∀ z, wY_goesOn_19 post (nI j) (nI v) f1 f2 f3 f4 f5 yl yo (0 + 1) (nI (max G (ro_stc 2 r y)) - 1) (nI (S + ro_stc 3 r y)) x7 (ro_bi (H || (ro_stc 1 r y).testBit v)) z (nI j)) →
      wY_goesOn_19 post (nI j) (nI v) f1 f2 f3 f4 f5 yl yo (r + 1) (nI G - 1) (nI S) x7 (ro_bi H) (lN y) (nI i) := by
  intro r
  induction r with
  | zero =>
    intro i y G S H hi h1 hy hG hx
    have e : i = j := by omega
    subst e
    have := hx (lN y)
    rw [show ro_stc 2 0 y = 0 from rfl, show ro_stc 3 0 y = 0 from rfl, show ro_stc 1 0 y = 0 from rfl, Nat.zero_testBit, Bool.or_false, Nat.max_eq_left (Nat.zero_le _)] at this
    exact this
  | succ r ih =>
    intro i y G S H hi h1 hy hG hx
    refine br_f (nI_ge (by omega) (by omega)) (nm_r (ro_lN8 y hy) (br_f (nI_ne0 h1 (by omega)) ?_))
    refine ro_g43 post _ (nI j) x7 f1 f2 f3 f4 f5 yl yo v G S (y % 8) y i H hv (Nat.mod_lt _ (by decide)) hG hy ?_
    refine ih (i + 1) (y / 8) (max G (y % 8 + 1)) (S + y % 8) (H || decide (y % 8 = v)) (by omega) (by omega) (by omega) (by omega) (fun z => ?_)
    have := hx z
    rw [show ro_stc 2 (r + 1) y = max (ro_stc 2 r (y / 8)) (y % 8 + 1) from rfl, show ro_stc 3 (r + 1) y = ro_stc 3 r (y / 8) + y % 8 from rfl, show ro_stc 1 (r + 1) y = (ro_stc 1 r (y / 8) ||| 2 ^ (y % 8)) from rfl, ro_tbor] at this
    rw [show max (max G (y % 8 + 1)) (ro_stc 2 r (y / 8)) = max G (max (ro_stc 2 r (y / 8)) (y % 8 + 1)) by omega, show S + y % 8 + ro_stc 3 r (y / 8) = S + (ro_stc 3 r (y / 8) + y % 8) by omega]
    exact this
theorem ro_gx (post : Int32 → Prop) (f3 f4 f5 : Int32) (s n k j v x : Nat) (yl yo : Nat → Int64) (z : Int64) (h : ro_VC s n k) (hk : s = 0 ∨ s = 4 → f3 = nI k) (hj : j < ro_L s n k) (hv : v < 8) (hp : post (ro_bi (ro_ok s n k j (ro_stc s j x) v))) :
    wY_goesOn_19 post (nI j) (nI v) (nI s) (nI n) f3 f4 f5 yl yo (0 + 1) (nI (ro_stc 2 j x) - 1) (nI (v + ro_stc 3 j x)) (nI (ro_stc 0 j x) - 1) (ro_bi ((ro_stc 1 j x).testBit v)) z (nI j) := by
  have h14 := ro_L14 h
  have b0 := ro_b0 (j := j) (x := x)
  have b2 := ro_b2 j x
  have b3 := ro_b3 j x
  refine br_t (nI_le (Nat.le_refl _) (by omega)) ?_
  obtain ⟨h1, h7, hs⟩ := h
  rcases hs with ⟨rfl, hkn⟩ | ⟨rfl, hkn⟩ | ⟨rfl | rfl | rfl, rfl⟩
  · have hp' : post (ro_bi (decide (v < n) && decide (ro_stc 0 j x ≤ v))) := hp
    refine br_t (by decide : nI 0 = 0) ?_
    by_cases c : v < n
    · rw [decide_eq_true c, Bool.true_and] at hp'
      refine br_f (nI_ge c (by omega)) ?_
      by_cases c2 : ro_stc 0 j x ≤ v
      · rw [decide_eq_true c2] at hp'
        exact br_f (fun z => by have := (ro_lem1 (by omega) (by omega)).mp z; omega) hp'
      · rw [decide_eq_false c2] at hp'
        exact br_t ((ro_lem1 (by omega) (by omega)).mpr (by omega)) hp'
    · rw [decide_eq_false c] at hp'
      exact br_t (nI_le (by omega) (by omega)) hp'
  · have e3 := hk (Or.inr rfl)
    subst e3
    have hjk : j < k := hj
    have hp' : post (ro_bi (decide (ro_stc 4 j x + v ≤ n) && (decide (j + 1 < k) || decide (ro_stc 4 j x + v = n)))) := hp
    rw [ro_b43] at hp'
    refine br_f (by decide : ¬ nI 4 = 0) (br_f (by decide : ¬ nI 4 = 1) (br_f (by decide : ¬ nI 4 = 2) (br_t (by decide : nI 4 = 4) ?_)))
    by_cases c : ro_stc 3 j x + v ≤ n
    · rw [decide_eq_true c, Bool.true_and] at hp'
      refine br_f (nI_nlt (by omega) (by omega)) ?_
      have ek : nI k - 1 = nI (k - 1) := pk_sub (a := k) (b := 1) (by omega)
      by_cases c2 : j + 1 < k
      · rw [decide_eq_true c2, Bool.true_or] at hp'
        exact br_t (by rw [ek]; exact nI_lt (by omega) (by omega)) hp'
      · rw [decide_eq_false c2, Bool.false_or] at hp'
        refine br_f (by rw [ek]; exact nI_nlt (by omega) (by omega)) ?_
        by_cases c3 : ro_stc 3 j x + v = n
        · rw [decide_eq_true c3] at hp'
          exact br_t (by rw [Nat.add_comm, c3]) hp'
        · rw [decide_eq_false c3] at hp'
          exact br_f (by rw [nI_eq (by omega) (by omega)]; omega) hp'
    · rw [decide_eq_false c, Bool.false_and] at hp'
      exact br_t (nI_lt (by omega) (by omega)) hp'
  · have hp' : post (ro_bi (decide (v < n) && !((ro_stc 1 j x).testBit v))) := hp
    refine br_f (by decide : ¬ nI 1 = 0) (br_t (by decide : nI 1 = 1) ?_)
    by_cases c : v < n
    · rw [decide_eq_true c, Bool.true_and] at hp'
      refine br_f (nI_ge c (by omega)) ?_
      cases hb : (ro_stc 1 j x).testBit v
      · rw [hb] at hp'
        exact br_t (by decide : ro_bi false = 0) hp'
      · rw [hb] at hp'
        exact br_f (by decide : ¬ ro_bi true = 0) hp'
    · rw [decide_eq_false c, Bool.false_and] at hp'
      exact br_t (nI_le (by omega) (by omega)) hp'
  · have hp' : post (ro_bi (decide (v ≤ ro_stc 2 j x))) := hp
    refine br_f (by decide : ¬ nI 2 = 0) (br_f (by decide : ¬ nI 2 = 1) (br_t (by decide : nI 2 = 2) ?_))
    rw [Int32.sub_add_cancel]
    by_cases c : v ≤ ro_stc 2 j x
    · rw [decide_eq_true c] at hp'
      exact br_f (nI_nlt c (by omega)) hp'
    · rw [decide_eq_false c] at hp'
      exact br_t (nI_lt (by omega) (by omega)) hp'
  · have hp' : post (ro_bi (decide (v ≤ 1) && (decide (ro_stc 3 j x + v ≤ n) && decide (j + 1 ≤ 2 * (ro_stc 3 j x + v))))) := hp
    refine br_f (by decide : ¬ nI 3 = 0) (br_f (by decide : ¬ nI 3 = 1) (br_f (by decide : ¬ nI 3 = 2) (br_f (by decide : ¬ nI 3 = 4) ?_)))
    by_cases c : v ≤ 1
    · rw [decide_eq_true c, Bool.true_and] at hp'
      refine br_f (nI_nlt (a := 1) (b := v) c (by omega)) ?_
      by_cases c2 : ro_stc 3 j x + v ≤ n
      · rw [decide_eq_true c2, Bool.true_and] at hp'
        refine br_f (nI_nlt (by omega) (by omega)) ?_
        have e2 : 2 * nI (v + ro_stc 3 j x) = nI (2 * (v + ro_stc 3 j x)) := pk_mul 2 _
        rw [e2, nI_1 j]
        by_cases c3 : j + 1 ≤ 2 * (ro_stc 3 j x + v)
        · rw [decide_eq_true c3] at hp'
          exact br_f (nI_nlt (by omega) (by omega)) hp'
        · rw [decide_eq_false c3] at hp'
          exact br_t (nI_lt (by omega) (by omega)) hp'
      · rw [decide_eq_false c2, Bool.false_and] at hp'
        exact br_t (nI_lt (by omega) (by omega)) hp'
    · rw [decide_eq_false c, Bool.false_and] at hp'
      exact br_t (nI_lt (a := 1) (b := v) (by omega) (by omega)) hp'
theorem ro_goes (post : Int32 → Prop) (f3 f4 f5 : Int32) (s n k j v x : Nat) (yl yo : Nat → Int64) (h : ro_VC s n k) (hk : s = 0 ∨ s = 4 → f3 = nI k) (hj : j < ro_L s n k) (hv : v < 8) (hx : x < 2 ^ 63) (hp : post (ro_bi (ro_ok s n k j (ro_stc s j x) v))) :
    wpY_goesOn post (nI s, nI n, f3, f4, f5, yl, yo) (lN x) (nI j) (nI v) := by
  have h14 := ro_L14 h
  refine ⟨j + 1, ?_⟩
  cases j with
  | zero =>
    have := ro_gx post f3 f4 f5 s n k 0 v x yl yo (lN x) h hk hj hv hp
    rw [show ro_stc 1 0 x = 0 from rfl, Nat.zero_testBit] at this
    exact this
  | succ r =>
    refine br_f (nI_ge (a := 0) (by omega) (by omega)) (nm_r (ro_lN8 x hx) (br_t rfl ?_))
    refine ro_g43 post _ (nI (r + 1)) (nI (x % 8)) (nI s) (nI n) f3 f4 f5 yl yo v 0 v (x % 8) x 0 false hv (Nat.mod_lt _ (by decide)) (by omega) hx ?_
    refine ro_g19 post (nI (x % 8)) (nI s) (nI n) f3 f4 f5 yl yo v (r + 1) hv (by omega) r 1 (x / 8) (max 0 (x % 8 + 1)) (v + x % 8) (false || decide (x % 8 = v)) (by omega) (by omega) (by omega) (by omega) (fun z => ?_)
    have := ro_gx post f3 f4 f5 s n k (r + 1) v x yl yo z h hk hj hv hp
    rw [show ro_stc 2 (r + 1) x = max (ro_stc 2 r (x / 8)) (x % 8 + 1) from rfl, show ro_stc 3 (r + 1) x = ro_stc 3 r (x / 8) + x % 8 from rfl, show ro_stc 1 (r + 1) x = (ro_stc 1 r (x / 8) ||| 2 ^ (x % 8)) from rfl, show ro_stc 0 (r + 1) x = x % 8 + 1 from rfl, nI_pred] at this
    rw [show max (max 0 (x % 8 + 1)) (ro_stc 2 r (x / 8)) = max (ro_stc 2 r (x / 8)) (x % 8 + 1) by omega, show v + x % 8 + ro_stc 3 r (x / 8) = v + (ro_stc 3 r (x / 8) + x % 8) by omega, ← ro_tbor, Bool.false_or]
    exact this
