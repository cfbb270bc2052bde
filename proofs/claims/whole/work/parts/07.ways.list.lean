theorem ro_chw_list (post : Int32 → Prop) (f1 f4 f5 f6 : Int32) (n k j v : Nat) (d : Nat → Nat) (al ao : Nat → Int32) (hj : j ≤ 14) (hv : v < 8) (hd : ∀ i, i < j → d i < 8 ∧ al i = nI (d i)) (hp : post (ro_w0 n k j (ro_sd 0 d j) v)) : wpX_choiceWays__list post (f1, nI n, nI k, f4, f5, f6, ro_BA, ro_GA, al, ao) (nI j) (nI v) := by
  unfold ro_w0 at hp
  cases j with
  | zero =>
    rw [if_neg (show ¬ v < ro_sd 0 d 0 from Nat.not_lt_zero _)] at hp
    exact br_t (by decide : nI 0 ≤ 0) (ro_wpB _ _ _ _ _ _ _ _ _ _ _ hp)
  | succ i =>
    obtain ⟨h8, e⟩ := hd i (by omega)
    have h1 : ¬ nI (i + 1) ≤ 0 := nI_nle (by omega) (by omega)
    have hin : vp_in (nI (i + 1) - 1) 14 := by rw [nI_pred]; exact vp_in_nI (by omega) (by decide)
    have ec : (nI (i + 1) - 1).toNatClampNeg = i := by rw [nI_pred]; exact nI_clamp (by omega)
    by_cases c : d i < v
    · rw [if_neg (show ¬ v < ro_sd 0 d (i + 1) by show ¬ v < d i + 1; omega)] at hp
      have h2 : al (nI (i + 1) - 1).toNatClampNeg < nI v := by rw [ec, e]; exact nI_lt c (by omega)
      exact br_f h1 ⟨hin, br_t h2 (ro_wpB _ _ _ _ _ _ _ _ _ _ _ hp)⟩
    · rw [if_pos (show v < ro_sd 0 d (i + 1) by show v < d i + 1; omega)] at hp
      have h2 : ¬ al (nI (i + 1) - 1).toNatClampNeg < nI v := by rw [ec, e]; exact nI_nlt (by omega) (by omega)
      exact br_f h1 ⟨hin, br_f h2 hp⟩
theorem ro_fcw_list (post : Int32 → Prop) (f1 f3 f4 f5 f6 : Int32) (n j : Nat) (al ao : Nat → Int32) (hn : n ≤ 7) (hjn : j < n) (hp : post (nI (ro_fc (n - j - 1)))) : ∀ r f, 2 ≤ f → (f + r = n - j ∨ (f = 2 ∧ r = 0 ∧ n - j ≤ 2)) → wX_orderWays__list_41 post (nI j) f1 (nI n) f3 f4 f5 f6 ro_BA ro_GA al ao (r + 1) (nI (ro_fc (f - 1))) (nI f) := by
  intro r
  induction r with
  | zero =>
    intro f h2 h
    have hc : nI n - nI j ≤ nI f := by rw [pk_sub (by omega)]; exact nI_le (by omega) (by omega)
    have e : ro_fc (f - 1) = ro_fc (n - j - 1) := by
      rcases h with h | ⟨h, _, h'⟩
      · rw [← h]; rfl
      · subst h
        rcases (by omega : n - j = 1 ∨ n - j = 2) with c | c <;> rw [c] <;> rfl
    rw [e]
    exact br_t hc hp
  | succ r ih =>
    intro f h2 h
    have hc : ¬ nI n - nI j ≤ nI f := by rw [pk_sub (by omega)]; exact nI_ge (by omega) (by omega)
    exact br_f hc (nm_r (by rw [pk_mul, ro_fcS h2]) (nm_r (nI_1 f) (ih (f + 1) (by omega) (by omega))))
theorem ro_orw_list (post : Int32 → Prop) (f1 f3 f4 f5 f6 : Int32) (n k j v : Nat) (d : Nat → Nat) (al ao : Nat → Int32) (hn : n ≤ 7) (hjn : j < n) (hv : v < 8) (hd : ∀ i, i < j → d i < 8 ∧ al i = nI (d i)) (hp : post (nI (ro_wz 1 n k j (ro_sd 1 d j) v))) : wpX_orderWays__list post (f1, nI n, f3, f4, f5, f6, ro_BA, ro_GA, al, ao) (nI j) (nI v) := by
  have hz : ro_wz 1 n k j (ro_sd 1 d j) v = cond (decide (v < n) && !((ro_sd 1 d j).testBit v)) (ro_fc (n - (j + 1))) 0 := rfl
  rw [hz] at hp
  by_cases c : v < n
  · rw [decide_eq_true c, Bool.true_and] at hp
    have key : ∀ r i, i + r = j → (∀ i', i' < i → d i' ≠ v) → wX_orderWays__list_13 post (nI j) (nI v) f1 (nI n) f3 f4 f5 f6 ro_BA ro_GA al ao (r + 1) (nI i) := by
      intro r
      induction r with
      | zero =>
        intro i hi hno
        have e : i = j := by omega
        subst e
        have hb : (ro_sd 1 d i).testBit v = false := by
          cases hq : (ro_sd 1 d i).testBit v
          · rfl
          · obtain ⟨i', h1, h2⟩ := (ro_bit d v i).mp hq
            exact absurd h2 (hno i' h1)
        rw [hb] at hp
        have hp' : post (nI (ro_fc (n - i - 1))) := by rw [Nat.sub_sub]; exact hp
        refine br_t (nI_le (Nat.le_refl _) (by omega)) ?_
        rcases Nat.lt_or_ge (n - i) 3 with h3 | h3
        · exact ⟨1, ro_fcw_list post f1 f3 f4 f5 f6 n i al ao hn hjn hp' 0 2 (by omega) (Or.inr ⟨rfl, rfl, by omega⟩)⟩
        · exact ⟨n - i - 2 + 1, ro_fcw_list post f1 f3 f4 f5 f6 n i al ao hn hjn hp' (n - i - 2) 2 (by omega) (Or.inl (by omega))⟩
      | succ r ih =>
        intro i hi hno
        obtain ⟨h8, e⟩ := hd i (by omega)
        have hin : vp_in (nI i) 14 := vp_in_nI (by omega) (by decide)
        have ec : (nI i).toNatClampNeg = i := nI_clamp (by omega)
        by_cases c2 : d i = v
        · have hb : (ro_sd 1 d j).testBit v = true := (ro_bit d v j).mpr ⟨i, by omega, c2⟩
          rw [hb] at hp
          have h2 : al (nI i).toNatClampNeg = nI v := by rw [ec, e, c2]
          exact br_f (nI_ge (by omega) (by omega)) ⟨hin, br_t h2 hp⟩
        · have h2 : ¬ al (nI i).toNatClampNeg = nI v := by rw [ec, e, nI_eq (by omega) (by omega)]; exact c2
          refine br_f (nI_ge (by omega) (by omega)) ⟨hin, br_f h2 (nm_r (nI_1 i) (ih (i + 1) (by omega) (fun i' h' => ?_)))⟩
          rcases Nat.lt_or_ge i' i with c3 | c3
          · exact hno i' c3
          · have : i' = i := by omega
            subst this; exact c2
    exact br_t (nI_lt c (by omega)) ⟨j + 1, key j 0 (by omega) (fun i' h' => by omega)⟩
  · rw [decide_eq_false c] at hp
    exact br_f (nI_nlt (by omega) (by omega)) hp
theorem ro_grw_list (post : Int32 → Prop) (f1 f3 f4 f5 f6 : Int32) (n j v : Nat) (d : Nat → Nat) (al ao : Nat → Int32) (hj : j ≤ 14) (hv : v < 8) (hd : ∀ i, i < j → d i < 8 ∧ al i = nI (d i)) (hp : post (ro_w2 n j (ro_sd 2 d j) v)) : wpX_groupingWays__list post (f1, nI n, f3, f4, f5, f6, ro_BA, ro_GA, al, ao) (nI j) (nI v) := by
  have hb : ∀ i, i ≤ j → ro_sd 2 d i ≤ 8 := by
    intro i
    induction i with
    | zero => intro _; exact Nat.zero_le _
    | succ i ih =>
      intro h
      have := ih (by omega)
      have := (hd i (by omega)).1
      show max (ro_sd 2 d i) (d i + 1) ≤ 8
      omega
  have key : ∀ r i x4, i + r = j → x4 = nI (ro_sd 2 d i) - 1 → wX_groupingWays__list_6 post (nI j) (nI v) f1 (nI n) f3 f4 f5 f6 ro_BA ro_GA al ao (r + 1) x4 (nI i) := by
    intro r
    induction r with
    | zero =>
      intro i x4 hi hx
      have e : i = j := by omega
      subst e; subst hx
      unfold ro_w2 at hp
      refine br_t (nI_le (Nat.le_refl _) (by omega)) ?_
      by_cases c1 : nI v ≤ (nI (ro_sd 2 d i) - 1) + 1
      · rw [if_pos c1] at hp
        by_cases c2 : nI v ≤ nI (ro_sd 2 d i) - 1
        · rw [if_pos c2] at hp
          exact br_t c1 (br_t c2 (ro_wpG _ _ _ _ _ _ _ _ _ _ _ hp))
        · rw [if_neg c2] at hp
          exact br_t c1 (br_f c2 (ro_wpG _ _ _ _ _ _ _ _ _ _ _ hp))
      · rw [if_neg c1] at hp
        exact br_f c1 hp
    | succ r ih =>
      intro i x4 hi hx
      subst hx
      obtain ⟨h8, e⟩ := hd i (by omega)
      have hin : vp_in (nI i) 14 := vp_in_nI (by omega) (by decide)
      have ec : (nI i).toNatClampNeg = i := nI_clamp (by omega)
      have hg := hb i (by omega)
      have es : ro_sd 2 d (i + 1) = max (ro_sd 2 d i) (d i + 1) := rfl
      refine br_f (nI_ge (by omega) (by omega)) ⟨hin, ?_⟩
      by_cases c : d i + 1 ≤ ro_sd 2 d i
      · have h2 : al (nI i).toNatClampNeg ≤ nI (ro_sd 2 d i) - 1 := by rw [ec, e]; exact (ro_lem1 (by omega) (by omega)).mpr c
        exact br_t h2 (nm_r (nI_1 i) (ih (i + 1) _ (by omega) (by rw [es, Nat.max_eq_left c])))
      · have h2 : ¬ al (nI i).toNatClampNeg ≤ nI (ro_sd 2 d i) - 1 := by rw [ec, e]; exact fun z => c ((ro_lem1 (by omega) (by omega)).mp z)
        refine br_f h2 ⟨hin, nm_e (nm_r (nI_1 i) (ih (i + 1) _ (by omega) ?_))⟩
        rw [ec, e, es, Nat.max_eq_right (by omega), nI_pred]
  exact ⟨j + 1, key j 0 (-1) (by omega) (by rfl)⟩
theorem ro_nsw_list (post : Int32 → Prop) (f1 f3 f5 f6 : Int32) (n j v : Nat) (d : Nat → Nat) (al ao : Nat → Int32) (hj : j ≤ 14) (hv : v < 8) (hd : ∀ i, i < j → d i ≤ 1 ∧ al i = nI (d i)) (hp : v < 2 → post (ro_w3 n j (ro_sd 3 d j) v)) (hq : 2 ≤ v → post 0) : wpX_nestingWays__list post (f1, nI n, f3, nI (2 * n), f5, f6, ro_BA, ro_GA, al, ao) (nI j) (nI v) := by
  have key : v < 2 → ∀ r i x4, i + r = j → x4 = nI (2 * (v + ro_sd 3 d i)) - nI (i + 1) → wX_nestingWays__list_22 post (nI j) f1 (nI n) f3 (nI (2 * n)) f5 f6 ro_BA ro_GA al ao (r + 1) x4 (nI i) := by
    intro hv2
    have hp := hp hv2
    intro r
    induction r with
    | zero =>
      intro i x4 hi hx
      have e : i = j := by omega
      subst e; subst hx
      unfold ro_w3 at hp
      refine br_t (nI_le (Nat.le_refl _) (by omega)) (nm_e ?_)
      by_cases c1 : nI (2 * (v + ro_sd 3 d i)) - nI (i + 1) < 0
      · rw [if_pos c1] at hp
        exact br_t c1 hp
      · rw [if_neg c1] at hp
        by_cases c2 : nI (2 * (v + ro_sd 3 d i)) - nI (i + 1) ≤ (nI (2 * n) - 1) - nI i
        · rw [if_pos c2] at hp
          exact br_f c1 (br_t c2 ⟨by decide, nm_e (ro_wpB _ _ _ _ _ _ _ _ _ _ _ (ro_wpB _ _ _ _ _ _ _ _ _ _ _ hp))⟩)
        · rw [if_neg c2] at hp
          exact br_f c1 (br_f c2 hp)
    | succ r ih =>
      intro i x4 hi hx
      subst hx
      obtain ⟨h8, e⟩ := hd i (by omega)
      have hin : vp_in (nI i) 14 := vp_in_nI (by omega) (by decide)
      have ec : (nI i).toNatClampNeg = i := nI_clamp (by omega)
      have es : ro_sd 3 d (i + 1) = ro_sd 3 d i + d i := rfl
      refine br_f (nI_ge (by omega) (by omega)) ⟨hin, ?_⟩
      by_cases c : d i = 1
      · have h2 : al (nI i).toNatClampNeg = 1 := by rw [ec, e, c]; rfl
        refine br_t h2 (nm_e (nm_r (nI_1 i) (ih (i + 1) _ (by omega) ?_)))
        rw [es, c, show 2 * (v + (ro_sd 3 d i + 1)) = 2 * (v + ro_sd 3 d i) + 1 + 1 by omega, ← nI_1 (2 * (v + ro_sd 3 d i) + 1), ← nI_1 (2 * (v + ro_sd 3 d i)), ← nI_1 (i + 1)]
        grind
      · have c0 : d i = 0 := by omega
        have h2 : ¬ al (nI i).toNatClampNeg = 1 := by rw [ec, e, c0]; decide
        refine br_f h2 (nm_e (nm_r (nI_1 i) (ih (i + 1) _ (by omega) ?_)))
        rw [es, c0, Nat.add_zero, ← nI_1 (i + 1)]
        grind
  rcases (by omega : v = 0 ∨ v = 1 ∨ 2 ≤ v) with c | c | c
  · subst c
    exact br_t (by decide : nI 0 ≤ 1) (br_f (by decide : ¬ nI 0 = 1) ⟨j + 1, key (by omega) j 0 (-1) (by omega) (by rfl)⟩)
  · subst c
    exact br_t (by decide : nI 1 ≤ 1) (br_t (by decide : nI 1 = 1) ⟨j + 1, key (by omega) j 0 1 (by omega) (by show (1 : Int32) = nI (2 * (1 + 0)) - nI (0 + 1); decide)⟩)
  · exact br_f (nI_ge (a := 1) (b := v) (by omega) (by omega)) (hq c)
theorem ro_ptw_list (post : Int32 → Prop) (f1 f4 f5 f6 : Int32) (n k j v : Nat) (d : Nat → Nat) (al ao : Nat → Int32) (hj : j ≤ 14) (hv : v < 8) (hd : ∀ i, i < j → d i < 8 ∧ al i = nI (d i)) (hp : post (ro_w4 n k j (ro_sd 4 d j) v)) : wpX_partWays__list post (f1, nI n, nI k, f4, f5, f6, ro_BA, ro_GA, al, ao) (nI j) (nI v) := by
  have key : ∀ r i x4, i + r = j → x4 = (nI n - nI v) - nI (ro_sd 4 d i) → wX_partWays__list_11 post (nI j) f1 (nI n) (nI k) f4 f5 f6 ro_BA ro_GA al ao (r + 1) x4 (nI i) := by
    intro r
    induction r with
    | zero =>
      intro i x4 hi hx
      have e : i = j := by omega
      subst e; subst hx
      unfold ro_w4 at hp
      refine br_t (nI_le (Nat.le_refl _) (by omega)) (nm_e ?_)
      by_cases c1 : (nI k - 1) - nI i = 0
      · rw [if_pos c1] at hp
        by_cases c2 : (nI n - nI v) - nI (ro_sd 4 d i) = 0
        · rw [if_pos c2] at hp
          exact br_t c1 (br_t c2 hp)
        · rw [if_neg c2] at hp
          exact br_t c1 (br_f c2 hp)
      · rw [if_neg c1] at hp
        by_cases c2 : 0 ≤ (nI n - nI v) - nI (ro_sd 4 d i)
        · rw [if_pos c2] at hp
          exact br_f c1 (br_t c2 (ro_wpB _ _ _ _ _ _ _ _ _ _ _ hp))
        · rw [if_neg c2] at hp
          exact br_f c1 (br_f c2 hp)
    | succ r ih =>
      intro i x4 hi hx
      subst hx
      obtain ⟨h8, e⟩ := hd i (by omega)
      have hin : vp_in (nI i) 14 := vp_in_nI (by omega) (by decide)
      have ec : (nI i).toNatClampNeg = i := nI_clamp (by omega)
      have es : ro_sd 4 d (i + 1) = ro_sd 4 d i + d i := rfl
      refine br_f (nI_ge (by omega) (by omega)) ⟨hin, nm_e (nm_r (nI_1 i) (ih (i + 1) _ (by omega) ?_))⟩
      rw [ec, e, es, ← nI_add]
      grind
  refine nm_e ⟨j + 1, key j 0 _ (by omega) ?_⟩
  show nI n - nI v = nI n - nI v - nI 0
  rw [nI_0, Int32.sub_zero]
theorem ro_ways_list (post : Int32 → Prop) (f3 f5 f6 : Int32) (s n k j v : Nat) (d : Nat → Nat) (al ao : Nat → Int32) (h : ro_VC s n k) (hne : ¬ (s = 4 ∧ k = 0)) (hk : s = 0 ∨ s = 4 → f3 = nI k) (hj : j < ro_L s n k) (hv : v < 8) (ho : ro_OK s n k d j) (hd : ∀ i, i < j → al i = nI (d i)) (hp : post (nI (ro_wy s n k j (ro_sd s d j) v))) : wpX_waysWith__list post (nI s, nI n, f3, nI (ro_L s n k), f5, f6, ro_BA, ro_GA, al, ao) (nI j) (nI v) := by
  have hr := ro_sdR h hne j (Nat.le_of_lt hj) ho
  have h14 := ro_L14 h
  rw [ro_wyz h hne hj hr hv] at hp
  have hd' : ∀ i, i < j → d i < 8 ∧ al i = nI (d i) := fun i hi => ⟨(ho i hi).1, hd i hi⟩
  have h' := h
  obtain ⟨h1, h7, hs⟩ := h'
  rcases hs with ⟨rfl, hkn⟩ | ⟨rfl, hkn⟩ | ⟨rfl | rfl | rfl, rfl⟩
  · have e3 := hk (Or.inl rfl)
    subst e3
    rw [← ro_e0 h hj hr hv] at hp
    exact br_f (by decide : ¬ nI 0 < 0) (br_f (by decide : ¬ 3 < nI 0) (br_t (by decide : nI 0 = 0) (ro_chw_list _ _ _ _ _ n k j v d al ao (by omega) hv hd' hp)))
  · have e3 := hk (Or.inr rfl)
    subst e3
    rw [← ro_e4 h hj hr hv] at hp
    exact br_f (by decide : ¬ nI 4 < 0) (br_t (by decide : 3 < nI 4) (ro_ptw_list _ _ _ _ _ n k j v d al ao (by omega) hv hd' hp))
  · have hj' : j < n := hj
    exact br_f (by decide : ¬ nI 1 < 0) (br_f (by decide : ¬ 3 < nI 1) (br_f (by decide : ¬ nI 1 = 0) (br_t (by decide : nI 1 = 1) (ro_orw_list _ _ _ _ _ _ n 0 j v d al ao h7 hj' hv hd' hp))))
  · rw [← ro_e2 h hj hr hv] at hp
    exact br_f (by decide : ¬ nI 2 < 0) (br_f (by decide : ¬ 3 < nI 2) (br_f (by decide : ¬ nI 2 = 0) (br_f (by decide : ¬ nI 2 = 1) (br_t (by decide : nI 2 = 2) (ro_grw_list _ _ _ _ _ _ n j v d al ao (by omega) hv hd' hp)))))
  · have hd1 : ∀ i, i < j → d i ≤ 1 ∧ al i = nI (d i) := by
      intro i hi
      refine ⟨?_, hd i hi⟩
      have := (ho i hi).2
      have t : (decide (d i ≤ 1) && (decide (ro_sd 3 d i + d i ≤ n) && decide (i + 1 ≤ 2 * (ro_sd 3 d i + d i)))) = true := this
      rw [Bool.and_eq_true] at t
      exact of_decide_eq_true t.1
    refine br_f (by decide : ¬ nI 3 < 0) (br_f (by decide : ¬ 3 < nI 3) (br_f (by decide : ¬ nI 3 = 0) (br_f (by decide : ¬ nI 3 = 1) (br_f (by decide : ¬ nI 3 = 2) (br_t (by decide : nI 3 = 3) (ro_nsw_list _ _ _ _ _ n j v d al ao (by omega) hv hd1 ?_ ?_))))))
    · intro hv2
      rw [← ro_e3 h hj hr hv2] at hp
      exact hp
    · intro hv2
      have z : ro_wz 3 n 0 j (ro_sd 3 d j) v = 0 := by
        show cond (decide (v ≤ 1) && _) _ 0 = 0
        rw [decide_eq_false (by omega)]; rfl
      rw [z] at hp
      exact hp
