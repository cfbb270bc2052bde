theorem ro_wo28_other (post : SX → Prop) (J : Int32 → Int32 → (Nat → Int32) → (Nat → Int32) → (Nat → Int32) → (Nat → Int32) → Prop) (f3 f5 f6 : Int32) (s n k j num : Nat) (al ao : Nat → Int32) (h : ro_VC s n k) (hne : ¬ (s = 4 ∧ k = 0)) (hk : s = 0 ∨ s = 4 → f3 = nI k) (hj : j < ro_L s n k) (hnum : num < ro_m s n k) (hd : ∀ i, i < j → ao i = nI (ro_dg (ro_L s n k) (ro_ob s n k num) i))
    (hJ : J (nI (num - ro_rk s n k (ro_L s n k - j - 1) (8 * ro_pk (ro_dg (ro_L s n k) (ro_ob s n k num)) j + ro_dg (ro_L s n k) (ro_ob s n k num) j))) (nI (j + 1)) ro_BA ro_GA al (upd ao j (nI (ro_dg (ro_L s n k) (ro_ob s n k num) j)))) :
    ∀ r v, v + r = ro_dg (ro_L s n k) (ro_ob s n k num) j → wX_writeObject__other_28 post J (nI j) (nI s) (nI n) f3 (nI (ro_L s n k)) f5 f6 ro_BA ro_GA al ao (r + 1) (nI (num - ro_rk s n k (ro_L s n k - j - 1) (8 * ro_pk (ro_dg (ro_L s n k) (ro_ob s n k num)) j + v))) (nI v) (nI (ro_wy s n k j (ro_sd s (ro_dg (ro_L s n k) (ro_ob s n k num)) j) v)) := by
  have hOK := ro_OKob hne hnum
  have hx := ro_Mlt _ _ _ _ _ (ro_obM hne hnum)
  have hpk : 8 * ro_pk (ro_dg (ro_L s n k) (ro_ob s n k num)) j + ro_dg (ro_L s n k) (ro_ob s n k num) j = ro_ob s n k num / 8 ^ (ro_L s n k - j - 1) := ro_pkdg hx (j + 1) hj
  have h8 : ro_dg (ro_L s n k) (ro_ob s n k num) j < 8 := ro_dg8 _ _ _
  have h7 := h.2.1
  have h14 := ro_L14 h
  have hcap := ro_capm h
  have hdn : ro_dg (ro_L s n k) (ro_ob s n k num) j ≤ n := (ro_st1T h hne hj (ro_sdR h hne j (Nat.le_of_lt hj) (fun i hi => hOK i (by omega)))).2.2.2 _ h8 (hOK j hj).2
  have hOKj : ro_OK s n k (ro_dg (ro_L s n k) (ro_ob s n k num)) j := fun i hi => hOK i (by omega)
  have hA := fun t => ro_rkA (s := s) (n := n) (k := k) hne (ro_L s n k - j - 1) t hnum
  have hB := fun v (hv : v < 8) => ro_wyN hne hj hOKj hv
  have hin : vp_in (nI j) 14 := vp_in_nI (by omega) (by decide)
  have ec : (nI j).toNatClampNeg = j := nI_clamp (by omega)
  rw [← hpk] at hA
  generalize ro_dg (ro_L s n k) (ro_ob s n k num) = d at *
  intro r
  induction r with
  | zero =>
    intro v hv
    have e : v = d j := by omega
    have hJ' : J (nI (num - ro_rk s n k (ro_L s n k - j - 1) (8 * ro_pk d j + v))) (nI (j + 1)) ro_BA ro_GA al (upd ao (nI j).toNatClampNeg (nI v)) := by rw [ec, e]; exact hJ
    rcases Nat.lt_or_ge v n with c | c
    · refine br_f (nI_ge c (by omega)) (br_t ?_ ⟨hin, nm_e (nm_r (nI_1 j) hJ')⟩)
      have h1 := hB v (by omega)
      have h2 := ro_rkB s n k (ro_L s n k - j - 1) (8 * ro_pk d j + v)
      have h3 : ¬ ro_rk s n k (ro_L s n k - j - 1) (8 * ro_pk d j + v + 1) ≤ num := fun z => by have := (hA _).mp z; omega
      have h4 := (hA (8 * ro_pk d j + v)).mpr (by omega)
      have h5 := ro_rkm s n k (ro_L s n k - j - 1) (8 * ro_pk d j + v + 1)
      rw [h1]
      exact nI_lt (by omega) (by omega)
    · exact br_t (nI_le c (by omega)) ⟨hin, nm_e (nm_r (nI_1 j) hJ')⟩
  | succ r ih =>
    intro v hv
    have h1 := hB v (by omega)
    have h2 := ro_rkB s n k (ro_L s n k - j - 1) (8 * ro_pk d j + v)
    have h3 := (hA (8 * ro_pk d j + v + 1)).mpr (by omega)
    have h5 := ro_rkm s n k (ro_L s n k - j - 1) (8 * ro_pk d j + v + 1)
    refine br_f (nI_ge (by omega) (by omega)) (br_f ?_ (nm_r (e' := nI (num - ro_rk s n k (ro_L s n k - j - 1) (8 * ro_pk d j + (v + 1)))) ?_ (nm_r (nI_1 v) ?_)))
    · rw [h1]
      exact nI_nlt (by omega) (by omega)
    · rw [h1, pk_sub (by omega)]
      exact congrArg nI (by rw [← Nat.add_assoc]; omega)
    · exact ro_ways_other _ f3 f5 f6 s n k j (v + 1) d al ao h hne hk hj (by omega) hOKj hd (ih (v + 1) (by omega))
theorem ro_wo5_other (post : SX → Prop) (f3 f5 f6 : Int32) (s n k num : Nat) (h : ro_VC s n k) (hne : ¬ (s = 4 ∧ k = 0)) (hk : s = 0 ∨ s = 4 → f3 = nI k) (hnum : num < ro_m s n k) (al : Nat → Int32) (hp : ∀ ao : Nat → Int32, (∀ i, i < ro_L s n k → ao i = nI (ro_dg (ro_L s n k) (ro_ob s n k num) i)) → post (nI s, nI n, f3, nI (ro_L s n k), f5, f6, ro_BA, ro_GA, al, ao)) :
    ∀ r j (ao : Nat → Int32), j + r = ro_L s n k → (∀ i, i < j → ao i = nI (ro_dg (ro_L s n k) (ro_ob s n k num) i)) → wX_writeObject__other_5 post (nI s) (nI n) f3 (nI (ro_L s n k)) f5 f6 (r + 1) (nI (num - ro_rk s n k (ro_L s n k - j) (ro_pk (ro_dg (ro_L s n k) (ro_ob s n k num)) j))) (nI j) ro_BA ro_GA al ao := by
  have h14 := ro_L14 h
  intro r
  induction r with
  | zero =>
    intro j ao hj hd
    exact br_t (nI_le (by omega) (by omega)) (hp ao (fun i hi => hd i (by omega)))
  | succ r ih =>
    intro j ao hj hd
    have hOK := ro_OKob hne hnum
    refine br_f (nI_ge (by omega) (by omega)) ?_
    refine ro_ways_other _ f3 f5 f6 s n k j 0 (ro_dg (ro_L s n k) (ro_ob s n k num)) al ao h hne hk (by omega) (by omega) (fun i hi => hOK i (by omega)) hd ?_
    refine ⟨ro_dg (ro_L s n k) (ro_ob s n k num) j + 1, ?_⟩
    have e1 : ro_L s n k - j = (ro_L s n k - j - 1) + 1 := by omega
    rw [e1, ← ro_rkC]
    refine ro_wo28_other post _ f3 f5 f6 s n k j num al ao h hne hk (by omega) hnum hd ?_ _ 0 (Nat.zero_add _)
    have e2 : ro_L s n k - j - 1 = ro_L s n k - (j + 1) := by omega
    rw [e2]
    refine ih (j + 1) _ (by omega) (fun i hi => ?_)
    rcases Nat.lt_or_ge i j with c | c
    · rw [pk_un (by omega)]; exact hd i c
    · have : i = j := by omega
      subst this; exact pk_us
theorem ro_wo_other (post : SX → Prop) (f3 f5 f6 : Int32) (s n k num : Nat) (al ao : Nat → Int32) (h : ro_VC s n k) (hk : s = 0 ∨ s = 4 → f3 = nI k) (hnum : num < ro_m s n k ∨ ro_L s n k = 0) (hp : ∀ ao : Nat → Int32, (∀ i, i < ro_L s n k → ao i = nI (ro_dg (ro_L s n k) (ro_ob s n k num) i)) → post (nI s, nI n, f3, nI (ro_L s n k), f5, f6, ro_BA, ro_GA, al, ao)) : wpX_writeObject__other post (nI s, nI n, f3, nI (ro_L s n k), f5, f6, ro_BA, ro_GA, al, ao) (nI num) := by
  rcases Nat.eq_zero_or_pos (ro_L s n k) with hz | hz
  · refine ⟨1, br_t ?_ (hp ao (fun i hi => by omega))⟩
    rw [hz]; decide
  · have hne : ¬ (s = 4 ∧ k = 0) := by
      rintro ⟨rfl, rfl⟩
      exact absurd (show (0 : Nat) < 0 from hz) (Nat.lt_irrefl 0)
    refine ⟨ro_L s n k + 1, ?_⟩
    have := ro_wo5_other post f3 f5 f6 s n k num h hne hk (by omega) al hp (ro_L s n k) 0 ao (by omega) (fun i hi => by omega)
    have e : num - ro_rk s n k (ro_L s n k - 0) (ro_pk (ro_dg (ro_L s n k) (ro_ob s n k num)) 0) = num := by
      show num - ro_rk s n k (ro_L s n k - 0) 0 = num
      rw [ro_rk0]; rfl
    rw [e] at this
    exact this
theorem ro_fw14_other (post : Int32 → Prop) (J : Int32 → Int32 → Prop) (x2 f3 f5 f6 : Int32) (s n k j : Nat) (d : Nat → Nat) (al ao : Nat → Int32) (h : ro_VC s n k) (hne : ¬ (s = 4 ∧ k = 0)) (hk : s = 0 ∨ s = 4 → f3 = nI k) (hj : j < ro_L s n k) (ho : ro_OK s n k d (j + 1)) (hd : ∀ i, i < j + 1 → ao i = nI (d i))
    (hJ : J (nI (ro_rk s n k (ro_L s n k - j - 1) (8 * ro_pk d j + d j))) (nI (j + 1))) :
    ∀ r v, v + r = d j → wX_firstWith__other_14 post J x2 (nI j) (nI s) (nI n) f3 (nI (ro_L s n k)) f5 f6 ro_BA ro_GA al ao (r + 1) (nI (ro_rk s n k (ro_L s n k - j - 1) (8 * ro_pk d j + v))) (nI v) := by
  have h14 := ro_L14 h
  have hin : vp_in (nI j) 14 := vp_in_nI (by omega) (by decide)
  have ec : (nI j).toNatClampNeg = j := nI_clamp (by omega)
  have h8 := (ho j (by omega)).1
  have ed : ao (nI j).toNatClampNeg = nI (d j) := by rw [ec]; exact hd j (by omega)
  intro r
  induction r with
  | zero =>
    intro v hv
    have e : v = d j := by omega
    subst e
    refine ⟨hin, br_t ?_ (nm_r (nI_1 j) hJ)⟩
    rw [ed]; exact nI_le (Nat.le_refl _) (by omega)
  | succ r ih =>
    intro v hv
    refine ⟨hin, br_f ?_ ?_⟩
    · rw [ed]; exact nI_ge (by omega) (by omega)
    · refine ro_ways_other _ f3 f5 f6 s n k j v d al ao h hne hk hj (by omega) (fun i hi => ho i (by omega)) (fun i hi => hd i (by omega)) ?_
      refine nm_r (e' := nI (ro_rk s n k (ro_L s n k - j - 1) (8 * ro_pk d j + (v + 1)))) ?_ (nm_r (nI_1 v) (ih (v + 1) (by omega)))
      rw [nI_add, ← Nat.add_assoc, ro_rkB, ro_wyN hne hj (fun i hi => ho i (by omega)) (by omega)]
theorem ro_fw5_other (post : Int32 → Prop) (f3 f5 f6 : Int32) (s n k p : Nat) (d : Nat → Nat) (al ao : Nat → Int32) (h : ro_VC s n k) (hne : ¬ (s = 4 ∧ k = 0)) (hk : s = 0 ∨ s = 4 → f3 = nI k) (hpL : p < ro_L s n k) (ho : ro_OK s n k d (p + 1)) (hd : ∀ i, i < p + 1 → ao i = nI (d i)) (hp : post (nI (ro_rk s n k (ro_L s n k - (p + 1)) (ro_pk d (p + 1))))) :
    ∀ r j, j + r = p + 1 → wX_firstWith__other_5 post (nI p) (nI s) (nI n) f3 (nI (ro_L s n k)) f5 f6 ro_BA ro_GA al ao (r + 1) (nI (ro_rk s n k (ro_L s n k - j) (ro_pk d j))) (nI j) := by
  have h14 := ro_L14 h
  intro r
  induction r with
  | zero =>
    intro j hj
    have e : j = p + 1 := by omega
    subst e
    exact br_t (nI_lt (by omega) (by omega)) hp
  | succ r ih =>
    intro j hj
    refine br_f (nI_nlt (by omega) (by omega)) ⟨d j + 1, ?_⟩
    have e1 : ro_L s n k - j = (ro_L s n k - j - 1) + 1 := by omega
    rw [e1, ← ro_rkC]
    refine ro_fw14_other post _ (nI p) f3 f5 f6 s n k j d al ao h hne hk (by omega) (fun i hi => ho i (by omega)) (fun i hi => hd i (by omega)) ?_ _ 0 (Nat.zero_add _)
    have e2 : ro_L s n k - j - 1 = ro_L s n k - (j + 1) := by omega
    rw [e2]
    exact ih (j + 1) (by omega)
theorem ro_fw_other (post : Int32 → Prop) (f3 f5 f6 : Int32) (s n k p : Nat) (d : Nat → Nat) (al ao : Nat → Int32) (h : ro_VC s n k) (hne : ¬ (s = 4 ∧ k = 0)) (hk : s = 0 ∨ s = 4 → f3 = nI k) (hpL : p < ro_L s n k) (ho : ro_OK s n k d (p + 1)) (hd : ∀ i, i < p + 1 → ao i = nI (d i)) (hp : post (nI (ro_rk s n k (ro_L s n k - (p + 1)) (ro_pk d (p + 1))))) : wpX_firstWith__other post (nI s, nI n, f3, nI (ro_L s n k), f5, f6, ro_BA, ro_GA, al, ao) (nI p) := by
  refine ⟨p + 1 + 1, ?_⟩
  have := ro_fw5_other post f3 f5 f6 s n k p d al ao h hne hk hpL ho hd hp (p + 1) 0 (by omega)
  rw [show ro_pk d 0 = 0 from rfl, ro_rk0] at this
  exact this
