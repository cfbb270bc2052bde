theorem ro_has0 (post : Int32 → Prop) (f1 f2 f3 f6 : Int32) (L m : Nat) (aB aG al ao : Nat → Int32) (v1 : Int32) (hm : m < 2 ^ 31) (hb : m = 0 ∨ v1 < 0 ∨ nI L ≤ v1) (hp : post 0) : wpX_hasItem post (f1, f2, f3, nI L, nI m, f6, aB, aG, al, ao) v1 := by
  by_cases c1 : nI m ≤ 0
  · exact br_t c1 hp
  by_cases c2 : v1 < 0
  · exact br_f c1 (br_t c2 hp)
  have c3 : nI L ≤ v1 := by
    rcases hb with z | z | z
    · subst z; exact absurd (by decide) c1
    · exact absurd z c2
    · exact z
  exact br_f c1 (br_f c2 (br_t c3 hp))
theorem ro_has1 (post : Int32 → Prop) (f1 f2 f3 f6 : Int32) (L m j : Nat) (aB aG al ao : Nat → Int32) (hm : m < 2 ^ 31) (hL : L < 2 ^ 31) (h0 : 0 < m) (hj : j < L) (hp : post 1) : wpX_hasItem post (f1, f2, f3, nI L, nI m, f6, aB, aG, al, ao) (nI j) :=
  br_f (nI_nle h0 hm) (br_f (nI_pos (by omega)) (br_f (nI_ge hj hL) hp))
theorem ro_split (v1 : Int32) (L m : Nat) (hL : L < 2 ^ 31) : (m = 0 ∨ v1 < 0 ∨ nI L ≤ v1) ∨ (0 < m ∧ ∃ j, j < L ∧ v1 = nI j) := by
  rcases Nat.eq_zero_or_pos m with z | z
  · exact Or.inl (Or.inl z)
  by_cases c1 : v1 < 0
  · exact Or.inl (Or.inr (Or.inl c1))
  by_cases c2 : nI L ≤ v1
  · exact Or.inl (Or.inr (Or.inr c2))
  obtain ⟨j, hj, rfl⟩ := nI_of c1
  refine Or.inr ⟨z, j, ?_, rfl⟩
  rcases Nat.lt_or_ge j L with d | d
  · exact d
  · exact absurd (nI_le d hj) c2
theorem ro_lis0 (post : Int32 → Prop) (f1 f2 f3 f4 f6 : Int32) (m : Nat) (aB aG al ao : Nat → Int32) (v1 : Int32) (hb : v1 < 0 ∨ nI m ≤ v1) (hp : post 0) : wpX_isListed post (f1, f2, f3, f4, nI m, f6, aB, aG, al, ao) v1 := by
  by_cases c1 : v1 < 0
  · exact br_t c1 hp
  have c2 : nI m ≤ v1 := by
    rcases hb with z | z
    · exact absurd z c1
    · exact z
  exact br_f c1 (br_t c2 hp)
theorem ro_lis1 (post : Int32 → Prop) (f1 f2 f3 f4 f6 : Int32) (m j : Nat) (aB aG al ao : Nat → Int32) (v1 : Int32) (he : v1 = nI j) (hm : m < 2 ^ 31) (hj : j < m) (hp : post 1) : wpX_isListed post (f1, f2, f3, f4, nI m, f6, aB, aG, al, ao) v1 := by
  subst he
  exact br_f (nI_pos (by omega)) (br_f (nI_ge hj hm) hp)
theorem ro_split2 (v1 : Int32) (m : Nat) : (v1 < 0 ∨ nI m ≤ v1) ∨ (∃ j, j < m ∧ v1 = nI j) := by
  by_cases c1 : v1 < 0
  · exact Or.inl (Or.inl c1)
  by_cases c2 : nI m ≤ v1
  · exact Or.inl (Or.inr c2)
  obtain ⟨j, hj, rfl⟩ := nI_of c1
  refine Or.inr ⟨j, ?_, rfl⟩
  rcases Nat.lt_or_ge j m with d | d
  · exact d
  · exact absurd (nI_le d hj) c2
theorem i_vc_count {k : Nat} {u : SX} {v : SY} (I : i_Rel k u v) (hk : k + 4 ≤ 2048) : wpX_count (fun r => wpY_count (fun r' => r' = r ∧ i_Rel (k + 4) u v) v) u := by
  have I' := I
  obtain ⟨s, n, c, cur, f3, al, ao, yl, yo, hv, hf, hc, ha, hl, rfl, rfl⟩ := I'
  exact ⟨rfl, I⟩
theorem i_vc_number {k : Nat} {u : SX} {v : SY} (I : i_Rel k u v) (hk : k + 4 ≤ 2048) : wpX_number (fun r => wpY_number (fun r' => r' = r ∧ i_Rel (k + 4) u v) v) u := by
  have I' := I
  obtain ⟨s, n, c, cur, f3, al, ao, yl, yo, hv, hf, hc, ha, hl, rfl, rfl⟩ := I'
  exact br_c (fun z => br_t z ⟨rfl, I⟩) (fun z => br_f z ⟨rfl, I⟩)
/-- Y's guard of item, firstLike and like fails -/
theorem ro_Ybad {A : Prop} (f3 f4 : Int32) (s n c : Nat) (yl yo : Nat → Int64) (P : Prop) (v1 : Int32) (hv : ro_VC s n c) (hf : s = 0 ∨ s = 4 → f3 = nI c) (hb : ro_m s n c = 0 ∨ v1 < 0 ∨ nI (ro_L s n c) ≤ v1) (hp : P) :
    ((nI (ro_m s n c) = 0 → P) ∧ (¬ nI (ro_m s n c) = 0 → ((v1 < 0 → P) ∧ (¬ v1 < 0 → wpY_length (fun r_3 => (v1 < r_3 → A) ∧ (¬ v1 < r_3 → P)) (nI s, nI n, f3, f4, nI (ro_m s n c), yl, yo))))) := by
  refine br_c (fun _ => hp) (fun z1 => br_c (fun _ => hp) (fun z2 => ?_))
  refine ro_lenY _ f3 _ _ s n c yl yo hv hf ?_
  rcases hb with z | z | z
  · rw [z] at z1; exact absurd (by decide) z1
  · exact absurd z z2
  · exact br_f (Int32.not_lt.mpr z) hp
theorem ro_Ygood {A : Prop} (f3 f4 : Int32) (s n c j : Nat) (yl yo : Nat → Int64) (P : Prop) (hv : ro_VC s n c) (hf : s = 0 ∨ s = 4 → f3 = nI c) (h0 : 0 < ro_m s n c) (hj : j < ro_L s n c) (hA : A) :
    ((nI (ro_m s n c) = 0 → P) ∧ (¬ nI (ro_m s n c) = 0 → ((nI j < 0 → P) ∧ (¬ nI j < 0 → wpY_length (fun r_3 => (nI j < r_3 → A) ∧ (¬ nI j < r_3 → P)) (nI s, nI n, f3, f4, nI (ro_m s n c), yl, yo))))) := by
  have hcap := ro_capm hv
  have h14 := ro_L14 hv
  refine br_f (nI_ne0 h0 (by omega)) (br_f (nI_pos (by omega)) ?_)
  refine ro_lenY _ f3 _ _ s n c yl yo hv hf ?_
  exact br_t (nI_lt hj (by omega)) hA
theorem i_vc_item {k : Nat} {u : SX} {v : SY} (I : i_Rel k u v) (hk : k + 4 ≤ 2048) (v1 : Int32) : wpX_item (fun r => wpY_item (fun r' => r' = r ∧ i_Rel (k + 4) u v) v v1) u v1 := by
  have I' := I
  obtain ⟨s, n, c, cur, f3, al, ao, yl, yo, hv, hf, hc, ha, hl, rfl, rfl⟩ := I'
  have hcap := ro_capm hv
  have h14 := ro_L14 hv
  unfold wpX_item
  rcases ro_split v1 (ro_L s n c) (ro_m s n c) (by omega) with hb | ⟨h0, j, hj, rfl⟩
  · refine ro_has0 _ _ _ _ _ _ _ _ _ _ _ _ (by omega) hb ?_
    exact br_t rfl (ro_Ybad f3 (nI cur) s n c yl yo _ v1 hv hf hb ⟨rfl, I⟩)
  · have hcur : cur < ro_m s n c := by omega
    refine ro_has1 _ _ _ _ _ _ _ _ _ _ _ _ (by omega) (by omega) h0 hj ?_
    refine br_f (by decide : ¬ (1 : Int32) = 0) ⟨vp_in_nI (by omega) (by decide), ?_⟩
    refine ro_Ygood f3 (nI cur) s n c j yl yo _ hv hf h0 hj ⟨vp_in_nI (by omega) (by decide), ?_⟩
    rw [nI_clamp (n := cur) (by omega), hl cur hcur]
    refine ro_dig _ f3 _ _ s n c j _ yl yo hv hf hj (ro_oblt hv (ro_nem hcur) hcur) ?_
    refine ⟨?_, I⟩
    rw [nI_clamp (by omega), ha j hj]; rfl
theorem i_vc_go {k : Nat} {u : SX} {v : SY} (I : i_Rel k u v) (hk : k + 4 ≤ 2048) (v1 : Int32) : wpX_go (fun r u' => wpY_go (fun r' v' => r' = r ∧ i_Rel (k + 4) u' v') v v1) u v1 := by
  have I' := I
  obtain ⟨s, n, c, cur, f3, al, ao, yl, yo, hv, hf, hc, ha, hl, rfl, rfl⟩ := I'
  have hcap := ro_capm hv
  unfold wpX_go
  rcases ro_split2 v1 (ro_m s n c) with hb | ⟨j, hj, rfl⟩
  · refine ro_lis0 _ _ _ _ _ _ _ _ _ _ _ _ hb ?_
    refine br_t rfl (br_c (fun _ => ⟨rfl, I⟩) (fun z => ?_))
    rcases hb with z2 | z2
    · exact absurd z2 z
    · exact br_f (Int32.not_lt.mpr z2) ⟨rfl, I⟩
  · refine ro_lis1 _ _ _ _ _ _ _ j _ _ _ _ _ rfl (by omega) hj ?_
    refine br_f (by decide : ¬ (1 : Int32) = 0) ?_
    refine ro_wo_list _ f3 _ _ s n c j al ao hv hf (Or.inl hj) (fun al' ha' => ?_)
    refine br_f (nI_pos (by omega)) (br_t (nI_lt hj (by omega)) ?_)
    exact ⟨rfl, s, n, c, j, f3, al', ao, yl, yo, hv, hf, Or.inl hj, ha', hl, rfl, rfl⟩
theorem i_vc_next {k : Nat} {u : SX} {v : SY} (I : i_Rel k u v) (hk : k + 4 ≤ 2048) : wpX_next (fun r u' => wpY_next (fun r' v' => r' = r ∧ i_Rel (k + 4) u' v') v) u := by
  have I' := I
  obtain ⟨s, n, c, cur, f3, al, ao, yl, yo, hv, hf, hc, ha, hl, rfl, rfl⟩ := I'
  have hcap := ro_capm hv
  unfold wpX_next
  rcases Nat.lt_or_ge (cur + 1) (ro_m s n c) with d | d
  · refine ro_lis1 _ _ _ _ _ _ _ (cur + 1) _ _ _ _ _ (nI_1 cur) (by omega) d ?_
    refine br_f (by decide : ¬ (1 : Int32) = 0) (nm_r (nI_1 cur) ?_)
    refine ro_wo_list _ f3 _ _ s n c (cur + 1) al ao hv hf (Or.inl d) (fun al' ha' => ?_)
    refine br_t (by rw [nI_1]; exact nI_lt d (by omega)) (nm_r (nI_1 cur) ?_)
    exact ⟨rfl, s, n, c, cur + 1, f3, al', ao, yl, yo, hv, hf, Or.inl d, ha', hl, rfl, rfl⟩
  · refine ro_lis0 _ _ _ _ _ _ _ _ _ _ _ _ (Or.inr (by rw [nI_1]; exact nI_le d (by omega))) ?_
    exact br_t rfl (br_f (by rw [nI_1]; exact nI_nlt d (by omega)) ⟨rfl, I⟩)
theorem i_vc_previous {k : Nat} {u : SX} {v : SY} (I : i_Rel k u v) (hk : k + 4 ≤ 2048) : wpX_previous (fun r u' => wpY_previous (fun r' v' => r' = r ∧ i_Rel (k + 4) u' v') v) u := by
  have I' := I
  obtain ⟨s, n, c, cur, f3, al, ao, yl, yo, hv, hf, hc, ha, hl, rfl, rfl⟩ := I'
  have hcap := ro_capm hv
  unfold wpX_previous
  cases cur with
  | zero =>
    refine ro_lis0 _ _ _ _ _ _ _ _ _ _ _ _ (Or.inl (by decide)) ?_
    exact br_t rfl (br_c (fun _ => ⟨rfl, I⟩) (fun _ => br_t rfl ⟨rfl, I⟩))
  | succ cur =>
    have d : cur < ro_m s n c := by omega
    refine ro_lis1 _ _ _ _ _ _ _ cur _ _ _ _ _ (nI_pred cur) (by omega) d ?_
    refine br_f (by decide : ¬ (1 : Int32) = 0) (nm_r (nI_pred cur) ?_)
    refine ro_wo_list _ f3 _ _ s n c cur al ao hv hf (Or.inl d) (fun al' ha' => ?_)
    refine br_f (nI_ne0 (by omega) (by omega)) (br_f (nI_ne0 (by omega) (by omega)) (nm_r (nI_pred cur) ?_))
    exact ⟨rfl, s, n, c, cur, f3, al', ao, yl, yo, hv, hf, Or.inl d, ha', hl, rfl, rfl⟩
theorem i_vc_firstLike {k : Nat} {u : SX} {v : SY} (I : i_Rel k u v) (hk : k + 4 ≤ 2048) (v1 : Int32) : wpX_firstLike (fun r => wpY_firstLike (fun r' => r' = r ∧ i_Rel (k + 4) u v) v v1) u v1 := by
  have I' := I
  obtain ⟨s, n, c, cur, f3, al, ao, yl, yo, hv, hf, hc, ha, hl, rfl, rfl⟩ := I'
  have hcap := ro_capm hv
  have h14 := ro_L14 hv
  unfold wpX_firstLike
  rcases ro_split v1 (ro_L s n c) (ro_m s n c) (by omega) with hb | ⟨h0, j, hj, rfl⟩
  · refine ro_has0 _ _ _ _ _ _ _ _ _ _ _ _ (by omega) hb ?_
    exact br_t rfl (ro_Ybad f3 (nI cur) s n c yl yo _ v1 hv hf hb ⟨rfl, I⟩)
  · have hcur : cur < ro_m s n c := by omega
    have hne := ro_nem hcur
    have hOK := ro_OKob hne hcur
    have hx := ro_Mlt _ _ _ _ _ (ro_obM hne hcur)
    refine ro_has1 _ _ _ _ _ _ _ _ _ _ _ _ (by omega) (by omega) h0 hj ?_
    refine br_f (by decide : ¬ (1 : Int32) = 0) ?_
    refine ro_fw_list _ f3 _ _ s n c j (ro_dg (ro_L s n c) (ro_ob s n c cur)) al ao hv hne hf hj (fun i hi => hOK i (by omega)) (fun i hi => ha i (by omega)) ?_
    rw [ro_pkdg hx (j + 1) hj]
    refine ro_Ygood f3 (nI cur) s n c j yl yo _ hv hf h0 hj ⟨ro_rk s n c (ro_L s n c - (j + 1)) (ro_ob s n c cur / 8 ^ (ro_L s n c - (j + 1))) + 1, ?_⟩
    exact ro_fl23 _ f3 s n c cur j yl yo hv hne hf hl hcur hj ⟨rfl, I⟩ _ 0 (Nat.zero_add _)
theorem i_vc_like {k : Nat} {u : SX} {v : SY} (I : i_Rel k u v) (hk : k + 4 ≤ 2048) (v1 : Int32) : wpX_like (fun r => wpY_like (fun r' => r' = r ∧ i_Rel (k + 4) u v) v v1) u v1 := by
  have I' := I
  obtain ⟨s, n, c, cur, f3, al, ao, yl, yo, hv, hf, hc, ha, hl, rfl, rfl⟩ := I'
  have hcap := ro_capm hv
  have h14 := ro_L14 hv
  unfold wpX_like
  rcases ro_split v1 (ro_L s n c) (ro_m s n c) (by omega) with hb | ⟨h0, j, hj, rfl⟩
  · refine ro_has0 _ _ _ _ _ _ _ _ _ _ _ _ (by omega) hb ?_
    exact br_t rfl (ro_Ybad f3 (nI cur) s n c yl yo _ v1 hv hf hb ⟨rfl, I⟩)
  · have hcur : cur < ro_m s n c := by omega
    have hne := ro_nem hcur
    have hOK := ro_OKob hne hcur
    have hx := ro_Mlt _ _ _ _ _ (ro_obM hne hcur)
    refine ro_has1 _ _ _ _ _ _ _ _ _ _ _ _ (by omega) (by omega) h0 hj ?_
    refine br_f (by decide : ¬ (1 : Int32) = 0) ⟨vp_in_nI (by omega) (by decide), ?_⟩
    rw [nI_clamp (n := j) (by omega), ha j hj]
    refine ro_ways_list _ f3 _ _ s n c j _ (ro_dg (ro_L s n c) (ro_ob s n c cur)) al ao hv hne hf hj (ro_dg8 _ _ _) (fun i hi => hOK i (by omega)) (fun i hi => ha i (by omega)) ?_
    have e1 : 8 * ro_pk (ro_dg (ro_L s n c) (ro_ob s n c cur)) j + ro_dg (ro_L s n c) (ro_ob s n c cur) j = ro_ob s n c cur / 8 ^ (ro_L s n c - (j + 1)) := ro_pkdg hx (j + 1) hj
    rw [ro_wyN hne hj (fun i hi => hOK i (by omega)) (ro_dg8 _ _ _), e1, Nat.sub_sub]
    refine ro_Ygood f3 (nI cur) s n c j yl yo _ hv hf h0 hj ⟨ro_m s n c + 1, ?_⟩
    exact ro_lk25 _ f3 s n c cur j yl yo hv hne hf hl hcur hj ⟨rfl, I⟩ _ 0 (Nat.zero_add _)
theorem i_vc_difference {k : Nat} {u : SX} {v : SY} (I : i_Rel k u v) (hk : k + 4 ≤ 2048) (v1 : Int32) : wpX_difference (fun r u' => wpY_difference (fun r' => r' = r ∧ i_Rel (k + 4) u' v) v v1) u v1 := by
  have I' := I
  obtain ⟨s, n, c, cur, f3, al, ao, yl, yo, hv, hf, hc, ha, hl, rfl, rfl⟩ := I'
  have hcap := ro_capm hv
  unfold wpX_difference
  rcases ro_split2 v1 (ro_m s n c) with hb | ⟨j, hj, rfl⟩
  · refine ro_lis0 _ _ _ _ _ _ _ _ _ _ _ _ hb ?_
    refine br_t rfl (br_c (fun _ => ⟨rfl, I⟩) (fun z => ?_))
    rcases hb with z2 | z2
    · exact absurd z2 z
    · exact br_f (Int32.not_lt.mpr z2) ⟨rfl, I⟩
  · have hcur : cur < ro_m s n c := by omega
    have hne := ro_nem hcur
    refine ro_lis1 _ _ _ _ _ _ _ j _ _ _ _ _ rfl (by omega) hj ?_
    refine br_f (by decide : ¬ (1 : Int32) = 0) ?_
    refine ro_wo_other _ f3 _ _ s n c j al ao hv hf (Or.inl hj) (fun ao' ha' => ?_)
    refine ⟨ro_L s n c + 1, ro_dfX _ f3 _ _ s n c cur j al ao' hv ha ha' ?_ (ro_L s n c) 0 (Nat.zero_add _)⟩
    refine br_f (nI_pos (by omega)) (br_t (nI_lt hj (by omega)) ⟨ro_L s n c + 1, ?_⟩)
    refine ro_dfY _ f3 s n c cur j yl yo hv hne hf hl hj hcur ?_ (ro_L s n c) 0 (Nat.zero_add _)
    exact ⟨rfl, s, n, c, cur, f3, al, ao', yl, yo, hv, hf, hc, ha, hl, rfl, rfl⟩
theorem i_vc_mirrored {k : Nat} {u : SX} {v : SY} (I : i_Rel k u v) (hk : k + 4 ≤ 2048) : wpX_mirrored (fun r u' => wpY_mirrored (fun r' => r' = r ∧ i_Rel (k + 4) u' v) v) u := by
  have I' := I
  obtain ⟨s, n, c, cur, f3, al, ao, yl, yo, hv, hf, hc, ha, hl, rfl, rfl⟩ := I'
  have hcap := ro_capm hv
  by_cases c2 : nI s = 2
  · exact br_t c2 (br_t c2 ⟨rfl, I⟩)
  by_cases c0 : nI (ro_m s n c) = 0
  · exact br_f c2 (br_t c0 (br_f c2 (br_t c0 ⟨rfl, I⟩)))
  have hs2 : s ≠ 2 := fun z => c2 (by rw [z]; rfl)
  have hm : ro_m s n c ≠ 0 := fun z => c0 (by rw [z]; rfl)
  have hcur : cur < ro_m s n c := by omega
  have hne := ro_nem hcur
  refine br_f c2 (br_f c0 ⟨ro_L s n c + 1, ?_⟩)
  refine ro_mX20 _ f3 _ _ s n c cur al hv hs2 hne hf hcur ha (fun ao' => ?_) (ro_L s n c) 0 ao (Nat.zero_add _) (fun i hi => absurd hi (Nat.not_lt_zero i))
  refine br_f c2 (br_f c0 ?_)
  refine ro_lenY _ f3 _ _ s n c yl yo hv hf ?_
  refine nm_e ⟨ro_L s n c + 1, ?_⟩
  refine ro_mY27 _ f3 s n c cur yl yo hv hs2 hne hf hl hcur ?_ (ro_L s n c) 0 (Nat.zero_add _)
  exact ⟨rfl, s, n, c, cur, f3, al, ao', yl, yo, hv, hf, hc, ha, hl, rfl, rfl⟩
