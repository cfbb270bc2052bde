/-- both sides hold the same object of the same list; X's tables are the two tables -/
def i_Rel (k : Nat) (u : SX) (v : SY) : Prop := ∃ (s n c cur : Nat) (f3 : Int32) (al ao : Nat → Int32) (yl yo : Nat → Int64), ro_VC s n c ∧ (s = 0 ∨ s = 4 → f3 = nI c) ∧ (cur < ro_m s n c ∨ (ro_m s n c = 0 ∧ cur = 0)) ∧ (∀ i, i < ro_L s n c → al i = nI (ro_dg (ro_L s n c) (ro_ob s n c cur) i)) ∧ ro_LA yl (ro_obs s n c) ∧ u = (nI s, nI n, f3, nI (ro_L s n c), nI (ro_m s n c), nI cur, ro_BA, ro_GA, al, ao) ∧ v = (nI s, nI n, f3, nI cur, nI (ro_m s n c), yl, yo)
theorem i_up {k : Nat} {u : SX} {v : SY} (h : i_Rel k u v) : i_Rel (k + 4) u v := h
theorem ro_fbW (post : SX → Prop) (f1 f2 f3 f4 f5 f6 : Int32) (aG al ao : Nat → Int32) (hp : post (f1, f2, f3, f4, f5, f6, ro_BA, aG, al, ao)) : wpX_fillBinomials post (f1, f2, f3, f4, f5, f6, (fun _ => 0), aG, al, ao) := by
  have := ro_fb2 post f1 f2 f3 f4 f5 f6 aG al ao hp 16 0 (by omega)
  rw [Nat.mul_zero, ro_PB0] at this
  exact ⟨17, this⟩
theorem ro_fgW (post : SX → Prop) (f1 f2 f3 f4 f5 f6 : Int32) (aB al ao : Nat → Int32) (hp : post (f1, f2, f3, f4, f5, f6, aB, ro_GA, al, ao)) : wpX_fillGroupings post (f1, f2, f3, f4, f5, f6, aB, (fun _ => 0), al, ao) := by
  have := ro_fg2 post f1 f2 f3 f4 f5 f6 aB al ao hp 8 0 (by omega)
  rw [ro_PG0] at this
  exact ⟨9, this⟩
theorem ro_m00 {s n c : Nat} (h : ro_VC s n c) : 0 < ro_m s n c ∨ (ro_m s n c = 0 ∧ 0 = 0) := by
  rcases Nat.eq_zero_or_pos (ro_m s n c) with z | z
  · exact Or.inr ⟨z, rfl⟩
  · exact Or.inl z
theorem ro_nem {s n c i : Nat} (h : i < ro_m s n c) : ¬ (s = 4 ∧ c = 0) := fun z => by
  rw [ro_m0 z] at h; omega
theorem ro_choX (post : Int32 → SX → Prop) (f1 f2 f3' f4 f5 f6 f3 : Int32) (s n k : Nat) (al ao : Nat → Int32) (h : ro_VC s n k) (hk : s = 0 ∨ s = 4 → f3 = nI k) (hp : ∀ al : Nat → Int32, (∀ i, i < ro_L s n k → al i = nI (ro_dg (ro_L s n k) (ro_ob s n k 0) i)) → post 1 (nI s, nI n, f3, nI (ro_L s n k), nI (ro_m s n k), nI 0, ro_BA, ro_GA, al, ao)) : wX_choose_54 post (nI s) (nI n) f3 f1 f2 f3' f4 f5 f6 ro_BA ro_GA al ao := by
  unfold wX_choose_54
  exact ro_start _ f1 f2 f3' f4 f5 f6 f3 s n k al ao h hk hp
theorem ro_choY (post : Int32 → SY → Prop) (f1 f2 f3' f4 f5 f3 : Int32) (s n k : Nat) (yl yo : Nat → Int64) (h : ro_VC s n k) (hk : s = 0 ∨ s = 4 → f3 = nI k) (hp : ∀ yl yo, ro_LA yl (ro_obs s n k) → post 1 (nI s, nI n, f3, nI 0, nI (ro_m s n k), yl, yo)) : wY_choose_42 post (nI s) (nI n) f3 f1 f2 f3' f4 f5 yl yo := by
  unfold wY_choose_42
  exact ro_write _ f3 (nI 0) f5 s n k yl yo h hk hp
theorem i_vc0 : wpX_init (fun u => wpY_init (fun v => i_Rel 0 u v)) := by
  have hv : ro_VC 1 3 0 := ⟨by decide, by decide, Or.inr (Or.inr ⟨Or.inl rfl, rfl⟩)⟩
  have hk : (1 : Nat) = 0 ∨ (1 : Nat) = 4 → (0 : Int32) = nI 0 := fun _ => rfl
  unfold wpX_init
  refine ro_fbW _ _ _ _ _ _ _ _ _ _ ?_
  refine ro_fgW _ _ _ _ _ _ _ _ _ _ ?_
  refine ro_start _ _ _ _ _ _ _ 0 1 3 0 _ _ hv hk (fun al ha => ?_)
  unfold wpY_init
  refine ro_write _ 0 (nI 0) 0 1 3 0 _ _ hv hk (fun yl yo hy => ?_)
  exact ⟨1, 3, 0, 0, 0, al, _, yl, yo, hv, hk, ro_m00 hv, ha, hy, rfl, rfl⟩
theorem i_vc_choose {k : Nat} {u : SX} {v : SY} (I : i_Rel k u v) (hk : k + 4 ≤ 2048) (v1 : Int32) (v2 : Int32) (v3 : Int32) : wpX_choose (fun r u' => wpY_choose (fun r' v' => r' = r ∧ i_Rel (k + 4) u' v') v v1 v2 v3) u v1 v2 v3 := by
  have I' := I
  obtain ⟨s, n, c, cur, f3, al, ao, yl, yo, hv, hf, hc, ha, hl, rfl, rfl⟩ := I'
  by_cases c1 : v1 < 0
  · exact br_t c1 (br_t c1 ⟨rfl, I⟩)
  by_cases c2 : 4 < v1
  · exact br_f c1 (br_t c2 (br_f c1 (br_t c2 ⟨rfl, I⟩)))
  by_cases c3 : v2 < 1
  · exact br_f c1 (br_f c2 (br_t c3 (br_f c1 (br_f c2 (br_t c3 ⟨rfl, I⟩)))))
  by_cases c4 : v2 ≤ 7
  · obtain ⟨s', hs', rfl⟩ := nI_of c1
    have c3' : ¬ v2 < 0 := fun z => c3 (Int32.lt_trans z (by decide))
    obtain ⟨n', hn', rfl⟩ := nI_of c3'
    have b1 : s' ≤ 4 := by
      rcases Nat.lt_or_ge 4 s' with z | z
      · exact absurd (nI_lt z hs') c2
      · exact z
    have b2 : 1 ≤ n' := by
      rcases Nat.lt_or_ge n' 1 with z | z
      · exact absurd (nI_lt z (by decide)) c3
      · exact z
    have b3 : n' ≤ 7 := (nI_leI hn' (by decide)).mp c4
    have fin : ∀ c', ro_VC s' n' c' → (s' = 0 ∨ s' = 4 → v3 = nI c') →
        ∀ PY : (Int32 → SY → Prop) → Prop, (∀ post, wY_choose_42 post (nI s') (nI n') v3 (nI s) (nI n) f3 (nI cur) (nI (ro_m s n c)) yl yo → PY post) →
        wX_choose_54 (fun r u' => PY (fun r' v' => r' = r ∧ i_Rel (k + 4) u' v')) (nI s') (nI n') v3 (nI s) (nI n) f3 (nI (ro_L s n c)) (nI (ro_m s n c)) (nI cur) ro_BA ro_GA al ao := by
      intro c' hv' hf' PY hPY
      refine ro_choX _ _ _ _ _ _ _ v3 s' n' c' al ao hv' hf' (fun al' ha' => ?_)
      refine hPY _ (ro_choY _ _ _ _ _ _ v3 s' n' c' yl yo hv' hf' (fun yl' yo' hy' => ?_))
      exact ⟨rfl, s', n', c', 0, v3, al', ao, yl', yo', hv', hf', ro_m00 hv', ha', hy', rfl, rfl⟩
    have sized : (s' = 0 ∨ s' = 4) → ∀ PY : (Int32 → SY → Prop) → Prop, (∀ post, wY_choose_31 post (nI s') (nI n') v3 (nI s) (nI n) f3 (nI cur) (nI (ro_m s n c)) yl yo → PY post) → wX_choose_31 (fun r u' => PY (fun r' v' => r' = r ∧ i_Rel (k + 4) u' v')) (nI s') (nI n') v3 (nI s) (nI n) f3 (nI (ro_L s n c)) (nI (ro_m s n c)) (nI cur) ro_BA ro_GA al ao := by
      intro hs PY hPY
      refine br_f (by decide : ¬ (1 : Int32) = 0) ?_
      by_cases d1 : v3 < 0
      · exact br_t d1 (hPY _ (br_t d1 ⟨rfl, I⟩))
      by_cases d2 : v3 ≤ nI n'
      · obtain ⟨c', hc', rfl⟩ := nI_of d1
        have d3 := (nI_leI hc' hn').mp d2
        refine br_f d1 (br_t d2 ?_)
        exact fin c' ⟨b2, b3, by omega⟩ (fun _ => rfl) PY (fun post hp => hPY post (br_f d1 (br_t d2 hp)))
      · exact br_f d1 (br_f d2 (hPY _ (br_f d1 (br_f d2 ⟨rfl, I⟩))))
    have free : (s' = 1 ∨ s' = 2 ∨ s' = 3) → ∀ PY : (Int32 → SY → Prop) → Prop, (∀ post, wY_choose_42 post (nI s') (nI n') v3 (nI s) (nI n) f3 (nI cur) (nI (ro_m s n c)) yl yo → PY post) → wX_choose_36 (fun r u' => PY (fun r' v' => r' = r ∧ i_Rel (k + 4) u' v')) (nI s') (nI n') v3 0 (nI s) (nI n) f3 (nI (ro_L s n c)) (nI (ro_m s n c)) (nI cur) ro_BA ro_GA al ao := by
      intro hs PY hPY
      refine br_t rfl ?_
      exact fin 0 ⟨b2, b3, by omega⟩ (fun z => by omega) PY hPY
    by_cases e0 : nI s' = 0
    · have s0 : s' = 0 := (nI_eq (b := 0) hs' (by decide)).mp e0
      refine br_f c1 (br_f c2 (br_f c3 (br_t c4 (br_t e0 ?_))))
      exact sized (Or.inl s0) (fun post => wpY_choose post (nI s, nI n, f3, nI cur, nI (ro_m s n c), yl, yo) (nI s') (nI n') v3) (fun post hp => br_f c1 (br_f c2 (br_f c3 (br_t c4 (br_t e0 hp)))))
    · have s0 : s' ≠ 0 := fun z => e0 (by rw [z]; rfl)
      by_cases e4 : nI s' = 4
      · have s4 : s' = 4 := (nI_eq (b := 4) hs' (by decide)).mp e4
        refine br_f c1 (br_f c2 (br_f c3 (br_t c4 (br_f e0 (br_t e4 ?_)))))
        exact sized (Or.inr s4) (fun post => wpY_choose post (nI s, nI n, f3, nI cur, nI (ro_m s n c), yl, yo) (nI s') (nI n') v3) (fun post hp => br_f c1 (br_f c2 (br_f c3 (br_t c4 (br_f e0 (br_t e4 hp))))))
      · have s4 : s' ≠ 4 := fun z => e4 (by rw [z]; rfl)
        refine br_f c1 (br_f c2 (br_f c3 (br_t c4 (br_f e0 (br_f e4 ?_)))))
        exact free (by omega) (fun post => wpY_choose post (nI s, nI n, f3, nI cur, nI (ro_m s n c), yl, yo) (nI s') (nI n') v3) (fun post hp => br_f c1 (br_f c2 (br_f c3 (br_t c4 (br_f e0 (br_f e4 hp))))))
  · exact br_f c1 (br_f c2 (br_f c3 (br_f c4 (br_f c1 (br_f c2 (br_f c3 (br_f c4 ⟨rfl, I⟩)))))))
