def ro_PB (N j : Nat) : Int32 := if j < N then ro_TB j else 0
def ro_PG (N j : Nat) : Int32 := if j < N then ro_TG j else 0
theorem ro_PB0 : ro_PB 0 = fun _ => 0 := funext fun j => if_neg (Nat.not_lt_zero j)
theorem ro_PG0 : ro_PG 0 = fun _ => 0 := funext fun j => if_neg (Nat.not_lt_zero j)
theorem ro_PBu (N : Nat) : upd (ro_PB N) N (ro_TB N) = ro_PB (N + 1) := by
  funext j
  unfold upd ro_PB
  rcases Nat.lt_trichotomy j N with c | c | c
  · rw [if_neg (by omega), if_pos c, if_pos (by omega)]
  · rw [if_pos c, if_pos (by omega), c]
  · rw [if_neg (by omega), if_neg (by omega), if_neg (by omega)]
theorem ro_PGu (N : Nat) : upd (ro_PG N) N (ro_TG N) = ro_PG (N + 1) := by
  funext j
  unfold upd ro_PG
  rcases Nat.lt_trichotomy j N with c | c | c
  · rw [if_neg (by omega), if_pos c, if_pos (by omega)]
  · rw [if_pos c, if_pos (by omega), c]
  · rw [if_neg (by omega), if_neg (by omega), if_neg (by omega)]
theorem ro_tb1 : ∀ i, i < 16 → ro_TB (16 * i) = 1 := by decide +kernel
theorem ro_tb2 : ∀ i, i < 16 → ∀ c, c < 16 → i < c → ro_TB (16 * i + c) = 0 := by decide +kernel
theorem ro_tb3 : ∀ i, i < 16 → ∀ c, c < 16 → 1 ≤ c → c ≤ i → ro_TB (16 * i - 16 + c - 1) + ro_TB (16 * i - 16 + c) = ro_TB (16 * i + c) := by decide +kernel
theorem ro_tg1 : ∀ i, i < 8 → ro_TG i = 1 := by decide +kernel
theorem ro_tg2 : ∀ i, i < 8 → ∀ c, c < 8 → 8 - i ≤ c → ro_TG (8 * i + c) = 0 := by decide +kernel
theorem ro_tg3 : ∀ i, i < 8 → ∀ c, c < 8 → 1 ≤ i → c < 8 - i → nI (c + 1) * ro_TG ((i - 1) * 8 + c) + ro_TG ((i - 1) * 8 + c + 1) = ro_TG (8 * i + c) := by decide +kernel
theorem ro_PBr {i : Nat} (h : i < 16) : ro_PB (16 * i + (i + 1)) = ro_PB (16 * (i + 1)) := by
  funext j
  unfold ro_PB
  by_cases c1 : j < 16 * i + (i + 1)
  · rw [if_pos c1, if_pos (by omega)]
  · rw [if_neg c1]
    by_cases c2 : j < 16 * (i + 1)
    · rw [if_pos c2]
      have e : j = 16 * i + (j - 16 * i) := by omega
      rw [e, ro_tb2 i h (j - 16 * i) (by omega) (by omega)]
    · rw [if_neg c2]
theorem ro_PGr {i : Nat} (h : i < 8) : ro_PG (8 * i + (8 - i)) = ro_PG (8 * (i + 1)) := by
  funext j
  unfold ro_PG
  by_cases c1 : j < 8 * i + (8 - i)
  · rw [if_pos c1, if_pos (by omega)]
  · rw [if_neg c1]
    by_cases c2 : j < 8 * (i + 1)
    · rw [if_pos c2]
      have e : j = 8 * i + (j - 8 * i) := by omega
      rw [e, ro_tg2 i h (j - 8 * i) (by omega) (by omega)]
    · rw [if_neg c2]
theorem ro_fb22 (post : SX → Prop) (J : Int32 → (Nat → Int32) → (Nat → Int32) → (Nat → Int32) → (Nat → Int32) → Prop) (f1 f2 f3 f4 f5 f6 : Int32) (aG al ao : Nat → Int32) (i : Nat) (hi : i < 16) (hJ : J (nI (i + 1)) (ro_PB (16 * (i + 1))) aG al ao) :
    ∀ r c, 1 ≤ c → c + r = i + 1 → wX_fillBinomials_22 post J (nI i) (nI (i * 16)) f1 f2 f3 f4 f5 f6 (r + 1) (nI c) (ro_PB (16 * i + c)) aG al ao := by
  intro r
  induction r with
  | zero =>
    intro c h1 hc
    have e : c = i + 1 := by omega
    subst e
    refine br_t (nI_lt (by omega) (by omega)) (nm_r (nI_1 i) ?_)
    rw [ro_PBr hi]; exact hJ
  | succ r ih =>
    intro c h1 hc
    have e1 : (nI (i * 16) - 16) + nI c = nI (16 * i - 16 + c) := by
      rw [show (16 : Int32) = nI 16 from rfl, pk_sub (by omega), nI_add]
      exact congrArg nI (by omega)
    have e2 : nI (16 * i - 16 + c) - 1 = nI (16 * i - 16 + c - 1) := by
      obtain ⟨m, hm⟩ : ∃ m, 16 * i - 16 + c = m + 1 := ⟨16 * i - 16 + c - 1, by omega⟩
      rw [hm, nI_pred]; rfl
    have e3 : nI (i * 16) + nI c = nI (16 * i + c) := by
      rw [nI_add]; exact congrArg nI (by omega)
    refine br_f (nI_nlt (by omega) (by omega)) (nm_r e1 ?_)
    rw [e2, e3]
    refine ⟨vp_in_nI (by omega) (by decide), vp_in_nI (by omega) (by decide), vp_in_nI (by omega) (by decide), nm_r (e' := ro_PB (16 * i + (c + 1))) ?_ (nm_r (nI_1 c) (ih (c + 1) (by omega) (by omega)))⟩
    rw [nI_clamp (by omega), nI_clamp (by omega), nI_clamp (by omega)]
    have p1 : ro_PB (16 * i + c) (16 * i - 16 + c - 1) = ro_TB (16 * i - 16 + c - 1) := if_pos (by omega)
    have p2 : ro_PB (16 * i + c) (16 * i - 16 + c) = ro_TB (16 * i - 16 + c) := if_pos (by omega)
    rw [p1, p2, ro_tb3 i hi c (by omega) h1 (by omega), ro_PBu]; rfl
theorem ro_fb2 (post : SX → Prop) (f1 f2 f3 f4 f5 f6 : Int32) (aG al ao : Nat → Int32) (hp : post (f1, f2, f3, f4, f5, f6, ro_BA, aG, al, ao)) :
    ∀ r i, i + r = 16 → wX_fillBinomials_2 post f1 f2 f3 f4 f5 f6 (r + 1) (nI i) (ro_PB (16 * i)) aG al ao := by
  intro r
  induction r with
  | zero =>
    intro i hi
    have e : i = 16 := by omega
    subst e
    exact br_t (by decide : 16 ≤ nI 16) hp
  | succ r ih =>
    intro i hi
    have e1 : nI i * 16 = nI (i * 16) := by rw [← pk_mul]; rfl
    refine br_f (nI_ge (a := i) (b := 16) (by omega) (by decide)) (nm_r e1 ⟨vp_in_nI (by omega) (by decide), nm_r (e' := ro_PB (16 * i + 1)) ?_ ⟨i + 1, ?_⟩⟩)
    · rw [nI_clamp (by omega), Nat.mul_comm i 16, ← ro_tb1 i (by omega), ro_PBu]
    · exact ro_fb22 post _ f1 f2 f3 f4 f5 f6 aG al ao i (by omega) (ih (i + 1) (by omega)) i 1 (by omega) (by omega)
theorem ro_fg31 (post : SX → Prop) (J : Int32 → (Nat → Int32) → (Nat → Int32) → (Nat → Int32) → (Nat → Int32) → Prop) (f1 f2 f3 f4 f5 f6 : Int32) (aB al ao : Nat → Int32) (i : Nat) (hi : i < 8) (h1 : 1 ≤ i) (hJ : J (nI (i + 1)) aB (ro_PG (8 * (i + 1))) al ao) :
    ∀ r c, c + r = 8 - i → wX_fillGroupings_31 post J (nI i) f1 f2 f3 f4 f5 f6 (r + 1) (nI c) aB (ro_PG (8 * i + c)) al ao := by
  have e8 : (8 : Int32) - nI i = nI (8 - i) := pk_sub (a := 8) (b := i) (by omega)
  intro r
  induction r with
  | zero =>
    intro c hc
    have e : c = 8 - i := by omega
    subst e
    refine br_t ?_ (nm_r (nI_1 i) ?_)
    · rw [e8]; exact nI_le (Nat.le_refl _) (by omega)
    · rw [ro_PGr hi]; exact hJ
  | succ r ih =>
    intro c hc
    have e1 : ((nI i - 1) * 8) + nI c = nI ((i - 1) * 8 + c) := by
      rw [show (1 : Int32) = nI 1 from rfl, pk_sub h1, show (8 : Int32) = nI 8 from rfl, pk_mul, nI_add]
    have e2 : (nI i * 8) + nI c = nI (8 * i + c) := by
      rw [show (8 : Int32) = nI 8 from rfl, pk_mul, nI_add, Nat.mul_comm]
    have p1 : ro_PG (8 * i + c) ((i - 1) * 8 + c) = ro_TG ((i - 1) * 8 + c) := if_pos (by omega)
    have p2 : ro_PG (8 * i + c) ((i - 1) * 8 + c + 1) = ro_TG ((i - 1) * 8 + c + 1) := if_pos (by omega)
    refine br_f ?_ (nm_r e1 ⟨vp_in_nI (by omega) (by decide), nm_e ?_⟩)
    · rw [e8]; exact nI_ge (by omega) (by omega)
    rw [e2, nI_1 ((i - 1) * 8 + c)]
    refine ⟨vp_in_nI (by omega) (by decide), vp_in_nI (by omega) (by decide), nm_r (e' := ro_PG (8 * i + (c + 1))) ?_ (nm_r (nI_1 c) (ih (c + 1) (by omega)))⟩
    rw [nI_clamp (by omega), nI_clamp (by omega), nI_clamp (by omega), p1, p2, nI_1 c, ro_tg3 i hi c (by omega) h1 (by omega), ro_PGu]; rfl
theorem ro_fg23 (post : SX → Prop) (f1 f2 f3 f4 f5 f6 : Int32) (aB al ao : Nat → Int32) (hp : post (f1, f2, f3, f4, f5, f6, aB, ro_GA, al, ao)) :
    ∀ r i, 1 ≤ i → i + r = 8 → wX_fillGroupings_23 post f1 f2 f3 f4 f5 f6 (r + 1) (nI i) aB (ro_PG (8 * i)) al ao := by
  intro r
  induction r with
  | zero =>
    intro i h1 hi
    have e : i = 8 := by omega
    subst e
    exact br_t (by decide : 8 ≤ nI 8) hp
  | succ r ih =>
    intro i h1 hi
    exact br_f (nI_ge (a := i) (b := 8) (by omega) (by decide)) ⟨8 - i + 1, ro_fg31 post _ f1 f2 f3 f4 f5 f6 aB al ao i (by omega) h1 (ih (i + 1) (by omega) (by omega)) (8 - i) 0 (by omega)⟩
theorem ro_fg2 (post : SX → Prop) (f1 f2 f3 f4 f5 f6 : Int32) (aB al ao : Nat → Int32) (hp : post (f1, f2, f3, f4, f5, f6, aB, ro_GA, al, ao)) :
    ∀ r i, i + r = 8 → wX_fillGroupings_2 post f1 f2 f3 f4 f5 f6 (r + 1) (nI i) aB (ro_PG i) al ao := by
  intro r
  induction r with
  | zero =>
    intro i hi
    have e : i = 8 := by omega
    subst e
    exact br_t (by decide : 8 ≤ nI 8) ⟨8, ro_fg23 post f1 f2 f3 f4 f5 f6 aB al ao hp 7 1 (by omega) (by omega)⟩
  | succ r ih =>
    intro i hi
    refine br_f (nI_ge (a := i) (b := 8) (by omega) (by decide)) ⟨vp_in_nI (by omega) (by decide), nm_r (e' := ro_PG (i + 1)) ?_ (nm_r (nI_1 i) (ih (i + 1) (by omega)))⟩
    rw [nI_clamp (by omega), ← ro_tg1 i (by omega), ro_PGu]
/-! count and start -/
def ro_cfp (s n k : Nat) : Bool := Nat.ble 1 (ro_cf s n k 0 0)
theorem ro_p0 : ro_al 7 (fun n => ro_al (n + 2) (fun k => ro_cfp 0 (n + 1) k)) = true := by decide +kernel
theorem ro_p1 : ro_al 7 (fun n => ro_cfp 1 (n + 1) 0 && (ro_cfp 2 (n + 1) 0 && ro_cfp 3 (n + 1) 0)) = true := by decide +kernel
theorem ro_p4 : ro_al 7 (fun n => ro_al (n + 1) (fun k => ro_cfp 4 (n + 1) (k + 1))) = true := by decide +kernel
theorem ro_cf1 {s n k : Nat} (h : ro_VC s n k) (hne : ¬ (s = 4 ∧ k = 0)) : 1 ≤ ro_cf s n k 0 0 := by
  refine Nat.le_of_ble_eq_true (show ro_cfp s n k = true from ?_)
  obtain ⟨h1, h7, h⟩ := h
  obtain ⟨n, rfl⟩ : ∃ p, n = p + 1 := ⟨n - 1, by omega⟩
  have hn : n < 7 := by omega
  have t := ro_alE _ ro_p1 n hn
  rw [Bool.and_eq_true, Bool.and_eq_true] at t
  rcases h with ⟨rfl, hk⟩ | ⟨rfl, hk⟩ | ⟨rfl | rfl | rfl, rfl⟩
  · exact ro_alE _ (ro_alE _ ro_p0 n hn) k (by omega)
  · obtain ⟨k, rfl⟩ : ∃ p, k = p + 1 := ⟨k - 1, by omega⟩
    exact ro_alE _ (ro_alE _ ro_p4 n hn) k (by omega)
  · exact t.1
  · exact t.2.1
  · exact t.2.2
theorem ro_mpos {s n k : Nat} (h : ro_VC s n k) (hne : ¬ (s = 4 ∧ k = 0)) : 0 < ro_m s n k := by
  have h1 := ro_N hne (ro_L s n k) 0 0 (Nat.zero_add _)
  have h2 := ro_cntcf h hne (ro_L s n k) 0 0 (Nat.zero_add _) (ro_RR0 h hne)
  have h3 := ro_cf1 h hne
  have h4 : cond (ro_M s n k 0 0) (ro_cnt s n k (ro_L s n k) 0 (ro_stc s 0 0)) 0 = ro_cnt s n k (ro_L s n k) 0 0 := rfl
  rw [h4, h2] at h1
  have h5 : ro_ct (fun i => decide (ro_ob s n k i / 8 ^ ro_L s n k = 0)) (ro_m s n k) ≤ ro_m s n k := ro_ctle _
  omega
theorem ro_m0 {s n k : Nat} (h : s = 4 ∧ k = 0) : ro_m s n k = 0 := by
  unfold ro_m ro_obs; rw [if_pos h]; rfl
theorem ro_mL {s n k : Nat} (h : ro_VC s n k) : 0 < ro_m s n k ∨ ro_L s n k = 0 := by
  by_cases hne : s = 4 ∧ k = 0
  · obtain ⟨rfl, rfl⟩ := hne; exact Or.inr rfl
  · exact Or.inl (ro_mpos h hne)
theorem ro_top {s n k : Nat} (h : ro_VC s n k) (hne : ¬ (s = 4 ∧ k = 0)) (hL : 0 < ro_L s n k) : ro_rk s n k (ro_L s n k - 1) (n + 1) = ro_m s n k := by
  refine ro_ct1 _ (fun i hi => decide_eq_true ?_)
  have hOK := ro_OKob hne hi
  have hx := ro_Mlt _ _ _ _ _ (ro_obM hne hi)
  have h0 := (ro_st1T h hne hL (ro_RR0 h hne)).2.2.2 _ (hOK 0 hL).1 (hOK 0 hL).2
  have hp : 8 * 0 + ro_dg (ro_L s n k) (ro_ob s n k i) 0 = ro_ob s n k i / 8 ^ (ro_L s n k - 1) := ro_pkdg hx 1 hL
  omega
theorem ro_len (post : Int32 → Prop) (f3 f4 f5 f6 : Int32) (s n k : Nat) (aB aG al ao : Nat → Int32) (h : ro_VC s n k) (hk : s = 0 ∨ s = 4 → f3 = nI k) (hp : post (nI (ro_L s n k))) : wpX_listLength post (nI s, nI n, f3, f4, f5, f6, aB, aG, al, ao) := by
  obtain ⟨h1, h7, hs⟩ := h
  rcases hs with ⟨rfl, hkn⟩ | ⟨rfl, hkn⟩ | ⟨rfl | rfl | rfl, rfl⟩
  · have e3 := hk (Or.inl rfl)
    subst e3
    exact br_f (by decide : ¬ nI 0 < 0) (br_f (by decide : ¬ 4 < nI 0) (br_t (by decide : nI 0 = 0) hp))
  · have e3 := hk (Or.inr rfl)
    subst e3
    exact br_f (by decide : ¬ nI 4 < 0) (br_f (by decide : ¬ 4 < nI 4) (br_f (by decide : ¬ nI 4 = 0) (br_f (by decide : ¬ nI 4 = 1) (br_f (by decide : ¬ nI 4 = 2) (br_f (by decide : ¬ nI 4 = 3) (br_t (by decide : nI 4 = 4) hp))))))
  · exact br_f (by decide : ¬ nI 1 < 0) (br_f (by decide : ¬ 4 < nI 1) (br_f (by decide : ¬ nI 1 = 0) (br_t (by decide : nI 1 = 1) hp)))
  · exact br_f (by decide : ¬ nI 2 < 0) (br_f (by decide : ¬ 4 < nI 2) (br_f (by decide : ¬ nI 2 = 0) (br_f (by decide : ¬ nI 2 = 1) (br_t (by decide : nI 2 = 2) hp))))
  · have hp' : post (2 * nI n) := by rw [show (2 : Int32) = nI 2 from rfl, pk_mul]; exact hp
    exact br_f (by decide : ¬ nI 3 < 0) (br_f (by decide : ¬ 4 < nI 3) (br_f (by decide : ¬ nI 3 = 0) (br_f (by decide : ¬ nI 3 = 1) (br_f (by decide : ¬ nI 3 = 2) (br_t (by decide : nI 3 = 3) hp')))))
theorem ro_cnO (post : Int32 → Prop) (f3 f5 f6 : Int32) (s n k : Nat) (al ao : Nat → Int32) (h : ro_VC s n k) (hk : s = 0 ∨ s = 4 → f3 = nI k) (hp : post (nI (ro_m s n k))) : wpX_countObjects post (nI s, nI n, f3, nI (ro_L s n k), f5, f6, ro_BA, ro_GA, al, ao) := by
  have h7 := h.2.1
  have h1 := h.1
  have h14 := ro_L14 h
  rcases Nat.eq_zero_or_pos (ro_L s n k) with hz | hz
  · have hz' : nI (ro_L s n k) = 0 := by rw [hz]; rfl
    refine br_t hz' ?_
    obtain ⟨_, _, hs⟩ := h
    rcases hs with ⟨rfl, hkn⟩ | ⟨rfl, hkn⟩ | ⟨rfl | rfl | rfl, rfl⟩
    · have e : k = 0 := hz
      subst e
      exact br_t (by decide : nI 0 = 0) hp
    · have e : k = 0 := hz
      subst e
      rw [ro_m0 ⟨rfl, rfl⟩] at hp
      exact br_f (by decide : ¬ nI 4 = 0) hp
    · have e : n = 0 := hz
      omega
    · have e : n = 0 := hz
      omega
    · have e : 2 * n = 0 := hz
      omega
  · have hne : ¬ (s = 4 ∧ k = 0) := by
      rintro ⟨rfl, rfl⟩
      exact absurd (show (0 : Nat) < 0 from hz) (Nat.lt_irrefl 0)
    have key : ∀ r v, v + r = n + 1 → wX_countObjects_24 post (nI s) (nI n) f3 (nI (ro_L s n k)) f5 f6 ro_BA ro_GA al ao (r + 1) (nI (ro_rk s n k (ro_L s n k - 1) v)) (nI v) := by
      intro r
      induction r with
      | zero =>
        intro v hv
        have e : v = n + 1 := by omega
        subst e
        rw [ro_top h hne hz]
        exact br_t (nI_lt (by omega) (by omega)) hp
      | succ r ih =>
        intro v hv
        refine br_f (nI_nlt (by omega) (by omega)) ?_
        refine ro_ways_list _ f3 f5 f6 s n k 0 v (fun _ => 0) al ao h hne hk hz (by omega) (fun i hi => by omega) (fun i hi => by omega) ?_
        refine nm_r (e' := nI (ro_rk s n k (ro_L s n k - 1) (v + 1))) ?_ (nm_r (nI_1 v) (ih (v + 1) (by omega)))
        have e2 : 8 * ro_pk (fun _ => 0) 0 + v = v := by show 8 * 0 + v = v; omega
        rw [nI_add, ro_rkB, ro_wyN hne hz (fun i hi => by omega) (by omega), e2]; rfl
    refine br_f (nI_ne0 hz (by omega)) ⟨n + 1 + 1, ?_⟩
    have := key (n + 1) 0 (by omega)
    rw [ro_rk0] at this
    exact this
theorem ro_start (post : SX → Prop) (f1 f2 f3' f4 f5 f6 f3 : Int32) (s n k : Nat) (al ao : Nat → Int32) (h : ro_VC s n k) (hk : s = 0 ∨ s = 4 → f3 = nI k) (hp : ∀ al : Nat → Int32, (∀ i, i < ro_L s n k → al i = nI (ro_dg (ro_L s n k) (ro_ob s n k 0) i)) → post (nI s, nI n, f3, nI (ro_L s n k), nI (ro_m s n k), nI 0, ro_BA, ro_GA, al, ao)) : wpX_start post (f1, f2, f3', f4, f5, f6, ro_BA, ro_GA, al, ao) (nI s) (nI n) f3 := by
  unfold wpX_start
  refine ro_len _ f3 f4 f5 f6 s n k ro_BA ro_GA al ao h hk ?_
  refine ro_cnO _ f3 f5 f6 s n k al ao h hk ?_
  exact ro_wo_list _ f3 (nI (ro_m s n k)) (nI 0) s n k 0 al ao h hk (ro_mL h) hp
