def ro_LA (a : Nat → Int64) (l : List Nat) : Prop := ∀ t, t < l.length → a t = lN (l.getD t 0)
theorem ro_lenY (post : Int32 → Prop) (f3 f4 f5 : Int32) (s n k : Nat) (yl yo : Nat → Int64) (h : ro_VC s n k) (hk : s = 0 ∨ s = 4 → f3 = nI k) (hp : post (nI (ro_L s n k))) : wpY_length post (nI s, nI n, f3, f4, f5, yl, yo) := by
  obtain ⟨h1, h7, hs⟩ := h
  rcases hs with ⟨rfl, hkn⟩ | ⟨rfl, hkn⟩ | ⟨rfl | rfl | rfl, rfl⟩
  · have e3 := hk (Or.inl rfl)
    subst e3
    exact br_t (by decide : nI 0 = 0) hp
  · have e3 := hk (Or.inr rfl)
    subst e3
    exact br_f (by decide : ¬ nI 4 = 0) (br_t (by decide : nI 4 = 4) hp)
  · exact br_f (by decide : ¬ nI 1 = 0) (br_f (by decide : ¬ nI 1 = 4) (br_f (by decide : ¬ nI 1 = 3) hp))
  · exact br_f (by decide : ¬ nI 2 = 0) (br_f (by decide : ¬ nI 2 = 4) (br_f (by decide : ¬ nI 2 = 3) hp))
  · have hp' : post (2 * nI n) := by rw [show (2 : Int32) = nI 2 from rfl, pk_mul]; exact hp
    exact br_f (by decide : ¬ nI 3 = 0) (br_f (by decide : ¬ nI 3 = 4) (br_t (by decide : nI 3 = 3) hp'))
theorem ro_w118 (post : SY → Prop) (J : Int32 → Int32 → (Nat → Int64) → (Nat → Int64) → Prop) (f1 f2 f3 f4 : Int32) (j : Nat) (l : List Nat) (yo : Nat → Int64) (hc : l.length ≤ 5040) (hl : ro_LA yo l) (hJ : ∀ yl, ro_LA yl l → J (nI (j + 1)) (nI l.length) yl yo) :
    ∀ r t yl, t + r = l.length → (∀ i, i < t → yl i = lN (l.getD i 0)) → wY_write_118 post J (nI j) f1 f2 f3 f4 (nI l.length) (r + 1) (nI t) yl yo := by
  intro r
  induction r with
  | zero =>
    intro t yl ht hy
    exact br_t (nI_le (by omega) (by omega)) (nm_r (nI_1 j) (hJ yl (fun i hi => hy i (by omega))))
  | succ r ih =>
    intro t yl ht hy
    have hin : vp_in (nI t) 5040 := vp_in_nI (by omega) (by decide)
    have ec : (nI t).toNatClampNeg = t := nI_clamp (by omega)
    refine br_f (nI_ge (by omega) (by omega)) ⟨hin, hin, nm_e (nm_r (nI_1 t) (ih (t + 1) _ (by omega) (fun i hi => ?_)))⟩
    rw [ec]
    rcases Nat.lt_or_ge i t with c | c
    · rw [pk_uLn (by omega)]; exact hy i c
    · have : i = t := by omega
      subst this; rw [pk_uLs]; exact hl i (by omega)
theorem ro_levlt {s n k j x : Nat} (hj : j ≤ 14) (h : x ∈ ro_lev s n k j) : x < 2 ^ 42 := by
  have h1 := ro_Mlt _ _ _ _ _ ((ro_levM s n k j x).mp h)
  have h2 : 8 ^ j ≤ 8 ^ 14 := Nat.pow_le_pow_right (by decide) hj
  have h3 : (8 : Nat) ^ 14 = 2 ^ 42 := by decide
  omega
theorem ro_w45 (post : SY → Prop) (J : Int32 → Int32 → (Nat → Int64) → (Nat → Int64) → Prop) (f3 f4 : Int32) (s n k j : Nat) (yl : Nat → Int64) (h : ro_VC s n k) (hne : ¬ (s = 4 ∧ k = 0)) (hk : s = 0 ∨ s = 4 → f3 = nI k) (hj : j < ro_L s n k) (hl : ro_LA yl (ro_lev s n k j)) (hJ : ∀ yl yo, ro_LA yl (ro_lev s n k (j + 1)) → J (nI (j + 1)) (nI (ro_lev s n k (j + 1)).length) yl yo) :
    ∀ r i yo, i + r = 8 * (ro_lev s n k j).length → ro_LA yo (ro_fl (ro_np s n k j (ro_lev s n k j)) (ro_nf (ro_lev s n k j)) i) → wY_write_45 post J (nI j) (nI s) (nI n) f3 f4 (nI (ro_lev s n k j).length) (r + 1) (nI (ro_fl (ro_np s n k j (ro_lev s n k j)) (ro_nf (ro_lev s n k j)) i).length) (nI i) yl yo := by
  have hcap := ro_cap h hne (Nat.le_of_lt hj)
  have hcap1 : (ro_lev s n k (j + 1)).length ≤ 5040 := ro_cap h hne (Nat.succ_le_of_lt hj)
  have h14 := ro_L14 h
  have e8 : (8 : Int32) * nI (ro_lev s n k j).length = nI (8 * (ro_lev s n k j).length) := pk_mul 8 _
  have hnx : ro_lev s n k (j + 1) = ro_fl (ro_np s n k j (ro_lev s n k j)) (ro_nf (ro_lev s n k j)) (8 * (ro_lev s n k j).length) := ro_nxfl s n k j _
  have hlt : ∀ i, i < (ro_lev s n k j).length → (ro_lev s n k j).getD i 0 < 2 ^ 42 := fun i hi => by
    rw [ro_gD _ _ hi]; exact ro_levlt (by omega) (List.getElem_mem hi)
  intro r
  induction r with
  | zero =>
    intro i yo hi hy
    have e : i = 8 * (ro_lev s n k j).length := by omega
    subst e
    refine br_t (by rw [e8]; exact nI_le (Nat.le_refl _) (by omega)) ⟨(ro_lev s n k (j + 1)).length + 1, ?_⟩
    rw [← hnx] at hy ⊢
    exact ro_w118 post J (nI s) (nI n) f3 f4 j (ro_lev s n k (j + 1)) yo hcap1 hy (fun yl hyl => hJ yl yo hyl) _ 0 yl (by omega) (fun i hi => by omega)
  | succ r ih =>
    intro i yo hi hy
    have hi8 : i / 8 < (ro_lev s n k j).length := by omega
    have d1 : nI i / 8 = nI (i / 8) := pk_div (a := i) (d := 8) (by omega) (by decide) (by decide)
    have d2 : nI i - nI i / 8 * 8 = nI (i % 8) := pk_rem (a := i) (d := 8) (by omega) (by decide) (by decide)
    have hin : vp_in (nI i / 8) 5040 := by rw [d1]; exact vp_in_nI (by omega) (by decide)
    have n8 : ¬ (8 : Int32) = 0 := by decide
    have ea : yl (nI i / 8).toNatClampNeg = lN ((ro_lev s n k j).getD (i / 8) 0) := by
      rw [d1, nI_clamp (by omega)]; exact hl _ hi8
    have hx42 := hlt _ hi8
    refine br_f (by rw [e8]; exact nI_ge (by omega) (by omega)) ⟨n8, hin, n8, ?_⟩
    rw [d2, ea]
    refine ro_goes _ f3 f4 (nI (ro_lev s n k j).length) s n k j (i % 8) ((ro_lev s n k j).getD (i / 8) 0) yl yo h hk hj (Nat.mod_lt _ (by decide)) (by omega) ?_
    have hpi : ro_ok s n k j (ro_stc s j ((ro_lev s n k j).getD (i / 8) 0)) (i % 8) = ro_np s n k j (ro_lev s n k j) i := rfl
    rw [hpi]
    have IH := ih (i + 1)
    rw [show ro_fl (ro_np s n k j (ro_lev s n k j)) (ro_nf (ro_lev s n k j)) (i + 1) = cond (ro_np s n k j (ro_lev s n k j) i) (ro_fl (ro_np s n k j (ro_lev s n k j)) (ro_nf (ro_lev s n k j)) i ++ [ro_nf (ro_lev s n k j) i]) (ro_fl (ro_np s n k j (ro_lev s n k j)) (ro_nf (ro_lev s n k j)) i) from rfl] at IH
    cases hb : ro_np s n k j (ro_lev s n k j) i
    · rw [hb] at IH
      exact br_t (by decide : ro_bi false = 0) (nm_r (nI_1 i) (IH yo (by omega) hy))
    · rw [hb] at IH
      have hlen : (ro_fl (ro_np s n k j (ro_lev s n k j)) (ro_nf (ro_lev s n k j)) i).length < 5040 := by
        rw [ro_flL]
        have c1 : ro_ct (ro_np s n k j (ro_lev s n k j)) (i + 1) ≤ ro_ct (ro_np s n k j (ro_lev s n k j)) (8 * (ro_lev s n k j).length) := ro_ctmono _ _ (by omega)
        have c2 : ro_ct (ro_np s n k j (ro_lev s n k j)) (i + 1) = ro_ct (ro_np s n k j (ro_lev s n k j)) i + cond (ro_np s n k j (ro_lev s n k j) i) 1 0 := rfl
        rw [hb] at c2
        have c3 : (ro_lev s n k (j + 1)).length = ro_ct (ro_np s n k j (ro_lev s n k j)) (8 * (ro_lev s n k j).length) := by rw [hnx, ro_flL]
        have c4 : ro_ct (ro_np s n k j (ro_lev s n k j)) (i + 1) = ro_ct (ro_np s n k j (ro_lev s n k j)) i + 1 := c2
        omega
      refine br_f (by decide : ¬ ro_bi true = 0) ⟨n8, hin, n8, vp_in_nI hlen (by decide), nm_e (nm_r (nI_1 _) (nm_r (nI_1 i) ?_))⟩
      rw [nI_clamp (by omega), nI_l (by omega), show (8 : Int64) = lN 8 from rfl, lN_mul, lN_add]
      have IH2 := IH (vp_updL yo (ro_fl (ro_np s n k j (ro_lev s n k j)) (ro_nf (ro_lev s n k j)) i).length (lN (8 * (ro_lev s n k j).getD (i / 8) 0 + i % 8))) (by omega)
      generalize ro_fl (ro_np s n k j (ro_lev s n k j)) (ro_nf (ro_lev s n k j)) i = l at *
      have e1 : (l ++ [ro_nf (ro_lev s n k j) i]).length = l.length + 1 := by rw [List.length_append]; rfl
      have IH3 := IH2 (fun t ht => by
        change t < (l ++ [ro_nf (ro_lev s n k j) i]).length at ht
        change _ = lN ((l ++ [ro_nf (ro_lev s n k j) i]).getD t 0)
        rw [e1] at ht
        rcases Nat.lt_or_ge t l.length with c | c
        · rw [pk_uLn (by omega), ro_gA1 _ _ _ c]; exact hy t c
        · have : t = l.length := by omega
          subst this
          rw [pk_uLs, ro_gA2]; rfl)
      change wY_write_45 post J (nI j) (nI s) (nI n) f3 f4 (nI (ro_lev s n k j).length) (r + 1) (nI (l ++ [ro_nf (ro_lev s n k j) i]).length) (nI (i + 1)) yl _ at IH3
      rw [e1] at IH3
      exact IH3
theorem ro_w33 (post : SY → Prop) (f3 f4 : Int32) (s n k : Nat) (h : ro_VC s n k) (hne : ¬ (s = 4 ∧ k = 0)) (hk : s = 0 ∨ s = 4 → f3 = nI k) (hp : ∀ yl yo, ro_LA yl (ro_obs s n k) → post (nI s, nI n, f3, f4, nI (ro_m s n k), yl, yo)) :
    ∀ r j yl yo, j + r = ro_L s n k → ro_LA yl (ro_lev s n k j) → wY_write_33 post (nI s) (nI n) f3 f4 (r + 1) (nI j) (nI (ro_lev s n k j).length) yl yo := by
  have h14 := ro_L14 h
  intro r
  induction r with
  | zero =>
    intro j yl yo hj hl
    have e : j = ro_L s n k := by omega
    subst e
    unfold wY_write_33
    refine ro_lenY _ f3 f4 _ s n k yl yo h hk ?_
    refine br_t (nI_le (Nat.le_refl _) (by omega)) ?_
    have := hp yl yo (by rw [ro_obs1 hne]; exact hl)
    unfold ro_m at this
    rw [ro_obs1 hne] at this
    exact this
  | succ r ih =>
    intro j yl yo hj hl
    unfold wY_write_33
    refine ro_lenY _ f3 f4 _ s n k yl yo h hk ?_
    refine br_f (nI_ge (by omega) (by omega)) ⟨8 * (ro_lev s n k j).length + 1, ?_⟩
    exact ro_w45 post _ f3 f4 s n k j yl h hne hk (by omega) hl (fun yl' yo' h' => ih (j + 1) yl' yo' (by omega) h') _ 0 yo (by omega) (fun t ht => absurd ht (Nat.not_lt_zero t))
theorem ro_write (post : SY → Prop) (f3 f4 f5 : Int32) (s n k : Nat) (yl yo : Nat → Int64) (h : ro_VC s n k) (hk : s = 0 ∨ s = 4 → f3 = nI k) (hp : ∀ yl yo, ro_LA yl (ro_obs s n k) → post (nI s, nI n, f3, f4, nI (ro_m s n k), yl, yo)) : wpY_write post (nI s, nI n, f3, f4, f5, yl, yo) := by
  have h14 := ro_L14 h
  unfold wpY_write
  refine ro_lenY _ f3 f4 f5 s n k yl yo h hk ?_
  by_cases hne : s = 4 ∧ k = 0
  · have hm := ro_m0 (n := n) hne
    obtain ⟨rfl, rfl⟩ := hne
    refine br_t (by decide : nI 0 = 0) (br_t (by decide : nI 4 = 4) (nm_e ⟨1, ?_⟩))
    unfold wY_write_33
    refine ro_lenY _ f3 f4 0 4 n 0 _ yo h hk ?_
    refine br_t (by decide : nI 0 ≤ 0) ?_
    have := hp (vp_updL yl 0 0) yo (fun t ht => by
      have : (ro_obs 4 n 0).length = 0 := hm
      omega)
    rw [hm] at this
    exact this
  · have h20 : wY_write_20 post (nI s) (nI n) f3 f4 f5 yl yo := by
      refine nm_e ⟨ro_L s n k + 1, ?_⟩
      refine ro_w33 post f3 f4 s n k h hne hk hp (ro_L s n k) 0 _ yo (by omega) (fun t ht => ?_)
      have e : t = 0 := by
        have : t < 1 := ht
        omega
      subst e
      exact pk_uLs
    refine br_c (fun hz => br_f ?_ h20) (fun _ => h20)
    intro h4
    have hs : s = 4 := by
      obtain ⟨h1, h7, hs⟩ := h
      have : nI s = nI 4 := h4
      rw [nI_eq (by omega) (by omega)] at this
      exact this
    subst hs
    have hz' : nI k = nI 0 := hz
    rw [nI_eq (by have := h.2.2; have := h.2.1; omega) (by omega)] at hz'
    exact hne ⟨rfl, hz'⟩
