def ro_TB (j : Nat) : Int32 := nI (ro_ch (j / 16) (j % 16))
def ro_TG (j : Nat) : Int32 := cond (Nat.blt (j / 8 + j % 8) 8) (nI (ro_cg (j / 8) (j % 8 + 1))) 0
def ro_BA (j : Nat) : Int32 := if j < 256 then ro_TB j else 0
def ro_GA (j : Nat) : Int32 := if j < 64 then ro_TG j else 0
def ro_bn (p0 p1 : Int32) : Int32 := if p0 < 0 then 0 else if 16 ≤ p0 then 0 else if p1 < 0 then 0 else if p1 ≤ p0 then ro_BA ((p0 * 16) + p1).toNatClampNeg else 0
def ro_gn (p0 p1 : Int32) : Int32 := if p0 < 0 then 0 else if 8 ≤ p0 then 0 else if p1 < 0 then 0 else if p1 < 8 then ro_GA ((p0 * 8) + p1).toNatClampNeg else 0
def ro_w0 (n k j q v : Nat) : Int32 := if v < q then 0 else ro_bn ((nI n - 1) - nI v) ((nI k - 1) - nI j)
def ro_w2 (n j q v : Nat) : Int32 := if nI v ≤ (nI q - 1) + 1 then (if nI v ≤ nI q - 1 then ro_gn ((nI n - 1) - nI j) (nI q - 1) else ro_gn ((nI n - 1) - nI j) (nI v)) else 0
def ro_w3 (n j q v : Nat) : Int32 := if nI (2 * (v + q)) - nI (j + 1) < 0 then 0 else if nI (2 * (v + q)) - nI (j + 1) ≤ (nI (2 * n) - 1) - nI j then ro_bn ((nI (2 * n) - 1) - nI j) ((((nI (2 * n) - 1) - nI j) - (nI (2 * (v + q)) - nI (j + 1))) / 2) - ro_bn ((nI (2 * n) - 1) - nI j) ((((nI (2 * n) - 1) - nI j) - (nI (2 * (v + q)) - nI (j + 1))) / 2 - 1) else 0
def ro_w4 (n k j q v : Nat) : Int32 := if (nI k - 1) - nI j = 0 then (if (nI n - nI v) - nI q = 0 then 1 else 0) else if 0 ≤ (nI n - nI v) - nI q then ro_bn ((((nI n - nI v) - nI q) + ((nI k - 1) - nI j)) - 1) (((nI k - 1) - nI j) - 1) else 0
def ro_cw (s n k : Nat) (w : Nat → Nat → Nat → Int32) (b : Nat) : Bool := ro_al (ro_L s n k) (fun j => ro_al 15 (fun q => ro_im (ro_RR s n k j q) (ro_al b (fun v => decide (w j q v = nI (ro_wz s n k j q v))))))
theorem ro_d0 : ro_al 7 (fun n => ro_al (n + 2) (fun k => ro_cw 0 (n + 1) k (ro_w0 (n + 1) k) 8)) = true := by decide +kernel
theorem ro_d2 : ro_al 7 (fun n => ro_cw 2 (n + 1) 0 (ro_w2 (n + 1)) 8) = true := by decide +kernel
theorem ro_d3 : ro_al 7 (fun n => ro_cw 3 (n + 1) 0 (ro_w3 (n + 1)) 2) = true := by decide +kernel
theorem ro_d4 : ro_al 7 (fun n => ro_al (n + 2) (fun k => ro_cw 4 (n + 1) k (ro_w4 (n + 1) k) 8)) = true := by decide +kernel
theorem ro_cwE {s n k : Nat} {w : Nat → Nat → Nat → Int32} {b : Nat} (h : ro_cw s n k w b = true) {j q v : Nat} (hj : j < ro_L s n k) (hq : q < 15) (hr : ro_RR s n k j q = true) (hv : v < b) : w j q v = nI (ro_wz s n k j q v) :=
  of_decide_eq_true (ro_alE _ (ro_imE (ro_alE _ (ro_alE _ h j hj) q hq) hr) v hv)
theorem ro_e0 {n k j q v : Nat} (h : ro_VC 0 n k) (hj : j < ro_L 0 n k) (hr : ro_RR 0 n k j q = true) (hv : v < 8) : ro_w0 n k j q v = nI (ro_wz 0 n k j q v) := by
  have hq := ro_RRq h (Nat.le_of_lt hj) hr
  obtain ⟨h1, h7, h⟩ := h
  obtain ⟨n, rfl⟩ : ∃ p, n = p + 1 := ⟨n - 1, by omega⟩
  exact ro_cwE (ro_alE _ (ro_alE _ ro_d0 n (by omega)) k (by omega)) hj hq hr hv
theorem ro_e4 {n k j q v : Nat} (h : ro_VC 4 n k) (hj : j < ro_L 4 n k) (hr : ro_RR 4 n k j q = true) (hv : v < 8) : ro_w4 n k j q v = nI (ro_wz 4 n k j q v) := by
  have hq := ro_RRq h (Nat.le_of_lt hj) hr
  obtain ⟨h1, h7, h⟩ := h
  obtain ⟨n, rfl⟩ : ∃ p, n = p + 1 := ⟨n - 1, by omega⟩
  exact ro_cwE (ro_alE _ (ro_alE _ ro_d4 n (by omega)) k (by omega)) hj hq hr hv
theorem ro_e2 {n k j q v : Nat} (h : ro_VC 2 n k) (hj : j < ro_L 2 n k) (hr : ro_RR 2 n k j q = true) (hv : v < 8) : ro_w2 n j q v = nI (ro_wz 2 n k j q v) := by
  have hq := ro_RRq h (Nat.le_of_lt hj) hr
  obtain ⟨h1, h7, h⟩ := h
  obtain ⟨n, rfl⟩ : ∃ p, n = p + 1 := ⟨n - 1, by omega⟩
  have hk : k = 0 := by omega
  subst hk
  exact ro_cwE (ro_alE _ ro_d2 n (by omega)) hj hq hr hv
theorem ro_e3 {n k j q v : Nat} (h : ro_VC 3 n k) (hj : j < ro_L 3 n k) (hr : ro_RR 3 n k j q = true) (hv : v < 2) : ro_w3 n j q v = nI (ro_wz 3 n k j q v) := by
  have hq := ro_RRq h (Nat.le_of_lt hj) hr
  obtain ⟨h1, h7, h⟩ := h
  obtain ⟨n, rfl⟩ : ∃ p, n = p + 1 := ⟨n - 1, by omega⟩
  have hk : k = 0 := by omega
  subst hk
  exact ro_cwE (ro_alE _ ro_d3 n (by omega)) hj hq hr hv
/-! small rows on nI -/
theorem ro_16 {a : Nat} (ha : a < 2 ^ 31) (h : ¬ (16 : Int32) ≤ nI a) : a < 16 := by
  rcases Nat.lt_or_ge a 16 with c | c
  · exact c
  · exact absurd (nI_le (a := 16) (b := a) c ha) h
theorem ro_8 {a : Nat} (ha : a < 2 ^ 31) (h : ¬ (8 : Int32) ≤ nI a) : a < 8 := by
  rcases Nat.lt_or_ge a 8 with c | c
  · exact c
  · exact absurd (nI_le (a := 8) (b := a) c ha) h
theorem ro_wpB (post : Int32 → Prop) (f1 f2 f3 f4 f5 f6 : Int32) (al ao : Nat → Int32) (p0 p1 : Int32) (hp : post (ro_bn p0 p1)) : wpX_binomial post (f1, f2, f3, f4, f5, f6, ro_BA, ro_GA, al, ao) p0 p1 := by
  unfold ro_bn at hp
  by_cases h0 : p0 < 0
  · rw [if_pos h0] at hp; exact br_t h0 hp
  rw [if_neg h0] at hp
  by_cases h1 : 16 ≤ p0
  · rw [if_pos h1] at hp; exact br_f h0 (br_t h1 hp)
  rw [if_neg h1] at hp
  by_cases h2 : p1 < 0
  · rw [if_pos h2] at hp; exact br_f h0 (br_f h1 (br_t h2 hp))
  rw [if_neg h2] at hp
  by_cases h3 : p1 ≤ p0
  · rw [if_pos h3] at hp
    refine br_f h0 (br_f h1 (br_f h2 (br_t h3 ⟨?_, hp⟩)))
    obtain ⟨a, ha, rfl⟩ := nI_of h0
    obtain ⟨b, hb, rfl⟩ := nI_of h2
    have a16 := ro_16 ha h1
    have hab := (nI_leI hb ha).mp h3
    have e : nI a * 16 + nI b = nI (a * 16 + b) := by
      rw [← nI_add, ← pk_mul]; rfl
    rw [e]
    exact vp_in_nI (by omega) (by decide)
  · rw [if_neg h3] at hp; exact br_f h0 (br_f h1 (br_f h2 (br_f h3 hp)))
theorem ro_wpG (post : Int32 → Prop) (f1 f2 f3 f4 f5 f6 : Int32) (al ao : Nat → Int32) (p0 p1 : Int32) (hp : post (ro_gn p0 p1)) : wpX_groupingEnds post (f1, f2, f3, f4, f5, f6, ro_BA, ro_GA, al, ao) p0 p1 := by
  unfold ro_gn at hp
  by_cases h0 : p0 < 0
  · rw [if_pos h0] at hp; exact br_t h0 hp
  rw [if_neg h0] at hp
  by_cases h1 : 8 ≤ p0
  · rw [if_pos h1] at hp; exact br_f h0 (br_t h1 hp)
  rw [if_neg h1] at hp
  by_cases h2 : p1 < 0
  · rw [if_pos h2] at hp; exact br_f h0 (br_f h1 (br_t h2 hp))
  rw [if_neg h2] at hp
  by_cases h3 : p1 < 8
  · rw [if_pos h3] at hp
    refine br_f h0 (br_f h1 (br_f h2 (br_t h3 ⟨?_, hp⟩)))
    obtain ⟨a, ha, rfl⟩ := nI_of h0
    obtain ⟨b, hb, rfl⟩ := nI_of h2
    have a8 := ro_8 ha h1
    have b8 := ro_8 hb (Int32.not_le.mpr h3)
    have e : nI a * 8 + nI b = nI (a * 8 + b) := by
      rw [← nI_add, ← pk_mul]; rfl
    rw [e]
    exact vp_in_nI (by omega) (by decide)
  · rw [if_neg h3] at hp; exact br_f h0 (br_f h1 (br_f h2 (br_f h3 hp)))
theorem ro_lem1 {a g : Nat} (ha : a < 2 ^ 30) (hg : g < 2 ^ 30) : nI a ≤ nI g - 1 ↔ a + 1 ≤ g := by
  rw [Int32.le_iff_toInt_le, nI_toInt (by omega)]
  have := pk_sub_toInt hg (b := 1) (by decide)
  rw [show nI 1 = 1 from rfl] at this
  rw [this]; omega
theorem ro_bit (d : Nat → Nat) (v : Nat) : ∀ j, (ro_sd 1 d j).testBit v = true ↔ ∃ i, i < j ∧ d i = v := by
  intro j
  induction j with
  | zero =>
    constructor
    · intro h
      have h' : (0 : Nat).testBit v = true := h
      rw [Nat.zero_testBit] at h'; cases h'
    · rintro ⟨i, hi, _⟩; omega
  | succ j ih =>
    show (ro_sd 1 d j ||| 2 ^ d j).testBit v = true ↔ _
    rw [Nat.testBit_or, Bool.or_eq_true, ih, Nat.testBit_two_pow, decide_eq_true_iff]
    constructor
    · rintro (⟨i, hi, e⟩ | e)
      · exact ⟨i, by omega, e⟩
      · exact ⟨j, by omega, e⟩
    · rintro ⟨i, hi, e⟩
      rcases Nat.lt_or_ge i j with c | c
      · exact Or.inl ⟨i, c, e⟩
      · have : i = j := by omega
        subst this; exact Or.inr e
theorem ro_fcS {f : Nat} (h : 2 ≤ f) : ro_fc (f - 1) * f = ro_fc (f + 1 - 1) := by
  obtain ⟨g, rfl⟩ : ∃ g, f = g + 1 := ⟨f - 1, by omega⟩
  show ro_fc g * (g + 1) = (g + 1) * ro_fc g
  exact Nat.mul_comm _ _
