def ro_al : Nat → (Nat → Bool) → Bool
  | 0, _ => true
  | n + 1, f => f n && ro_al n f
theorem ro_alE {f : Nat → Bool} : ∀ n, ro_al n f = true → ∀ i, i < n → f i = true := by
  intro n
  induction n with
  | zero => intro _ i hi; omega
  | succ n ih =>
    intro h i hi
    have h' : f n = true ∧ ro_al n f = true := by rw [← Bool.and_eq_true]; exact h
    rcases Nat.lt_or_ge i n with c | c
    · exact ih h'.2 i c
    · have : i = n := by omega
      subst this; exact h'.1
def ro_fc : Nat → Nat
  | 0 => 1
  | n + 1 => (n + 1) * ro_fc n
def ro_ch (a b : Nat) : Nat := cond (Nat.ble b a) (ro_fc a / (ro_fc b * ro_fc (a - b))) 0
def ro_cg : Nat → Nat → Nat
  | 0, _ => 1
  | r + 1, g => g * ro_cg r g + ro_cg r (g + 1)
def ro_pc (q : Nat) : Nat := q % 2 + q / 2 % 2 + q / 4 % 2 + q / 8 % 2 + q / 16 % 2 + q / 32 % 2 + q / 64 % 2
/-- the closed form of the number of completions -/
def ro_cf (s n k j q : Nat) : Nat := match s with
  | 0 => ro_ch (n - q) (k - j)
  | 1 => ro_fc (n - j)
  | 2 => ro_cg (n - j) q
  | 3 => ro_ch (2 * n - j) (n - q) - cond (Nat.ble n q) 0 (ro_ch (2 * n - j) (n - q - 1))
  | _ => cond (Nat.ble k j) (cond (Nat.beq q n) 1 0) (ro_ch (n - q + (k - j) - 1) (k - j - 1))
/-- the states that a beginning of j numbers can have -/
def ro_RR (s n k j q : Nat) : Bool := match s with
  | 0 => Nat.ble q n
  | 1 => Nat.blt q (2 ^ n) && Nat.beq (ro_pc q) j
  | 2 => Nat.ble q j
  | 3 => Nat.ble q n && (Nat.ble j (2 * q) && Nat.ble q j)
  | _ => Nat.ble q n && (Nat.blt j k || Nat.beq q n)
def ro_wt (s n k j q : Nat) : Nat := match s with
  | 0 => 2 ^ (n - q)
  | s => ro_cf s n k j q
def ro_qb (s : Nat) : Nat := match s with
  | 1 => 128
  | _ => 15
def ro_im (a b : Bool) : Bool := match a with
  | true => b
  | false => true
def ro_st1 (s n k j q : Nat) : Bool := ro_im (ro_RR s n k j q) (ro_al 8 (fun v => ro_im (ro_ok s n k j q v) (ro_RR s n k (j + 1) (ro_de s q v))) && (Nat.beq (ro_cf s n k j q) (ro_s8 (fun v => cond (ro_ok s n k j q v) (ro_cf s n k (j + 1) (ro_de s q v)) 0)) && (Nat.ble (ro_s8 (fun v => cond (ro_ok s n k j q v) (ro_wt s n k (j + 1) (ro_de s q v)) 0)) (ro_wt s n k j q) && ro_al 8 (fun v => ro_im (ro_ok s n k j q v) (Nat.ble v n)))))
def ro_st2 (s n k q : Nat) : Bool := ro_im (ro_RR s n k (ro_L s n k) q) (Nat.beq (ro_cf s n k (ro_L s n k) q) 1)
def ro_st3 (s n k j q : Nat) : Bool := ro_im (ro_RR s n k j q) (Nat.ble 1 (ro_wt s n k j q))
def ro_cfg (s n k : Nat) : Bool := ro_al (ro_L s n k) (fun j => ro_al (ro_qb s) (fun q => ro_st1 s n k j q)) && (ro_al (ro_qb s) (fun q => ro_st2 s n k q) && (ro_al (ro_L s n k + 1) (fun j => ro_al (ro_qb s) (fun q => ro_st3 s n k j q)) && (Nat.ble (ro_wt s n k 0 0) 5040 && (Nat.ble (ro_L s n k) 14))))
theorem ro_c0 : ro_al 7 (fun n => ro_al (n + 2) (fun k => ro_cfg 0 (n + 1) k)) = true := by decide +kernel
theorem ro_c1 : ro_al 7 (fun n => ro_cfg 1 (n + 1) 0) = true := by decide +kernel
theorem ro_c2 : ro_al 7 (fun n => ro_cfg 2 (n + 1) 0) = true := by decide +kernel
theorem ro_c3 : ro_al 7 (fun n => ro_cfg 3 (n + 1) 0) = true := by decide +kernel
theorem ro_c4 : ro_al 7 (fun n => ro_al (n + 1) (fun k => ro_cfg 4 (n + 1) (k + 1))) = true := by decide +kernel
