/-! the masks of the cuttings -/
def pm_tb (m i : Nat) : Bool :=
  if m / 2 ^ i % 2 = 0 then decide (ph_and (m : Int) ((2 ^ i : Nat) : Int) = 0) && !decide (ph_and (ph_shr (m : Int) (i : Int)) 1 = 1)
  else !decide (ph_and (m : Int) ((2 ^ i : Nat) : Int) = 0) && decide (ph_xor (m : Int) ((2 ^ i : Nat) : Int) = ((m - 2 ^ i : Nat) : Int)) && decide (ph_and (ph_shr (m : Int) (i : Int)) 1 = 1) && decide (ph_and (m : Int) (ph_xor ((2 ^ i : Nat) : Int) (-1)) = ((m - 2 ^ i : Nat) : Int))
def pm_ti (m : Nat) : Nat → Bool
  | 0 => true
  | i + 1 => pm_tb m i && pm_ti m i
def pm_tk : Nat → Nat → Bool
  | 0, m => pm_ti m 12
  | k + 1, m => pm_tk k (2 * m) && pm_tk k (2 * m + 1)
theorem pm_tk_12 : pm_tk 12 0 = true := by decide +kernel
theorem pm_shl_pow : ∀ i : Nat, i < 13 → ph_shl 1 (i : Int) = ((2 ^ i : Nat) : Int) := by decide +kernel
theorem pm_ti_of {m : Nat} : ∀ {k : Nat}, pm_ti m k = true → ∀ i, i < k → pm_tb m i = true
  | 0, _, i, hi => absurd hi (Nat.not_lt_zero i)
  | k + 1, h, i, hi => by
    have h2 : (pm_tb m k && pm_ti m k) = true := h
    rw [Bool.and_eq_true] at h2
    by_cases e : i = k
    · rw [e]; exact h2.1
    · exact pm_ti_of h2.2 i (by omega)
theorem pm_tk_of : ∀ (k m : Nat), pm_tk k m = true → ∀ n, m * 2 ^ k ≤ n → n < (m + 1) * 2 ^ k → pm_ti n 12 = true
  | 0, m, h, n, h0, h1 => by
    have e : n = m := by omega
    rw [e]; exact h
  | k + 1, m, h, n, h0, h1 => by
    have h2 : (pm_tk k (2 * m) && pm_tk k (2 * m + 1)) = true := h
    rw [Bool.and_eq_true] at h2
    have p : 2 ^ (k + 1) = 2 * 2 ^ k := by rw [Nat.pow_succ, Nat.mul_comm]
    rw [p] at h0 h1
    have e0 : m * (2 * 2 ^ k) = 2 * m * 2 ^ k := by rw [← Nat.mul_assoc, Nat.mul_comm m 2]
    have e1 : (m + 1) * (2 * 2 ^ k) = (2 * m + 1 + 1) * 2 ^ k := by rw [← Nat.mul_assoc]; congr 1; omega
    rw [e0] at h0
    rw [e1] at h1
    by_cases c : n < (2 * m + 1) * 2 ^ k
    · exact pm_tk_of k (2 * m) h2.1 n h0 c
    · exact pm_tk_of k (2 * m + 1) h2.2 n (by omega) h1
theorem pm_bits {m i : Nat} (hm : m < 4096) (hi : i < 12) : (m / 2 ^ i % 2 = 0 → ph_and (m : Int) ((2 ^ i : Nat) : Int) = 0 ∧ ¬ ph_and (ph_shr (m : Int) (i : Int)) 1 = 1) ∧ (¬ m / 2 ^ i % 2 = 0 → ¬ ph_and (m : Int) ((2 ^ i : Nat) : Int) = 0 ∧ ph_xor (m : Int) ((2 ^ i : Nat) : Int) = ((m - 2 ^ i : Nat) : Int) ∧ ph_and (ph_shr (m : Int) (i : Int)) 1 = 1 ∧ ph_and (m : Int) (ph_xor ((2 ^ i : Nat) : Int) (-1)) = ((m - 2 ^ i : Nat) : Int)) := by
  have h := pm_ti_of (pm_tk_of 12 0 pm_tk_12 m (by omega) (by omega)) i hi
  unfold pm_tb at h
  constructor
  · intro z
    rw [if_pos z] at h
    simp only [Bool.and_eq_true, Bool.not_eq_true', decide_eq_true_eq, decide_eq_false_iff_not] at h
    exact h
  · intro z
    rw [if_neg z] at h
    simp only [Bool.and_eq_true, Bool.not_eq_true', decide_eq_true_eq, decide_eq_false_iff_not] at h
    exact ⟨h.1.1.1, h.1.1.2, h.1.2, h.2⟩
/-- how many bits a mask has -/
def pm_pc : Nat → Nat → Nat
  | 0, _ => 0
  | k + 1, m => m % 2 + pm_pc k (m / 2)
theorem pm_pc_le : ∀ (k m : Nat), pm_pc k m ≤ k
  | 0, _ => Nat.le_refl _
  | k + 1, m => by
    have := pm_pc_le k (m / 2)
    show m % 2 + pm_pc k (m / 2) ≤ k + 1
    omega
theorem pm_pc_sub : ∀ (k m i : Nat), i < k → ¬ m / 2 ^ i % 2 = 0 → pm_pc k (m - 2 ^ i) + 1 = pm_pc k m
  | 0, _, _, h, _ => absurd h (Nat.not_lt_zero _)
  | k + 1, m, 0, _, hb => by
    rw [Nat.pow_zero, Nat.div_one] at hb
    show (m - 1) % 2 + pm_pc k ((m - 1) / 2) + 1 = m % 2 + pm_pc k (m / 2)
    have e : (m - 1) / 2 = m / 2 := by omega
    rw [e]; omega
  | k + 1, m, i + 1, h, hb => by
    have p : 2 ^ (i + 1) = 2 * 2 ^ i := by rw [Nat.pow_succ, Nat.mul_comm]
    rw [p] at hb ⊢
    rw [← Nat.div_div_eq_div_mul] at hb
    have ih := pm_pc_sub k (m / 2) i (by omega) hb
    show (m - 2 * 2 ^ i) % 2 + pm_pc k ((m - 2 * 2 ^ i) / 2) + 1 = m % 2 + pm_pc k (m / 2)
    have q : 2 ^ i ≤ m / 2 := by
      have q1 : 2 ^ i ≤ m / 2 ∨ m / 2 < 2 ^ i := by omega
      rcases q1 with q1 | q1
      · exact q1
      · rw [Nat.div_eq_of_lt q1] at hb; exact absurd rfl hb
    have e1 : (m - 2 * 2 ^ i) / 2 = m / 2 - 2 ^ i := by omega
    have e2 : (m - 2 * 2 ^ i) % 2 = m % 2 := by omega
    rw [e1, e2]; omega
theorem pm_pc_sb {m i : Nat} (hb : ¬ m / 2 ^ i % 2 = 0) : 2 ^ i ≤ m := by
  have q1 : 2 ^ i ≤ m ∨ m < 2 ^ i := by omega
  rcases q1 with q1 | q1
  · exact q1
  · rw [Nat.div_eq_of_lt q1] at hb; exact absurd rfl hb
