def ph_J (x : Int) : Int32 := Int32.ofInt x
def ph_f (g : Int → Int) : Nat → Int32 := fun k => ph_J (g (k : Int))
def ph_R (x : Int) : Prop := -2147483648 ≤ x ∧ x ≤ 2147483647
def ph_u (g : Int → Int) (i v : Int) : Int → Int := fun j => if j = i then v else g j
theorem ph_J_add (a b : Int) : ph_J a + ph_J b = ph_J (a + b) := (Int32.ofInt_add a b).symm
theorem ph_J_sub (a b : Int) : ph_J a - ph_J b = ph_J (a - b) := (Int32.ofInt_sub a b).symm
theorem ph_J_mul (a b : Int) : ph_J a * ph_J b = ph_J (a * b) := (Int32.ofInt_mul a b).symm
theorem ph_J_neg (a : Int) : - ph_J a = ph_J (-a) := (Int32.ofInt_neg a).symm
theorem ph_J_int {x : Int} (h : ph_R x) : (ph_J x).toInt = x := Int32.toInt_ofInt_of_le (by have := h.1; simpa using this) (by have := h.2; omega)
theorem ph_J_of (x : Int32) : ph_J x.toInt = x := Int32.ofInt_toInt x
theorem ph_R_of (x : Int32) : ph_R x.toInt := ⟨Int32.le_toInt x, by have := Int32.toInt_lt x; omega⟩
theorem ph_J_lt {a b : Int} (ha : ph_R a) (hb : ph_R b) : ph_J a < ph_J b ↔ a < b := by
  rw [Int32.lt_iff_toInt_lt, ph_J_int ha, ph_J_int hb]
theorem ph_J_le {a b : Int} (ha : ph_R a) (hb : ph_R b) : ph_J a ≤ ph_J b ↔ a ≤ b := by
  rw [Int32.le_iff_toInt_le, ph_J_int ha, ph_J_int hb]
theorem ph_J_eq {a b : Int} (ha : ph_R a) (hb : ph_R b) : ph_J a = ph_J b ↔ a = b := by
  rw [← Int32.toInt_inj, ph_J_int ha, ph_J_int hb]
theorem ph_J_nat (n : Nat) : ph_J (n : Int) = nI n := by
  show Int32.ofInt (n : Int) = Int32.ofNat n
  rfl
theorem ph_J_in {i : Int} {n : Nat} (h : 0 ≤ i ∧ i < (n : Int)) (hn : n ≤ 2147483648) : vp_in (ph_J i) n := by
  rw [vp_in_iff, ph_J_int ⟨by omega, by omega⟩]
  exact h
theorem ph_J_cl {i : Int} {n : Nat} (h : 0 ≤ i ∧ i < (n : Int)) (hn : n ≤ 2147483648) : (((ph_J i).toNatClampNeg : Nat) : Int) = i := by
  show ((ph_J i).toInt.toNat : Int) = i
  rw [ph_J_int ⟨by omega, by omega⟩]
  omega
theorem ph_f_at {g : Int → Int} {i : Int} {n : Nat} (h : 0 ≤ i ∧ i < (n : Int)) (hn : n ≤ 2147483648) : ph_f g (ph_J i).toNatClampNeg = ph_J (g i) := by
  show ph_J (g _) = _
  rw [ph_J_cl h hn]
theorem ph_f_up {g : Int → Int} {i v : Int} {n : Nat} (h : 0 ≤ i ∧ i < (n : Int)) (hn : n ≤ 2147483648) : upd (ph_f g) (ph_J i).toNatClampNeg (ph_J v) = ph_f (ph_u g i v) := by
  funext k
  have hc := ph_J_cl h hn
  by_cases hk : k = (ph_J i).toNatClampNeg
  · subst hk
    rw [pk_us]
    show _ = ph_J (ph_u g i v _)
    rw [hc]
    simp [ph_u]
  · rw [pk_un hk]
    show ph_J (g k) = ph_J (ph_u g i v k)
    unfold ph_u
    rw [if_neg (by omega)]
theorem ph_J_div {a b : Int} (ha : 0 ≤ a ∧ ph_R a) (hb : 0 < b ∧ ph_R b) : ph_J a / ph_J b = ph_J (a / b) := by
  have h1 := ha.2; have h2 := hb.2
  unfold ph_R at h1 h2
  have z1 : Int32.minValue.toInt = -2147483648 := by decide
  have z2 : Int32.maxValue.toInt = 2147483647 := by decide
  have e := Int32.ofInt_tdiv (a := a) (b := b) (by rw [z1]; exact h1.1) (by rw [z2]; exact h1.2) (by rw [z1]; exact h2.1) (by rw [z2]; exact h2.2)
  rw [Int.tdiv_eq_ediv_of_nonneg ha.1] at e
  exact e.symm
theorem ph_J_rem {a b : Int} (ha : 0 ≤ a ∧ ph_R a) (hb : 0 < b ∧ ph_R b) : ph_J a - ph_J a / ph_J b * ph_J b = ph_J (a % b) := by
  rw [ph_J_div ha hb, ph_J_mul, ph_J_sub]
  congr 1
  have := Int.emod_def a b
  rw [this, Int.mul_comm]
theorem ph_J_nz {b : Int} (hb : 0 < b ∧ ph_R b) : ¬ ph_J b = 0 := by
  intro h
  have h2 : ph_J b = ph_J 0 := h
  rw [ph_J_eq hb.2 ⟨by decide, by decide⟩] at h2
  omega
def ph_and (a b : Int) : Int := (ph_J a &&& ph_J b).toInt
def ph_xor (a b : Int) : Int := (ph_J a ^^^ ph_J b).toInt
def ph_shl (a b : Int) : Int := (ph_J a <<< (ph_J b &&& 31)).toInt
def ph_shr (a b : Int) : Int := (ph_J a >>> (ph_J b &&& 31)).toInt
theorem ph_J_and (a b : Int) : ph_J a &&& ph_J b = ph_J (ph_and a b) := (ph_J_of _).symm
theorem ph_J_xor (a b : Int) : ph_J a ^^^ ph_J b = ph_J (ph_xor a b) := (ph_J_of _).symm
theorem ph_J_shl (a b : Int) : ph_J a <<< (ph_J b &&& 31) = ph_J (ph_shl a b) := (ph_J_of _).symm
theorem ph_J_shr (a b : Int) : ph_J a >>> (ph_J b &&& 31) = ph_J (ph_shr a b) := (ph_J_of _).symm
def ph_ab (a : Int) : Int := if 0 ≤ a then a else 0 - a
theorem ph_J_abs {a : Int} (ha : ph_R a) : (if (0 : Int32) ≤ ph_J a then ph_J a else 0 - ph_J a) = ph_J (ph_ab a) := by
  have h0 : (0 : Int32) ≤ ph_J a ↔ 0 ≤ a := ph_J_le (a := 0) ⟨by decide, by decide⟩ ha
  unfold ph_ab
  by_cases h : 0 ≤ a
  · rw [if_pos (h0.mpr h), if_pos h]
  · rw [if_neg (fun q => h (h0.mp q)), if_neg h]
    exact ph_J_sub 0 a
theorem ph_J_max {a b : Int} (ha : ph_R a) (hb : ph_R b) : (if ph_J a < ph_J b then ph_J b else ph_J a) = ph_J (max a b) := by
  by_cases h : a < b
  · rw [if_pos ((ph_J_lt ha hb).mpr h), Int.max_eq_right (by omega)]
  · rw [if_neg (fun q => h ((ph_J_lt ha hb).mp q)), Int.max_eq_left (by omega)]
theorem ph_J_min {a b : Int} (ha : ph_R a) (hb : ph_R b) : (if ph_J b < ph_J a then ph_J b else ph_J a) = ph_J (min a b) := by
  by_cases h : b < a
  · rw [if_pos ((ph_J_lt hb ha).mpr h), Int.min_eq_right (by omega)]
  · rw [if_neg (fun q => h ((ph_J_lt hb ha).mp q)), Int.min_eq_left (by omega)]
def ph_L (x : Int) : Int64 := Int64.ofInt x
theorem ph_J_long {x : Int} (h : ph_R x) : (ph_J x).toInt64 = ph_L x := by
  rw [← Int64.toInt_inj, Int32.toInt_toInt64, ph_J_int h]
  unfold ph_R at h
  exact (Int64.toInt_ofInt_of_le (by omega) (by omega)).symm
def ph_cm (a b : Int) : Int := if a < b then -1 else if a = b then 0 else 1
theorem ph_L_int {x : Int} (h : ph_R x) : (ph_L x).toInt = x := by
  unfold ph_R at h
  exact Int64.toInt_ofInt_of_le (by omega) (by omega)
theorem ph_L_cmp {a b : Int} (ha : ph_R a) (hb : ph_R b) : lg_cmp (ph_L a) (ph_L b) = ph_J (ph_cm a b) := by
  have h1 : ph_L a > ph_L b ↔ b < a := by
    show ph_L b < ph_L a ↔ _
    rw [Int64.lt_iff_toInt_lt, ph_L_int ha, ph_L_int hb]
  have h2 : ph_L a = ph_L b ↔ a = b := by
    rw [← Int64.toInt_inj, ph_L_int ha, ph_L_int hb]
  unfold lg_cmp ph_cm
  by_cases c1 : b < a
  · rw [if_pos (h1.mpr c1), if_neg (by omega), if_neg (by omega)]
    rfl
  · rw [if_neg (fun q => c1 (h1.mp q))]
    by_cases c2 : a = b
    · rw [if_pos (h2.mpr c2), if_neg (by omega), if_pos c2]
      rfl
    · rw [if_neg (fun q => c2 (h2.mp q)), if_pos (by omega)]
      rfl
def ph_lt (a b : Int) (A B : Prop) : Prop := ph_R a ∧ ph_R b ∧ (a < b → A) ∧ (¬ a < b → B)
def ph_eq (a b : Int) (A B : Prop) : Prop := ph_R a ∧ ph_R b ∧ (a = b → A) ∧ (¬ a = b → B)
def ph_ix (i n : Int) (A : Prop) : Prop := (0 ≤ i ∧ i < n) ∧ A
def ph_dv (a b : Int) (A : Prop) : Prop := ((0 ≤ a ∧ ph_R a) ∧ (0 < b ∧ ph_R b)) ∧ A
def ph_bo (r : Int) (A : Prop) : Prop := (r = 0 ∨ r = 1) ∧ A
def ph_rr (a : Int) (A : Prop) : Prop := ph_R a ∧ A
def ph_r2 (a b : Int) (A : Prop) : Prop := (ph_R a ∧ ph_R b) ∧ A
def ph_nm {α : Type} (e : α) (A : α → Prop) : Prop := ∀ x, x = e → A x
def ph_it {τ : Type _} (bot : τ) (B : τ → τ) : Nat → τ
  | 0 => bot
  | n + 1 => B (ph_it bot B n)
def ph_T : List Cond := lw_tbl.filter goodWord
theorem ph_mem {w : Cond} (h : w ∈ lw_tbl) (g : goodWord w = true) : w ∈ ph_T := List.mem_filter.mpr ⟨h, g⟩
theorem ph_goodT : ∀ w ∈ ph_T, goodWord w = true := fun _ h => (List.mem_filter.mp h).2
theorem ph_goodIn {big ws : List Cond} (hb : ∀ w ∈ ph_T, w ∈ big) (hw : ∀ w ∈ ws, w ∈ ph_T) : GoodIn big ws := fun w h => ⟨hb w (hw w h), good_of_word (ph_goodT w (hw w h))⟩
