/-! ways: what both searches end with -/
def pm_nb (c n : Int) : Prop := (0 ≤ c ∧ c < 144) ∧ (0 ≤ n ∧ n < 144) ∧ (n = c - 12 ∨ (n = c - 1 ∧ 0 < c % 12) ∨ (n = c + 1 ∧ c % 12 < 11) ∨ n = c + 12)
theorem pm_nb_sym {c n : Int} (h : pm_nb c n) : pm_nb n c := by
  obtain ⟨h1, h2, h3⟩ := h
  refine ⟨h2, h1, ?_⟩
  rcases h3 with h3 | ⟨h3, h4⟩ | ⟨h3, h4⟩ | h3
  · exact Or.inr (Or.inr (Or.inr (by omega)))
  · exact Or.inr (Or.inr (Or.inl ⟨by omega, by omega⟩))
  · exact Or.inr (Or.inl ⟨by omega, by omega⟩)
  · exact Or.inl (by omega)
def pm_bs (c k : Int) : Int := if k = 0 then (if 12 ≤ c then c - 12 else -1) else if k = 1 then (if 0 < c % 12 then c - 1 else -1) else if k = 2 then (if c % 12 < 11 then c + 1 else -1) else (if c < 132 then c + 12 else -1)
theorem pm_bs_nb {c k : Int} (hc : 0 ≤ c ∧ c < 144) (h : pm_bs c k ≠ -1) : pm_nb c (pm_bs c k) := by
  unfold pm_bs at h ⊢
  unfold pm_nb
  split at h <;> rename_i h1
  · rw [if_pos h1]
    split at h <;> rename_i h2
    · rw [if_pos h2]; omega
    · exact absurd rfl h
  · rw [if_neg h1]
    split at h <;> rename_i h3
    · rw [if_pos h3]
      split at h <;> rename_i h2
      · rw [if_pos h2]; omega
      · exact absurd rfl h
    · rw [if_neg h3]
      split at h <;> rename_i h4
      · rw [if_pos h4]
        split at h <;> rename_i h2
        · rw [if_pos h2]; omega
        · exact absurd rfl h
      · rw [if_neg h4]
        split at h <;> rename_i h2
        · rw [if_pos h2]; omega
        · exact absurd rfl h
theorem pm_nb_bs {c n : Int} (h : pm_nb c n) : ∃ k, (0 ≤ k ∧ k < 4) ∧ pm_bs c k = n := by
  obtain ⟨h1, h2, h3⟩ := h
  rcases h3 with h3 | ⟨h3, h4⟩ | ⟨h3, h4⟩ | h3
  · exact ⟨0, ⟨by omega, by omega⟩, by unfold pm_bs; rw [if_pos rfl, if_pos (by omega)]; omega⟩
  · exact ⟨1, ⟨by omega, by omega⟩, by unfold pm_bs; rw [if_neg (by omega), if_pos rfl, if_pos (by omega)]; omega⟩
  · exact ⟨2, ⟨by omega, by omega⟩, by unfold pm_bs; rw [if_neg (by omega), if_neg (by omega), if_pos rfl, if_pos (by omega)]; omega⟩
  · exact ⟨3, ⟨by omega, by omega⟩, by unfold pm_bs; rw [if_neg (by omega), if_neg (by omega), if_neg (by omega), if_pos (by omega)]; omega⟩
theorem sp_Fbeside {c k : Int} {Q : Int → Prop} (hc : 0 ≤ c ∧ c < 144) (hk : 0 ≤ k ∧ k < 4) (h : Q (pm_bs c k)) : F_beside_wp c k Q := by
  unfold pm_bs at h
  refine ⟨⟨⟨by omega, by omega, by omega⟩, ⟨by omega, by decide, by decide⟩⟩, fun x hx => ⟨⟨by omega, by omega⟩, ⟨fun h0 => ?_, fun h0 => ⟨fun h1 => ?_, fun h1 => ⟨fun h2 => ?_, fun h2 => ?_⟩⟩⟩⟩⟩
  · rw [if_pos h0] at h
    refine ⟨⟨by omega, by omega⟩, ⟨by decide, by decide⟩, fun q => ?_, fun q => ?_⟩
    · rw [if_neg (by omega)] at h; exact h
    · rw [if_pos (by omega)] at h; exact h
  · rw [if_neg h0, if_pos h1] at h
    refine ⟨⟨by decide, by decide⟩, ⟨by omega, by omega⟩, fun q => ?_, fun q => ?_⟩
    · rw [if_pos (by omega)] at h; exact h
    · rw [if_neg (by omega)] at h; exact h
  · rw [if_neg h0, if_neg h1, if_pos h2] at h
    refine ⟨⟨by omega, by omega⟩, ⟨by decide, by decide⟩, fun q => ?_, fun q => ?_⟩
    · rw [if_pos (by omega)] at h; exact h
    · rw [if_neg (by omega)] at h; exact h
  · rw [if_neg h0, if_neg h1, if_neg h2] at h
    refine ⟨⟨by omega, by omega⟩, ⟨by decide, by decide⟩, fun q => ?_, fun q => ?_⟩
    · rw [if_pos (by omega)] at h; exact h
    · rw [if_neg (by omega)] at h; exact h
theorem sp_Mbeside {c k : Int} {Q : Int → Prop} (hc : 0 ≤ c ∧ c < 144) (hk : 0 ≤ k ∧ k < 4) (h : Q (pm_bs c k)) : M_beside_wp c k Q := by
  unfold pm_bs at h
  have d : ((0 ≤ c ∧ ph_R c) ∧ (0 < (12 : Int) ∧ ph_R 12)) := ⟨⟨by omega, by omega, by omega⟩, ⟨by omega, by decide, by decide⟩⟩
  refine ⟨d, fun x hx => ⟨d, fun y hy => ⟨⟨by omega, by omega⟩, pm_R0, fun h0 => ?_, fun h0 => ⟨⟨by omega, by omega⟩, pm_R1, fun h1 => ?_, fun h1 => ⟨⟨by omega, by omega⟩, ⟨by decide, by decide⟩, fun h2 => ?_, fun h2 => ?_⟩⟩⟩⟩⟩
  · rw [if_pos h0] at h
    refine ⟨⟨by decide, by decide⟩, ⟨by omega, by omega⟩, fun q => ?_, fun q => ?_⟩
    · rw [if_pos (by omega)] at h; exact h
    · rw [if_neg (by omega)] at h; exact h
  · rw [if_neg h0, if_pos h1] at h
    refine ⟨⟨by decide, by decide⟩, ⟨by omega, by omega⟩, fun q => ?_, fun q => ?_⟩
    · rw [if_pos (by omega)] at h; exact h
    · rw [if_neg (by omega)] at h; exact h
  · rw [if_neg h0, if_neg h1, if_pos h2] at h
    refine ⟨⟨by omega, by omega⟩, ⟨by decide, by decide⟩, fun q => ?_, fun q => ?_⟩
    · rw [if_pos (by omega)] at h; exact h
    · rw [if_neg (by omega)] at h; exact h
  · rw [if_neg h0, if_neg h1, if_neg h2] at h
    refine ⟨⟨by omega, by omega⟩, ⟨by decide, by decide⟩, fun q => ?_, fun q => ?_⟩
    · rw [if_pos (by omega)] at h; exact h
    · rw [if_neg (by omega)] at h; exact h
/-! counting -/
def pm_ct (p : Int → Bool) : Nat → Nat
  | 0 => 0
  | n + 1 => pm_ct p n + (if p (n : Int) = true then 1 else 0)
theorem pm_ct_le (p : Int → Bool) : ∀ n, pm_ct p n ≤ n
  | 0 => Nat.le_refl _
  | n + 1 => by
    have := pm_ct_le p n
    show pm_ct p n + _ ≤ n + 1
    split <;> omega
theorem pm_ct_mono {p q : Int → Bool} : ∀ {n : Nat}, (∀ k : Int, 0 ≤ k → k < n → p k = true → q k = true) → pm_ct p n ≤ pm_ct q n
  | 0, _ => Nat.le_refl _
  | n + 1, h => by
    have h1 := pm_ct_mono (p := p) (q := q) (n := n) (fun k h0 hk => h k h0 (by omega))
    have h2 := h n (by omega) (by omega)
    show pm_ct p n + (if p (n : Int) = true then 1 else 0) ≤ pm_ct q n + (if q (n : Int) = true then 1 else 0)
    by_cases hp : p (n : Int) = true
    · rw [if_pos hp, if_pos (h2 hp)]; omega
    · rw [if_neg hp]; omega
theorem pm_ct_congr {p q : Int → Bool} {n : Nat} (h : ∀ k : Int, 0 ≤ k → k < n → p k = q k) : pm_ct p n = pm_ct q n :=
  Nat.le_antisymm (pm_ct_mono (fun k h0 hk hp => by rw [← h k h0 hk]; exact hp)) (pm_ct_mono (fun k h0 hk hp => by rw [h k h0 hk]; exact hp))
theorem pm_ct_up {p q : Int → Bool} {i : Int} : ∀ {n : Nat}, 0 ≤ i → i < n → p i = false → q i = true → (∀ k : Int, 0 ≤ k → k < n → k ≠ i → p k = q k) → pm_ct q n = pm_ct p n + 1
  | 0, h0, h1, _, _, _ => by omega
  | n + 1, h0, h1, hp, hq, h => by
    show pm_ct q n + (if q (n : Int) = true then 1 else 0) = pm_ct p n + (if p (n : Int) = true then 1 else 0) + 1
    by_cases hi : i = n
    · subst hi
      have e := pm_ct_congr (p := p) (q := q) (n := n) (fun k h2 h3 => h k h2 (by omega) (by omega))
      rw [if_pos hq, if_neg (by rw [hp]; decide), e]
    · have e := pm_ct_up (p := p) (q := q) (i := i) (n := n) h0 (by omega) hp hq (fun k h2 h3 h4 => h k h2 (by omega) h4)
      rw [e, h n (by omega) (by omega) (by omega)]
      omega
theorem pm_ct_lt {p q : Int → Bool} {i : Int} {n : Nat} (h0 : 0 ≤ i) (h1 : i < n) (hp : p i = false) (hq : q i = true) (h : ∀ k : Int, 0 ≤ k → k < n → p k = true → q k = true) : pm_ct p n + 1 ≤ pm_ct q n := by
  have e := pm_ct_up (p := p) (q := fun k => if k = i then true else p k) (i := i) (n := n) h0 h1 hp (by simp) (fun k _ _ hk => by simp [hk])
  rw [← e]
  refine pm_ct_mono (fun k h2 h3 h4 => ?_)
  by_cases hk : k = i
  · subst hk; exact hq
  · simp [hk] at h4; exact h k h2 h3 h4
theorem pm_ct_zero {p : Int → Bool} : ∀ {n : Nat}, pm_ct p n = 0 → ∀ k : Int, 0 ≤ k → k < n → p k = false
  | 0, _, k, h0, h1 => by omega
  | n + 1, h, k, h0, h1 => by
    have h2 : pm_ct p n + (if p (n : Int) = true then 1 else 0) = 0 := h
    by_cases hk : k = n
    · subst hk
      by_cases hp : p (n : Int) = true
      · rw [if_pos hp] at h2; omega
      · simpa using hp
    · exact pm_ct_zero (n := n) (by omega) k h0 (by omega)
theorem pm_len {L : List Int} (hn : L.Nodup) (h : ∀ x, x ∈ L → 0 ≤ x ∧ x < 144) : L.length ≤ 144 := by
  have key : L.length ≤ pm_ct (fun x => decide (x ∈ L)) 144 := by
    induction L with
    | nil => exact Nat.zero_le _
    | cons a l ih =>
      have h1 := List.nodup_cons.mp hn
      have h2 := ih h1.2 (fun x hx => h x (List.mem_cons_of_mem _ hx))
      have h3 := h a List.mem_cons_self
      have h4 := pm_ct_lt (p := fun x => decide (x ∈ l)) (q := fun x => decide (x ∈ a :: l)) (i := a) (n := 144) h3.1 (by omega) (by simpa using h1.1) (by simp) (fun k _ _ hk => by simp at hk ⊢; exact Or.inr hk)
      show l.length + 1 ≤ _
      omega
  exact Nat.le_trans key (pm_ct_le _ _)
theorem pm_dm {a j r : Int} (h : a = 256 * j + r) (h0 : 0 ≤ r) (h1 : r < 256) : a / 256 = j ∧ a % 256 = r := by omega
/-- where every reached cell leans on a nearer one: few steps, a low price -/
theorem pm_CT {D : Int → Int} {g F : Int} (h0 : ∀ c, 0 ≤ c → c < 144 → 0 ≤ D c) (hg : D g = 0) (hb : ∀ c, 0 ≤ c → c < 144 → c ≠ g → D c < F → ∃ n q, (0 ≤ n ∧ n < 144) ∧ D n < F ∧ (0 ≤ q ∧ q ≤ 9) ∧ D c = D n + 256 * q + 1) : ∀ c, 0 ≤ c → c < 144 → D c < F → D c % 256 ≤ 143 ∧ D c / 256 ≤ 9 * (D c % 256) := by
  have key : ∀ (m : Nat) (c : Int), 0 ≤ c → c < 144 → D c < F → D c < m → D c % 256 ≤ (pm_ct (fun x => decide (D x < D c)) 144 : Nat) ∧ D c / 256 ≤ 9 * (D c % 256) := by
    intro m
    induction m with
    | zero => intro c h1 h2 _ h4; have := h0 c h1 h2; omega
    | succ m ih =>
      intro c h1 h2 h3 h4
      by_cases hc : c = g
      · subst hc; rw [hg]; refine ⟨by omega, by omega⟩
      · obtain ⟨n, q, hn, hf, hq, he⟩ := hb c h1 h2 hc h3
        obtain ⟨i1, i2⟩ := ih n hn.1 hn.2 hf (by omega)
        have hl : pm_ct (fun x => decide (D x < D n)) 144 + 1 ≤ pm_ct (fun x => decide (D x < D c)) 144 := by
          refine pm_ct_lt (i := n) hn.1 (by omega) (by simp) (by simp; omega) (fun k _ _ hk => ?_)
          simp at hk ⊢; omega
        have hl2 := pm_ct_le (fun x => decide (D x < D c)) 144
        have hn0 := h0 n hn.1 hn.2
        obtain ⟨e1, e2⟩ := pm_dm (a := D c) (j := D n / 256 + q) (r := D n % 256 + 1) (by omega) (by omega) (by omega)
        rw [e1, e2]
        refine ⟨by omega, by omega⟩
  intro c h1 h2 h3
  have hc0 := h0 c h1 h2
  obtain ⟨k1, k2⟩ := key (D c).toNat.succ c h1 h2 h3 (by omega)
  have hl : pm_ct (fun x => decide (D x < D c)) 144 + 1 ≤ pm_ct (fun _ => true) 144 := pm_ct_lt (i := c) h1 (by omega) (by simp) rfl (fun _ _ _ _ => rfl)
  have hl2 := pm_ct_le (fun _ => true) 144
  exact ⟨by omega, k2⟩
def pm_BE (U F : Int) (p : Int → Int) (g : Int) (D : Int → Int) : Prop :=
  D g = 0 ∧ (∀ c, 0 ≤ c → c < 144 → 0 ≤ D c ∧ D c ≤ F) ∧ (∀ c, 0 ≤ c → c < 144 → c ≠ g → D c < F → ∃ n, pm_nb c n ∧ 0 < p n ∧ D n < F ∧ D c = D n + U * p n + 1) ∧ (∀ c n, pm_nb c n → 0 < p n → D n < F → D c ≤ D n + U * p n + 1)
theorem pm_BE_ct {F : Int} {p : Int → Int} {g : Int} {D : Int → Int} (hp : ∀ c, 0 ≤ c → c < 144 → 0 ≤ p c ∧ p c ≤ 9) (h : pm_BE 256 F p g D) : ∀ c, 0 ≤ c → c < 144 → D c < F → D c % 256 ≤ 143 ∧ D c / 256 ≤ 9 * (D c % 256) := by
  refine pm_CT (fun c h1 h2 => (h.2.1 c h1 h2).1) h.1 (fun c h1 h2 h3 h4 => ?_)
  obtain ⟨n, hn, hp0, hf, he⟩ := h.2.2.1 c h1 h2 h3 h4
  have := hp n hn.2.1.1 hn.2.1.2
  exact ⟨n, p n, hn.2.1, hf, this, he⟩
theorem pm_uniq {U F : Int} {p : Int → Int} {g : Int} {D D' : Int → Int} (hU : 0 ≤ U) (h : pm_BE U F p g D) (h' : pm_BE U F p g D') : ∀ c, 0 ≤ c → c < 144 → D c < F → D' c ≤ D c := by
  have key : ∀ (m : Nat) (c : Int), 0 ≤ c → c < 144 → D c < F → D c < m → D' c ≤ D c := by
    intro m
    induction m with
    | zero => intro c h1 h2 _ h4; have := (h.2.1 c h1 h2).1; omega
    | succ m ih =>
      intro c h1 h2 h3 h4
      by_cases hc : c = g
      · subst hc; rw [h.1, h'.1]; exact Int.le_refl _
      · obtain ⟨n, hn, hp0, hf, he⟩ := h.2.2.1 c h1 h2 hc h3
        have hw : 0 ≤ U * p n := Int.mul_nonneg hU (by omega)
        have h5 := ih n hn.2.1.1 hn.2.1.2 hf (by omega)
        have h6 := h'.2.2.2 c n hn hp0 (by omega)
        omega
  intro c h1 h2 h3
  have := (h.2.1 c h1 h2).1
  exact key (D c).toNat.succ c h1 h2 h3 (by omega)
/-- the two searches' numbers: one is the other, written anew -/
theorem pm_two {p : Int → Int} {g : Int} {D E : Int → Int} (hp : ∀ c, 0 ≤ c → c < 144 → 0 ≤ p c ∧ p c ≤ 9) (h : pm_BE 256 1073741824 p g D) (h' : pm_BE 1000 1000000000 p g E) : ∀ c, 0 ≤ c → c < 144 → (D c < 1073741824 ∧ E c = 1000 * (D c / 256) + D c % 256 ∧ D c % 256 ≤ 143 ∧ D c / 256 ≤ 1287) ∨ (D c = 1073741824 ∧ E c = 1000000000) := by
  have hct := pm_BE_ct hp h
  have hT : pm_BE 1000 1000000000 p g (fun c => if D c < 1073741824 then 1000 * (D c / 256) + D c % 256 else 1000000000) := by
    refine ⟨?_, ?_, ?_, ?_⟩
    · show (if D g < _ then _ else _) = (0 : Int)
      rw [h.1]; rfl
    · intro c h1 h2
      dsimp only
      have h3 := h.2.1 c h1 h2
      split
      · have := hct c h1 h2 (by assumption); omega
      · omega
    · intro c h1 h2 h3 h4
      dsimp only at h4 ⊢
      split at h4
      · rename_i h5
        obtain ⟨n, hn, hp0, hf, he⟩ := h.2.2.1 c h1 h2 h3 h5
        have k1 := hct c h1 h2 h5
        have k2 := hct n hn.2.1.1 hn.2.1.2 hf
        have k3 := hp n hn.2.1.1 hn.2.1.2
        refine ⟨n, hn, hp0, ?_, ?_⟩
        · rw [if_pos hf]; omega
        · rw [if_pos hf, if_pos h5]; omega
      · omega
    · intro c n hn hp0 h4
      dsimp only at h4 ⊢
      split at h4
      · rename_i h5
        have k2 := hct n hn.2.1.1 hn.2.1.2 h5
        have k3 := hp n hn.2.1.1 hn.2.1.2
        have k4 := h.2.2.2 c n hn hp0 h5
        have h6 : D c < 1073741824 := by omega
        have k1 := hct c hn.1.1 hn.1.2 h6
        rw [if_pos h5, if_pos h6]
        omega
      · omega
  intro c h1 h2
  have u1 := pm_uniq (by decide) hT h' c h1 h2
  have u2 := pm_uniq (by decide) h' hT c h1 h2
  try dsimp only at u1
  try dsimp only at u2
  have r1 := h.2.1 c h1 h2
  have r2 := h'.2.1 c h1 h2
  by_cases hf : D c < 1073741824
  · rw [if_pos hf] at u1 u2
    have k1 := hct c h1 h2 hf
    left
    have := u1 (by omega)
    have := u2 (by omega)
    exact ⟨hf, by omega, k1.1, by omega⟩
  · rw [if_neg hf] at u1 u2
    right
    by_cases hE : E c < 1000000000
    · have := u2 hE; omega
    · exact ⟨by omega, by omega⟩
