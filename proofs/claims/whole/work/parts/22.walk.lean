/-! the walk along the numbers -/
abbrev pm_gd (p D : Int → Int) (c k : Int) : Prop := pm_bs c k ≠ -1 ∧ 0 < p (pm_bs c k) ∧ D (pm_bs c k) + p (pm_bs c k) * 256 + 1 = D c
def pm_nx (p D : Int → Int) (c : Int) : Int := if pm_gd p D c 0 then pm_bs c 0 else if pm_gd p D c 1 then pm_bs c 1 else if pm_gd p D c 2 then pm_bs c 2 else pm_bs c 3
theorem pm_nx_at {p D : Int → Int} {c k : Int} (hk : 0 ≤ k ∧ k < 4) (hg : pm_gd p D c k) (hb : ∀ j, 0 ≤ j → j < k → ¬ pm_gd p D c j) : pm_nx p D c = pm_bs c k := by
  unfold pm_nx
  rcases (show k = 0 ∨ k = 1 ∨ k = 2 ∨ k = 3 by omega) with h | h | h | h <;> subst h
  · rw [if_pos hg]
  · rw [if_neg (hb 0 (by decide) (by decide)), if_pos hg]
  · rw [if_neg (hb 0 (by decide) (by decide)), if_neg (hb 1 (by decide) (by decide)), if_pos hg]
  · rw [if_neg (hb 0 (by decide) (by decide)), if_neg (hb 1 (by decide) (by decide)), if_neg (hb 2 (by decide) (by decide))]
def pm_P (p : Int → Int) : Prop := ∀ c, 0 ≤ c → c < 144 → 0 ≤ p c ∧ p c ≤ 9
theorem pm_gd_ex {p D : Int → Int} {g c : Int} (h : pm_BE 256 1073741824 p g D) (hc : 0 ≤ c ∧ c < 144) (hg : c ≠ g) (hf : D c < 1073741824) : ∃ k, (0 ≤ k ∧ k < 4) ∧ pm_gd p D c k := by
  obtain ⟨n, hn, h0, h1, h2⟩ := h.2.2.1 c hc.1 hc.2 hg hf
  obtain ⟨k, hk, e⟩ := pm_nb_bs hn
  refine ⟨k, hk, ?_, ?_, ?_⟩
  · rw [e]; have := hn.2.1; omega
  · rw [e]; exact h0
  · rw [e]; omega
theorem pm_first {P : Int → Prop} {k : Int} (hk : 0 ≤ k ∧ k < 4) (h : P k) : ∃ j, (0 ≤ j ∧ j < 4) ∧ P j ∧ ∀ i, 0 ≤ i → i < j → ¬ P i := by
  by_cases h0 : P 0
  · exact ⟨0, ⟨by decide, by decide⟩, h0, fun i _ _ => by omega⟩
  by_cases h1 : P 1
  · exact ⟨1, ⟨by decide, by decide⟩, h1, fun i _ _ => by rw [show i = 0 by omega]; exact h0⟩
  by_cases h2 : P 2
  · refine ⟨2, ⟨by decide, by decide⟩, h2, fun i _ _ => ?_⟩
    rcases (show i = 0 ∨ i = 1 by omega) with e | e <;> subst e <;> assumption
  · refine ⟨3, ⟨by decide, by decide⟩, ?_, fun i _ _ => ?_⟩
    · rcases (show k = 0 ∨ k = 1 ∨ k = 2 ∨ k = 3 by omega) with e | e | e | e <;> subst e
      · exact absurd h h0
      · exact absurd h h1
      · exact absurd h h2
      · exact h
    · rcases (show i = 0 ∨ i = 1 ∨ i = 2 by omega) with e | e | e <;> subst e <;> assumption
theorem pm_nx_ok {p D : Int → Int} {g c : Int} (hp : pm_P p) (h : pm_BE 256 1073741824 p g D) (hc : 0 ≤ c ∧ c < 144) (hg : c ≠ g) (hf : D c < 1073741824) : pm_nb c (pm_nx p D c) ∧ D (pm_nx p D c) < 1073741824 ∧ 0 < p (pm_nx p D c) ∧ D (pm_nx p D c) + p (pm_nx p D c) * 256 + 1 = D c ∧ D c % 256 = D (pm_nx p D c) % 256 + 1 := by
  obtain ⟨k0, hk0, hg0⟩ := pm_gd_ex h hc hg hf
  obtain ⟨k, hk, hgd, hb⟩ := pm_first hk0 hg0
  have e := pm_nx_at hk hgd hb
  rw [e]
  have hn := pm_bs_nb hc hgd.1
  have hct := pm_BE_ct hp h
  have hq := hp _ hn.2.1.1 hn.2.1.2
  have hfin : D (pm_bs c k) < 1073741824 := by have := hgd.2.2; omega
  have k1 := hct _ hn.2.1.1 hn.2.1.2 hfin
  have k2 := hgd.2.2
  obtain ⟨e1, e2⟩ := pm_dm (a := D c) (j := D (pm_bs c k) / 256 + p (pm_bs c k)) (r := D (pm_bs c k) % 256 + 1) (by omega) (by omega) (by omega)
  exact ⟨hn, hfin, hgd.2.1, k2, e2⟩
theorem sp_stepFrom {p D : Int → Int} {g c : Int} {Q : Int → Prop} (hp : pm_P p) (h : pm_BE 256 1073741824 p g D) (hc : 0 ≤ c ∧ c < 144) (hg : c ≠ g) (hf : D c < 1073741824) (hQ : Q (pm_nx p D c)) : F_stepFrom_wp p D c Q := by
  have hr := h.2.1
  refine pm_l1 (fun k : Int => (0 ≤ k ∧ k ≤ 4) ∧ ∀ j, 0 ≤ j → j < k → ¬ pm_gd p D c j) (fun k : Int => (4 - k).toNat) ?_ 0 ⟨by decide, fun j _ _ => by omega⟩
  intro Kh k ⟨hk, hb⟩ hK
  have next : ∀ (_ : k < 4) (_ : ¬ pm_gd p D c k) (x : Int), x = k + 1 → Kh x := by
    intro h4 hn x hx
    subst hx
    refine hK _ ⟨by omega, fun j h0 h1 => ?_⟩ (by omega)
    rcases (show j < k ∨ j = k by omega) with q | q
    · exact hb j h0 q
    · subst q; exact hn
  refine ⟨⟨by omega, by omega⟩, ⟨by decide, by decide⟩, fun h4 => ?_, fun h4 => ?_⟩
  · refine sp_Fbeside hc ⟨hk.1, h4⟩ ?_
    by_cases hm : pm_bs c k = -1
    · rw [hm]
      exact ⟨⟨by decide, by decide⟩, ⟨by decide, by decide⟩, fun _ => next h4 (fun q => q.1 hm), fun q => absurd rfl q⟩
    · have hn := pm_bs_nb hc hm
      have hq := hp _ hn.2.1.1 hn.2.1.2
      have hx := hr _ hn.2.1.1 hn.2.1.2
      refine ⟨⟨by have := hn.2.1; omega, by have := hn.2.1; omega⟩, ⟨by decide, by decide⟩, fun q => absurd q hm, fun _ => ⟨hn.2.1, ⟨by decide, by decide⟩, ⟨by omega, by omega⟩, fun h0 => ⟨hn.2.1, hn.2.1, hc, ⟨by omega, by omega⟩, ⟨by have := hr c hc.1 hc.2; omega, by omega⟩, fun he => ?_, fun he => next h4 (fun q => he q.2.2)⟩, fun h0 => next h4 (fun q => h0 q.2.1)⟩⟩
      rw [← pm_nx_at ⟨hk.1, h4⟩ ⟨hm, h0, he⟩ hb]
      exact hQ
  · obtain ⟨k0, hk0, hg0⟩ := pm_gd_ex h hc hg hf
    exact absurd hg0 (hb k0 hk0.1 (by omega))
/-- the cells of the way, from c on -/
def pm_pt (p D : Int → Int) (c : Int) : Nat → Int
  | 0 => c
  | i + 1 => pm_nx p D (pm_pt p D c i)
theorem pm_pt_ok {p D : Int → Int} {g c : Int} (hp : pm_P p) (h : pm_BE 256 1073741824 p g D) (hgc : 0 ≤ g ∧ g < 144) (hc : 0 ≤ c ∧ c < 144) (hf : D c < 1073741824) : ∀ i : Nat, (i : Int) ≤ D c % 256 → (0 ≤ pm_pt p D c i ∧ pm_pt p D c i < 144) ∧ D (pm_pt p D c i) < 1073741824 ∧ D (pm_pt p D c i) % 256 = D c % 256 - i ∧ (pm_pt p D c i = g ↔ (i : Int) = D c % 256) ∧ (i ≠ 0 → 0 < p (pm_pt p D c i)) := by
  have hiff : ∀ x, (0 ≤ x ∧ x < 144) → D x < 1073741824 → (x = g ↔ D x % 256 = 0) := by
    intro x hx hxf
    constructor
    · intro e; subst e; rw [h.1]; rfl
    · intro e
      by_cases hx2 : x = g
      · exact hx2
      · have h3 := pm_nx_ok hp h hx hx2 hxf
        have h4 := h3.2.2.2.2
        have h5 := h3.1
        have := (h.2.1 _ h5.2.1.1 h5.2.1.2).1
        omega
  intro i
  induction i with
  | zero =>
    intro hi
    refine ⟨hc, hf, by show D c % 256 = _; omega, ?_, fun q => absurd rfl q⟩
    have := hiff c hc hf
    show c = g ↔ ((0 : Nat) : Int) = D c % 256
    rw [this]
    omega
  | succ i ih =>
    intro hi
    obtain ⟨i1, i2, i3, i4, -⟩ := ih (by omega)
    have hng : pm_pt p D c i ≠ g := fun e => by have := i4.mp e; omega
    obtain ⟨k1, k2, k3, k4, k5⟩ := pm_nx_ok hp h i1 hng i2
    have e : D (pm_nx p D (pm_pt p D c i)) % 256 = D c % 256 - ((i + 1 : Nat) : Int) := by omega
    refine ⟨k1.2.1, k2, e, ?_, fun _ => k3⟩
    have := hiff _ k1.2.1 k2
    show pm_nx p D (pm_pt p D c i) = g ↔ _
    rw [this, e]
    omega
theorem pm_pt_ne {p D : Int → Int} {g c : Int} (hp : pm_P p) (h : pm_BE 256 1073741824 p g D) (hgc : 0 ≤ g ∧ g < 144) (hc : 0 ≤ c ∧ c < 144) (hf : D c < 1073741824) {i j : Nat} (hij : i < j) (hj : (j : Int) ≤ D c % 256) : pm_pt p D c i ≠ pm_pt p D c j := by
  have h1 := (pm_pt_ok hp h hgc hc hf i (by omega)).2.2.1
  have h2 := (pm_pt_ok hp h hgc hc hf j hj).2.2.1
  intro e
  rw [e] at h1
  omega
theorem sp_walk {p D : Int → Int} {g c : Int} {fd : Int → Int} {Q : (Int → Int) → Int → Prop} (hp : pm_P p) (h : pm_BE 256 1073741824 p g D) (hgc : 0 ≤ g ∧ g < 144) (hc : 0 ≤ c ∧ c < 144) (hf : D c < 1073741824) (hQ : ∀ fd', (∀ i : Nat, (i : Int) ≤ D c % 256 → fd' i = pm_pt p D c i) → Q fd' (D c % 256 + 1)) : F_walk_wp p D fd 0 c g Q := by
  have hct := pm_BE_ct hp h c hc.1 hc.2 hf
  refine pm_l4 (fun (x3 x4 : Int) (f : Int → Int) (fl : Int) => ∃ k : Nat, x4 = k ∧ fl = k ∧ (k : Int) ≤ D c % 256 + 1 ∧ (∀ i : Nat, i < k → f i = pm_pt p D c i) ∧ (((k : Int) ≤ D c % 256 ∧ x3 = pm_pt p D c k) ∨ ((k : Int) = D c % 256 + 1 ∧ x3 = -1))) (fun (_ x4 : Int) _ _ => (145 - x4).toNat) ?_ c 0 fd 0 ⟨0, rfl, rfl, by omega, fun i hi => absurd hi (Nat.not_lt_zero i), Or.inl ⟨by omega, rfl⟩⟩
  intro Kh x3 x4 f fl ⟨k, e4, el, hk, hfd, hd⟩ hK
  subst e4
  subst el
  refine ⟨⟨by omega, by omega⟩, ⟨by decide, by decide⟩, fun h144 => ?_, fun h144 => ?_⟩
  · rcases hd with ⟨hd1, hd2⟩ | ⟨hd1, hd2⟩
    · obtain ⟨i1, i2, i3, i4, -⟩ := pm_pt_ok hp h hgc hc hf k hd1
      subst hd2
      refine ⟨⟨by omega, by omega⟩, ⟨by decide, by decide⟩, fun q => absurd q (by omega), fun _ => ⟨⟨by omega, by omega⟩, fun f2 hf2 => fun l2 hl2 => ⟨⟨by omega, by omega⟩, ⟨by omega, by omega⟩, fun hg => ?_, fun hg => ?_⟩⟩⟩
      · intro y hy
        subst hy; subst hl2
        refine hK _ _ _ _ ⟨k + 1, by omega, by omega, by omega, fun i hi => ?_, Or.inr ⟨?_, rfl⟩⟩ (by omega)
        · rw [hf2]
          by_cases hik : i = k
          · subst hik; rw [pm_us]
          · rw [pm_un (by omega)]; exact hfd i (by omega)
        · have := i4.mp hg; omega
      · have hlt : (k : Int) < D c % 256 := by
          rcases (show (k : Int) < D c % 256 ∨ (k : Int) = D c % 256 by omega) with q | q
          · exact q
          · exact absurd (i4.mpr q) hg
        refine sp_stepFrom hp h i1 hg i2 ?_
        intro y hy
        subst hy; subst hl2
        refine hK _ _ _ _ ⟨k + 1, by omega, by omega, by omega, fun i hi => ?_, Or.inl ⟨by omega, rfl⟩⟩ (by omega)
        rw [hf2]
        by_cases hik : i = k
        · subst hik; rw [pm_us]
        · rw [pm_un (by omega)]; exact hfd i (by omega)
    · subst hd2
      refine ⟨⟨by decide, by decide⟩, ⟨by decide, by decide⟩, fun _ => ?_, fun q => absurd rfl q⟩
      rw [hd1]
      exact hQ f (fun i hi => hfd i (by omega))
  · rcases hd with ⟨hd1, hd2⟩ | ⟨hd1, hd2⟩
    · omega
    · rw [hd1]
      exact hQ f (fun i hi => hfd i (by omega))
/-! the reference's walk -/
theorem sp_through {p E : Int → Int} {n : Int} {Q : Int → Prop} (hn : n = -1 ∨ (0 ≤ n ∧ n < 144)) (hp : pm_P p) (hE : ∀ c, 0 ≤ c → c < 144 → 0 ≤ E c ∧ E c ≤ 1000000000) (h0 : (n = -1 ∨ p n = 0 ∨ E n = 1000000000) → Q 1000000000) (h1 : 0 ≤ n → n < 144 → 0 < p n → E n < 1000000000 → Q (E n + 1000 * p n + 1)) : M_through_wp p E n Q := by
  refine ⟨⟨by omega, by omega⟩, pm_R0, fun hneg => h0 (Or.inl (by omega)), fun hpos => ?_⟩
  have hc : 0 ≤ n ∧ n < 144 := by omega
  have hq := hp n hc.1 hc.2
  have hx := hE n hc.1 hc.2
  refine ⟨hc, ⟨by omega, by omega⟩, pm_R0, fun hz => h0 (Or.inr (Or.inl hz)), fun hz => ⟨hc, ⟨by omega, by omega⟩, ⟨by decide, by decide⟩, fun hlt => ⟨hc, hc, h1 hc.1 hc.2 (by omega) hlt⟩, fun hlt => h0 (Or.inr (Or.inr (by omega)))⟩⟩
theorem pm_gd_iff {p D E : Int → Int} {g c k : Int} (hp : pm_P p) (h : pm_BE 256 1073741824 p g D) (hE : pm_BE 1000 1000000000 p g E) (hc : 0 ≤ c ∧ c < 144) (hf : D c < 1073741824) (hm : pm_bs c k ≠ -1) : pm_gd p D c k ↔ (0 < p (pm_bs c k) ∧ E (pm_bs c k) < 1000000000 ∧ E (pm_bs c k) + 1000 * p (pm_bs c k) + 1 = E c) := by
  have hn := pm_bs_nb hc hm
  have t1 := pm_two hp h hE c hc.1 hc.2
  have t2 := pm_two hp h hE _ hn.2.1.1 hn.2.1.2
  have hq := hp _ hn.2.1.1 hn.2.1.2
  have r1 := h.2.1 c hc.1 hc.2
  have r2 := h.2.1 _ hn.2.1.1 hn.2.1.2
  show (pm_bs c k ≠ -1 ∧ 0 < p (pm_bs c k) ∧ D (pm_bs c k) + p (pm_bs c k) * 256 + 1 = D c) ↔ _
  generalize pm_bs c k = n at *
  rcases t1 with ⟨t11, t12, t13, t14⟩ | ⟨t11, t12⟩
  · constructor
    · intro ⟨_, g1, g2⟩
      rcases t2 with ⟨t21, t22, t23, t24⟩ | ⟨t21, t22⟩
      · obtain ⟨e1, e2⟩ := pm_dm (a := D c) (j := D n / 256 + p n) (r := D n % 256 + 1) (by omega) (by omega) (by omega)
        refine ⟨g1, by omega, by omega⟩
      · omega
    · intro ⟨g1, g2, g3⟩
      rcases t2 with ⟨t21, t22, t23, t24⟩ | ⟨t21, t22⟩
      · refine ⟨hm, g1, ?_⟩
        have e1 : D n / 256 + p n = D c / 256 := by omega
        omega
      · omega
  · omega
theorem sp_next {p D E : Int → Int} {mw : Int → Int} {mk g c : Int} {Ke : Int → Prop} {Q : Int → (Int → Int) → (Int → Int) → Int → Prop} (hp : pm_P p) (h : pm_BE 256 1073741824 p g D) (hE : pm_BE 1000 1000000000 p g E) (hc : 0 ≤ c ∧ c < 144) (hg : c ≠ g) (hf : D c < 1073741824) (hQ : Ke (pm_nx p D c)) : ∃ kk, ph_it (fun _ _ => False) (M_findWay_l48 p E mw mk g c Ke Q) kk (-1) 0 := by
  have hr := hE.2.1
  have hEc : E c < 1000000000 := by
    rcases pm_two hp h hE c hc.1 hc.2 with q | q <;> omega
  refine pm_l2 (fun (x4 k : Int) => (0 ≤ k ∧ k ≤ 4) ∧ ((x4 = -1 ∧ ∀ j, 0 ≤ j → j < k → ¬ pm_gd p D c j) ∨ (0 ≤ x4 ∧ x4 < 144 ∧ x4 = pm_nx p D c))) (fun (_ k : Int) => (4 - k).toNat) ?_ (-1) 0 ⟨by decide, Or.inl ⟨rfl, fun j _ _ => by omega⟩⟩
  intro Kh x4 k ⟨hk, hd⟩ hK
  have r4 : ph_R x4 := ⟨by omega, by omega⟩
  refine ⟨⟨by omega, by omega⟩, ⟨by decide, by decide⟩, fun h4 => ⟨r4, pm_R0, fun hneg => ?_, fun hpos => ?_⟩, fun h4 => ?_⟩
  · rcases hd with ⟨hd1, hb⟩ | hd1
    · have next : ∀ (_ : ¬ pm_gd p D c k) (x : Int), x = k + 1 → Kh (-1) x := by
        intro hn x hx
        subst hx
        refine hK _ _ ⟨by omega, Or.inl ⟨rfl, fun j h0 h1 => ?_⟩⟩ (by omega)
        rcases (show j < k ∨ j = k by omega) with q | q
        · exact hb j h0 q
        · subst q; exact hn
      refine sp_Mbeside hc ⟨hk.1, h4⟩ ?_
      have hnb : pm_bs c k = -1 ∨ (0 ≤ pm_bs c k ∧ pm_bs c k < 144) := by
        by_cases hm : pm_bs c k = -1
        · exact Or.inl hm
        · exact Or.inr (pm_bs_nb hc hm).2.1
      refine sp_through hnb hp hr (fun hz => ?_) (fun n0 n1 n2 n3 => ?_)
      · refine ⟨hc, ⟨by decide, by decide⟩, ⟨by have := hr c hc.1 hc.2; omega, by omega⟩, fun q => by omega, fun _ => next (fun q => ?_)⟩
        have := (pm_gd_iff hp h hE hc hf q.1).mp q
        rcases hz with hz | hz | hz
        · exact q.1 hz
        · omega
        · omega
      · have hq := hp _ n0 n1
        refine ⟨hc, ⟨by have := hr _ n0 n1; omega, by omega⟩, ⟨by have := hr c hc.1 hc.2; omega, by omega⟩, fun he => ?_, fun he => next (fun q => he ((pm_gd_iff hp h hE hc hf q.1).mp q).2.2)⟩
        refine sp_Mbeside hc ⟨hk.1, h4⟩ ?_
        intro x hx
        subst hx
        have hgd : pm_gd p D c k := (pm_gd_iff hp h hE hc hf (by omega)).mpr ⟨n2, n3, he⟩
        exact hK _ _ ⟨by omega, Or.inr ⟨n0, n1, (pm_nx_at ⟨hk.1, h4⟩ hgd hb).symm⟩⟩ (by omega)
    · omega
  · rcases hd with ⟨hd1, hb⟩ | hd1
    · omega
    · rw [hd1.2.2]; exact hQ
  · rcases hd with ⟨hd1, hb⟩ | hd1
    · obtain ⟨k0, hk0, hg0⟩ := pm_gd_ex h hc hg hf
      exact absurd hg0 (hb k0 hk0.1 (by omega))
    · rw [hd1.2.2]; exact hQ
theorem sp_walkM {p D E : Int → Int} {mw : Int → Int} {g c : Int} {Q : Int → (Int → Int) → (Int → Int) → Int → Prop} (hp : pm_P p) (h : pm_BE 256 1073741824 p g D) (hE : pm_BE 1000 1000000000 p g E) (hgc : 0 ≤ g ∧ g < 144) (hc : 0 ≤ c ∧ c < 144) (hf : D c < 1073741824) (hw : mw 0 = c) (hQ : ∀ mw', (∀ i : Nat, (i : Int) ≤ D c % 256 → mw' i = pm_pt p D c i) → Q 1 E mw' (D c % 256 + 1)) : ∃ kk, ph_it (fun _ _ _ => False) (M_findWay_l37 p E g Q) kk c mw 1 := by
  have hct := pm_BE_ct hp h c hc.1 hc.2 hf
  refine pm_l3 (fun (x3 : Int) (w : Int → Int) (mk : Int) => ∃ i : Nat, (i : Int) ≤ D c % 256 ∧ x3 = pm_pt p D c i ∧ mk = i + 1 ∧ ∀ j : Nat, j ≤ i → w j = pm_pt p D c j) (fun (_ : Int) (_ : Int → Int) (mk : Int) => (145 - mk).toNat) ?_ c mw 1 ⟨0, by omega, rfl, rfl, fun j hj => by rw [show j = 0 by omega]; exact hw⟩
  intro Kh x3 w mk ⟨i, hi, e3, ek, hfd⟩ hK
  subst e3
  subst ek
  obtain ⟨i1, i2, i3, i4, -⟩ := pm_pt_ok hp h hgc hc hf i hi
  refine ⟨⟨by omega, by omega⟩, ⟨by omega, by omega⟩, fun hg => ⟨Or.inr rfl, ?_⟩, fun hg => ?_⟩
  · rw [i4.mp hg]
    exact hQ w (fun j hj => hfd j (by omega))
  · have hlt : (i : Int) < D c % 256 := by
      rcases (show (i : Int) < D c % 256 ∨ (i : Int) = D c % 256 by omega) with q | q
      · exact q
      · exact absurd (i4.mpr q) hg
    refine sp_next hp h hE i1 hg i2 ⟨⟨by omega, by omega⟩, fun w2 hw2 k2 hk2 => ?_⟩
    subst hk2
    refine hK _ _ _ ⟨i + 1, by omega, rfl, by omega, fun j hj => ?_⟩ (by omega)
    rw [hw2]
    by_cases hji : j = i + 1
    · subst hji; rw [show ((i + 1 : Nat) : Int) = (i : Int) + 1 by omega, pm_us]; rfl
    · rw [pm_un (by omega)]; exact hfd j (by omega)
