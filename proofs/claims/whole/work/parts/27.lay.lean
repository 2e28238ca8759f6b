/-! hang, lay -/
section PML
variable {nc na ns nu ai rl rc mc ma ms mu mi mr mm : Int → Int} {nn mn : Int}
/-- the way as rows of whole numbers -/
theorem pm_nat {P : Int → Prop} {m : Int} (h : ∀ i : Nat, (i : Int) ≤ m → P i) : ∀ i : Int, 0 ≤ i → i < m + 1 → P i := by
  intro i h0 h1
  have := h i.toNat (by omega)
  rw [show ((i.toNat : Nat) : Int) = i by omega] at this
  exact this
theorem pm_hang {pr mp lf rg nx fd mf mw : Int → Int} {wt fl fp mk a b u : Int} {K : Int → Int → (Int → Int) → (Int → Int) → (Int → Int) → (Int → Int) → Int → Int → Int → (Int → Int) → (Int → Int) → (Int → Int) → (Int → Int) → (Int → Int) → (Int → Int) → (Int → Int) → Int → Int → (Int → Int) → (Int → Int) → (Int → Int) → (Int → Int) → (Int → Int) → (Int → Int) → (Int → Int) → (Int → Int) → (Int → Int) → Int → Prop} (hF : pm_F pr mp) (hN : pm_N nc na ns nu ai rl rc nn mn mc ma ms mu mi mr mm) (ha : ph_R a) (hb : ph_R b) (hu : ph_R u)
    (hK : ∀ r lf' rg' nx' fd' wt' fl' fp' nc' na' ns' nu' ai' rl' rc' nn' mn' mc' ma' ms' mu' mi' mr' mm' mf' mw' mk', ph_R r → pm_N nc' na' ns' nu' ai' rl' rc' nn' mn' mc' ma' ms' mu' mi' mr' mm' → K r r lf' rg' nx' fd' wt' fl' fp' nc' na' ns' nu' ai' rl' rc' nn' mn' mc' ma' ms' mu' mi' mr' mm' mf' mw' mk') :
    H_hang_wp pr lf rg nx fd wt fl fp nc na ns nu ai rl rc nn a b u (fun r lf' rg' nx' fd' wt' fl' fp' nc' na' ns' nu' ai' rl' rc' nn' => M_hang_wp mp mn mc ma ms mu mi mr mm mf mw mk a b u (fun r' mn' mc' ma' ms' mu' mi' mr' mm' mf' mw' mk' => K r r' lf' rg' nx' fd' wt' fl' fp' nc' na' ns' nu' ai' rl' rc' nn' mn' mc' ma' ms' mu' mi' mr' mm' mf' mw' mk')) := by
  have hN0 := hN
  obtain ⟨⟨hnn, hI⟩, em, hE⟩ := hN
  subst em
  have R1001 : ph_R (-1001) := ⟨by decide, by decide⟩
  have R1002 : ph_R (-1002) := ⟨by decide, by decide⟩
  have R1003 : ph_R (-1003) := ⟨by decide, by decide⟩
  have R1004 : ph_R (-1004) := ⟨by decide, by decide⟩
  refine sp_Nholds hnn ha (fun h1 => pm_eq1 ?_) (fun h1 => pm_eq0 (sp_isNode hnn ha (fun h => absurd h h1) (fun _ => pm_eq0 (hK _ _ _ _ _ _ _ _ _ _ _ _ _ _ _ _ _ _ _ _ _ _ _ _ _ _ _ R1001 hN0))))
  have hI1 := hI a h1.1 h1.2
  have hE1 := hE a h1.1 h1.2
  have ha24 : 0 ≤ a ∧ a < 24 := by omega
  refine sp_Fholds hb (fun h2 => pm_eq1 ?_) (fun h2 => pm_eq0 (sp_isNode hnn ha (fun _ => pm_eq1 (sp_isCell hb (fun h => absurd h h2) (fun _ => pm_eq0 (hK _ _ _ _ _ _ _ _ _ _ _ _ _ _ _ _ _ _ _ _ _ _ _ _ _ _ _ R1001 hN0)))) (fun h => absurd h1 h)))
  refine sp_isOut hu ⟨by decide, by decide⟩ (fun h3 => pm_eq0 ?_) (fun h3 => pm_eq1 (sp_isNode hnn ha (fun _ => pm_eq1 (sp_isCell hb (fun _ => pm_eq1 ⟨hu, sp_in hu pm_R0 ⟨by decide, by decide⟩ (fun q => absurd q h3) (fun _ => pm_eq0 (hK _ _ _ _ _ _ _ _ _ _ _ _ _ _ _ _ _ _ _ _ _ _ _ _ _ _ _ R1002 hN0))⟩) (fun q => absurd h2 q))) (fun q => absurd h1 q)))
  have ncR : ph_R (nc a) := ⟨by omega, by omega⟩
  have mcR : ph_R (mc a) := by rw [hE1.1]; exact ncR
  refine ⟨ha24, hb, ncR, fun he => ?_, fun he => ⟨ha24, ?_⟩⟩
  · refine sp_isNode hnn ha (fun _ => pm_eq1 (sp_isCell hb (fun _ => pm_eq1 ⟨hu, sp_in hu pm_R0 ⟨by decide, by decide⟩ (fun _ => pm_eq1 ⟨ha24, hb, mcR, fun _ => hK _ _ _ _ _ _ _ _ _ _ _ _ _ _ _ _ _ _ _ _ _ _ _ _ _ _ _ R1003 hN0, fun q => absurd (by rw [hE1.1]; exact he) q⟩) (fun q => absurd h3 q)⟩) (fun q => absurd h2 q))) (fun q => absurd h1 q)
  · refine sp_find (pm_F_P hF) hI1.1 h2 (fun D rg' nx' wt' hD h0 => pm_eq0 ?_) (fun D rg' nx' wt' fd' hD hf hfd => pm_eq1 ?_)
    · refine sp_isNode hnn ha (fun _ => pm_eq1 (sp_isCell hb (fun _ => pm_eq1 ⟨hu, sp_in hu pm_R0 ⟨by decide, by decide⟩ (fun _ => pm_eq1 ⟨ha24, hb, mcR, fun q => absurd (by rw [← hE1.1]; exact q) he, fun _ => ⟨ha24, ?_⟩⟩) (fun q => absurd h3 q)⟩) (fun q => absurd h2 q))) (fun q => absurd h1 q)
      rw [hE1.1]
      refine sp_findWayF hF hI1.1 h2 hD (fun E _ => pm_eq0 (hK _ _ _ _ _ _ _ _ _ _ _ _ _ _ _ _ _ _ _ _ _ _ _ _ _ _ _ R1003 hN0)) (fun E mw' hf _ => by omega)
    · have hP := pm_F_P hF
      have hct := pm_BE_ct hP hD b h2.1 h2.2 hf
      have hpt := pm_pt_ok hP hD hI1.1 h2 hf
      refine ⟨⟨by omega, by omega⟩, ⟨by decide, by decide⟩, fun h24 => ⟨Or.inl rfl, pm_eq0 ?_⟩, fun h24 => ⟨Or.inr rfl, pm_eq1 ?_⟩⟩
      · have hx : 0 ≤ mn ∧ mn < 24 := by omega
        refine ⟨ha24, hx, fun nc' e1 => ⟨hx, fun na' e2 => ⟨hx, fun ns' e3 => ⟨hx, fun nu' e4 => ⟨Or.inl rfl, hx, fun ai' e5 => ⟨hx, fun rl1 e6 => fun nn' e7 => ?_⟩⟩⟩⟩⟩⟩
        have fdr : ∀ i, 0 ≤ i → i < D b % 256 + 1 → (0 ≤ fd' i ∧ fd' i < 144) ∧ fd' i = pm_pt pr D b i.toNat := by
          intro i i0 i1
          have h5 := hpt i.toNat (by omega)
          have h6 := hfd i.toNat (by omega)
          rw [show ((i.toNat : Nat) : Int) = i by omega] at h6
          exact ⟨by rw [h6]; exact h5.1, h6⟩
        have r0 : rl1 mn = 0 := by rw [e6, pm_us]
        refine sp_layRun hx ⟨by omega, by omega⟩ (by rw [r0]; exact pm_R0) (fun i i0 i1 => ⟨by have := fdr i i0 i1; omega, by have := fdr i i0 i1; omega⟩) (fun q => by rw [r0] at q; omega) (fun r rc' hr hr2 hin hout => ?_)
        refine sp_isNode hnn ha (fun _ => pm_eq1 (sp_isCell hb (fun _ => pm_eq1 ⟨hu, sp_in hu pm_R0 ⟨by decide, by decide⟩ (fun _ => pm_eq1 ⟨ha24, hb, mcR, fun q => absurd (by rw [← hE1.1]; exact q) he, fun _ => ⟨ha24, ?_⟩⟩) (fun q => absurd h3 q)⟩) (fun q => absurd h2 q))) (fun q => absurd h1 q)
        rw [hE1.1]
        refine sp_findWayF hF hI1.1 h2 hD (fun E q => by omega) (fun E mw' _ hmw => pm_eq1 ⟨⟨by omega, by omega⟩, ⟨by decide, by decide⟩, fun q => by omega, fun _ => ?_⟩)
        refine sp_take hx ⟨by omega, by omega⟩ (fun mr' hmi hmo => ⟨ha24, ?_⟩)
        refine ⟨hx, fun mc' f1 => ⟨hx, fun ma' f2 => ⟨hx, fun ms' f3 => ⟨hx, fun mu' f4 => ⟨⟨by omega, by omega⟩, pm_R0, fun q => by omega, fun _ => ?_⟩⟩⟩⟩⟩
        refine ⟨Or.inl rfl, hx, fun mi' f5 => fun mn' f7 => ?_⟩
        subst e7; subst f7
        refine hK _ _ _ _ _ _ _ _ _ _ _ _ _ _ _ _ _ _ _ _ _ _ _ _ _ _ _ ⟨by omega, by omega⟩ ?_
        rw [hE1.2.2.1] at f3
        have ptn : ∀ i j : Int, 0 ≤ i → i < j → j < D b % 256 + 1 → fd' i ≠ fd' j := by
          intro i j i0 i1 i2
          rw [(fdr i i0 (by omega)).2, (fdr j (by omega) i2).2]
          exact pm_pt_ne hP hD hI1.1 h2 hf (by omega) (by omega)
        refine pm_N_add (c := b) (up := a) (so := ns a) (un := u) (av := 0) (len := D b % 256 + 1) hN0 (by omega) h2 (Or.inr h1) hI1.2.2.1 h3 (Or.inl rfl) (fun q => by omega) (fun _ => ⟨⟨by omega, by omega⟩, rfl⟩) e1 e2 e3 e4 (fun n => by rw [e5]) (fun n => ?_) (fun n i n0 n1 i0 i1 => hout _ (by omega)) (fun i i0 i1 => ?_) (fun i j i0 i1 i2 => ?_) f1 f2 f3 f4 (fun n => by rw [f5]) (fun n => rfl) (fun n i n0 n1 i0 i1 => hmo _ (by omega)) (fun i i0 i1 => ?_)
        · rw [e6]; exact pm_uu n
        · rw [hin i i0 i1]; exact (fdr i i0 i1).1
        · rw [hin i i0 (by omega), hin j (by omega) i2]; exact ptn i j i0 i1 i2
        · rw [hmi i i0 i1, hin i i0 i1, (fdr i i0 i1).2]
          have h6 := hmw i.toNat (by omega)
          rw [show ((i.toNat : Nat) : Int) = i by omega] at h6
          exact h6
      · refine sp_isNode hnn ha (fun _ => pm_eq1 (sp_isCell hb (fun _ => pm_eq1 ⟨hu, sp_in hu pm_R0 ⟨by decide, by decide⟩ (fun _ => pm_eq1 ⟨ha24, hb, mcR, fun q => absurd (by rw [← hE1.1]; exact q) he, fun _ => ⟨ha24, ?_⟩⟩) (fun q => absurd h3 q)⟩) (fun q => absurd h2 q))) (fun q => absurd h1 q)
        rw [hE1.1]
        refine sp_findWayF hF hI1.1 h2 hD (fun E q => by omega) (fun E mw' _ _ => pm_eq1 ⟨⟨by omega, by omega⟩, ⟨by decide, by decide⟩, fun _ => hK _ _ _ _ _ _ _ _ _ _ _ _ _ _ _ _ _ _ _ _ _ _ _ _ _ _ _ R1004 hN0, fun q => by omega⟩)
/-- 1 where it holds, else 0 -/
noncomputable def pm_b (P : Prop) : Int := @ite Int P (Classical.propDecidable P) 1 0
theorem pm_b_t {P : Prop} (h : P) : pm_b P = 1 := by unfold pm_b; exact if_pos h
theorem pm_b_f {P : Prop} (h : ¬ P) : pm_b P = 0 := by unfold pm_b; exact if_neg h
theorem pm_b_c {P Q : Prop} (h : P ↔ Q) : pm_b P = pm_b Q := by
  by_cases hp : P
  · rw [pm_b_t hp, pm_b_t (h.mp hp)]
  · rw [pm_b_f hp, pm_b_f (fun q => hp (h.mpr q))]
/-- a run has other cells than it had -/
def pm_chg (rl rc rl' rc' : Int → Int) (n : Int) : Prop := ¬ (rl' n = rl n ∧ ∀ i, 0 ≤ i → i < rl n → rc' (n * 144 + i) = rc (n * 144 + i))
/-- what became of the run of a node -/
def pm_laid (pr nc na rl rc rl' rc' : Int → Int) (n : Int) : Prop :=
  (na n = -1 → rl' n = rl n ∧ ∀ i, 0 ≤ i → i < 144 → rc' (n * 144 + i) = rc (n * 144 + i)) ∧ (na n ≠ -1 → ∃ D, pm_BE 256 1073741824 pr (nc (na n)) D ∧ ((D (nc n) = 1073741824 ∧ rl' n = rl n ∧ ∀ i, 0 ≤ i → i < 144 → rc' (n * 144 + i) = rc (n * 144 + i)) ∨ (D (nc n) < 1073741824 ∧ rl' n = D (nc n) % 256 + 1 ∧ ∀ i : Nat, (i : Int) ≤ D (nc n) % 256 → rc' (n * 144 + i) = pm_pt pr D (nc n) i)))
theorem pm_l11 {A1 A2 A3 A4 A5 A6 A7 A8 A9 A10 A11 : Type} {B : (A1 → A2 → A3 → A4 → A5 → A6 → A7 → A8 → A9 → A10 → A11 → Prop) → A1 → A2 → A3 → A4 → A5 → A6 → A7 → A8 → A9 → A10 → A11 → Prop} (I : A1 → A2 → A3 → A4 → A5 → A6 → A7 → A8 → A9 → A10 → A11 → Prop) (μ : A1 → A2 → A3 → A4 → A5 → A6 → A7 → A8 → A9 → A10 → A11 → Nat) (hs : ∀ (Kh : A1 → A2 → A3 → A4 → A5 → A6 → A7 → A8 → A9 → A10 → A11 → Prop) a b c d e f g h i j k, I a b c d e f g h i j k → (∀ a' b' c' d' e' f' g' h' i' j' k', I a' b' c' d' e' f' g' h' i' j' k' → μ a' b' c' d' e' f' g' h' i' j' k' < μ a b c d e f g h i j k → Kh a' b' c' d' e' f' g' h' i' j' k') → B Kh a b c d e f g h i j k) : ∀ a b c d e f g h i j k, I a b c d e f g h i j k → ∃ kk, ph_it (fun _ _ _ _ _ _ _ _ _ _ _ => False) B kk a b c d e f g h i j k := by
  have key : ∀ n a b c d e f g h i j k, I a b c d e f g h i j k → μ a b c d e f g h i j k < n → ph_it (fun _ _ _ _ _ _ _ _ _ _ _ => False) B n a b c d e f g h i j k := by
    intro n
    induction n with
    | zero => intro a b c d e f g h i j k _ hh; exact absurd hh (Nat.not_lt_zero _)
    | succ n ih => intro a b c d e f g h i j k ha hm; exact hs _ a b c d e f g h i j k ha (fun a' b' c' d' e' f' g' h' i' j' k' ha' hlt => ih a' b' c' d' e' f' g' h' i' j' k' ha' (by omega))
  exact fun a b c d e f g h i j k ha => ⟨_, key _ a b c d e f g h i j k ha (Nat.lt_succ_self _)⟩
theorem pm_l7 {A1 A2 A3 A4 A5 A6 A7 : Type} {B : (A1 → A2 → A3 → A4 → A5 → A6 → A7 → Prop) → A1 → A2 → A3 → A4 → A5 → A6 → A7 → Prop} (I : A1 → A2 → A3 → A4 → A5 → A6 → A7 → Prop) (μ : A1 → A2 → A3 → A4 → A5 → A6 → A7 → Nat) (hs : ∀ (Kh : A1 → A2 → A3 → A4 → A5 → A6 → A7 → Prop) a b c d e f g, I a b c d e f g → (∀ a' b' c' d' e' f' g', I a' b' c' d' e' f' g' → μ a' b' c' d' e' f' g' < μ a b c d e f g → Kh a' b' c' d' e' f' g') → B Kh a b c d e f g) : ∀ a b c d e f g, I a b c d e f g → ∃ kk, ph_it (fun _ _ _ _ _ _ _ => False) B kk a b c d e f g := by
  have key : ∀ n a b c d e f g, I a b c d e f g → μ a b c d e f g < n → ph_it (fun _ _ _ _ _ _ _ => False) B n a b c d e f g := by
    intro n
    induction n with
    | zero => intro a b c d e f g _ hh; exact absurd hh (Nat.not_lt_zero _)
    | succ n ih => intro a b c d e f g ha hm; exact hs _ a b c d e f g ha (fun a' b' c' d' e' f' g' ha' hlt => ih a' b' c' d' e' f' g' ha' (by omega))
  exact fun a b c d e f g ha => ⟨_, key _ a b c d e f g ha (Nat.lt_succ_self _)⟩
theorem pm_lay {pr mp lf rg nx fd mf mw : Int → Int} {wt fl fp mk : Int} {K : Int → Int → (Int → Int) → (Int → Int) → (Int → Int) → (Int → Int) → Int → Int → Int → (Int → Int) → (Int → Int) → (Int → Int) → (Int → Int) → (Int → Int) → (Int → Int) → Int → Prop} (hF : pm_F pr mp) (hN : pm_N nc na ns nu ai rl rc nn mn mc ma ms mu mi mr mm)
    (hK : ∀ r lf' rg' nx' fd' wt' fl' fp' rl' rc' mr' mm' mf' mw' mk', ph_R r → pm_N nc na ns nu ai rl' rc' nn mn mc ma ms mu mi mr' mm' → K r r lf' rg' nx' fd' wt' fl' fp' rl' rc' mr' mm' mf' mw' mk') :
    H_lay_wp pr lf rg nx fd wt fl fp nc na rl rc nn (fun r lf' rg' nx' fd' wt' fl' fp' rl' rc' => M_lay_wp mp mn mc ma mr mm mf mw mk (fun r' mr' mm' mf' mw' mk' => K r r' lf' rg' nx' fd' wt' fl' fp' rl' rc' mr' mm' mf' mw' mk')) := by
  have hN0 := hN
  obtain ⟨⟨hnn, hI⟩, em, hE⟩ := hN
  subst em
  have hP := pm_F_P hF
  have hrlb : ∀ n, 0 ≤ n → n < mn → 0 ≤ rl n ∧ rl n ≤ 144 := by
    intro n n0 n1
    have h5 := hI n n0 n1
    rcases h5.2.1 with z | z
    · have := h5.2.2.2.2.2.1 z; omega
    · have := (h5.2.2.2.2.2.2.1 (by omega)).1; omega
  refine pm_l11 (fun (x1 x2 : Int) (_ _ _ _ : Int → Int) (_ _ _ : Int) (rl2 rc2 : Int → Int) => ∃ k : Nat, x2 = k ∧ (k : Int) ≤ mn ∧ x1 = pm_fo (fun a n => a + pm_b (pm_chg rl rc rl2 rc2 n)) 0 k ∧ (∀ n : Int, 0 ≤ n → n < k → pm_laid pr nc na rl rc rl2 rc2 n) ∧ (∀ n : Int, (k : Int) ≤ n → rl2 n = rl n) ∧ (∀ x : Int, (k : Int) * 144 ≤ x → rc2 x = rc x)) (fun (_ x2 : Int) _ _ _ _ _ _ _ _ _ => (mn - x2).toNat) ?_ 0 0 lf rg nx fd wt fl fp rl rc ⟨0, rfl, hnn.1, rfl, fun n _ _ => by omega, fun n _ => rfl, fun x _ => rfl⟩
  intro Kh x1 x2 lf2 rg2 nx2 fd2 wt2 fl2 fp2 rl2 rc2 ⟨k, e2, hk, e1, hL, hrl, hrc⟩ hKh
  subst e2
  refine ⟨⟨by omega, by omega⟩, ⟨by omega, by omega⟩, fun hlt => ?_, fun hge => ?_⟩
  · have hk24 : 0 ≤ (k : Int) ∧ (k : Int) < 24 := by omega
    have h5 := hI k (by omega) hlt
    have hb5 := hrlb k (by omega) hlt
    -- the fold over the rows that stay
    have same : ∀ rl3 rc3 : Int → Int, (∀ n : Int, n ≠ k → rl3 n = rl2 n) → (∀ x : Int, ¬ ((k : Int) * 144 ≤ x ∧ x < (k : Int) * 144 + 144) → rc3 x = rc2 x) → pm_fo (fun a n => a + pm_b (pm_chg rl rc rl3 rc3 n)) 0 k = x1 ∧ ∀ n : Int, 0 ≤ n → n < k → pm_laid pr nc na rl rc rl3 rc3 n := by
      intro rl3 rc3 s1 s2
      constructor
      · rw [e1]
        refine pm_fo_congr (fun j b hj => ?_)
        congr 1
        refine pm_b_c ?_
        have hbj := hrlb j (by omega) (by omega)
        unfold pm_chg
        rw [s1 j (by omega)]
        constructor
        · intro q z; exact q ⟨z.1, fun i i0 i1 => by rw [s2 _ (by omega)]; exact z.2 i i0 i1⟩
        · intro q z; exact q ⟨z.1, fun i i0 i1 => by rw [← s2 _ (by omega)]; exact z.2 i i0 i1⟩
      · intro n n0 n1
        have hn := hL n n0 n1
        refine ⟨fun q => ?_, fun q => ?_⟩
        · rw [s1 n (by omega)]
          exact ⟨(hn.1 q).1, fun i i0 i1 => by rw [s2 _ (by omega)]; exact (hn.1 q).2 i i0 i1⟩
        · obtain ⟨D, hD, hc⟩ := hn.2 q
          refine ⟨D, hD, ?_⟩
          rw [s1 n (by omega)]
          have hup : 0 ≤ na n ∧ na n < n := by
            have := (hI n n0 (by omega)).2.1; omega
          rcases hc with ⟨c1, c2, c3⟩ | ⟨c1, c2, c3⟩
          · exact Or.inl ⟨c1, c2, fun i i0 i1 => by rw [s2 _ (by omega)]; exact c3 i i0 i1⟩
          · have hcn := (hI n n0 (by omega)).1
            have hct := pm_BE_ct hP hD (nc n) hcn.1 hcn.2 c1
            exact Or.inr ⟨c1, c2, fun i i0 => by rw [s2 _ (by omega)]; exact c3 i i0⟩
    have stay : ∀ (y : Int) (l r n f : Int → Int) (w a b : Int), y = (k : Int) + 1 → pm_laid pr nc na rl rc rl2 rc2 k → Kh x1 y l r n f w a b rl2 rc2 := by
      intro y l r n f w a b hy hl
      subst hy
      refine hKh _ _ _ _ _ _ _ _ _ _ _ ⟨k + 1, by omega, by omega, ?_, fun n n0 n1 => ?_, fun n n0 => hrl n (by omega), fun x x0 => hrc x (by omega)⟩ (by omega)
      · show _ = pm_fo _ 0 k + pm_b (pm_chg rl rc rl2 rc2 k)
        rw [← e1, pm_b_f]
        · omega
        · intro q
          exact q ⟨hrl k (by omega), fun i i0 i1 => hrc _ (by omega)⟩
      · rcases (show n < k ∨ n = k by omega) with z | z
        · exact hL n n0 z
        · subst z; exact hl
    refine ⟨hk24, ⟨by omega, by omega⟩, ⟨by decide, by decide⟩, fun hm => ⟨Or.inr rfl, pm_eq1 (fun y hy => stay y _ _ _ _ _ _ _ hy ⟨fun _ => ⟨hrl k (by omega), fun i i0 i1 => hrc _ (by omega)⟩, fun q => absurd hm q⟩)⟩, fun hm => ⟨Or.inl rfl, pm_eq0 ⟨hk24, ⟨hk24, fun up hup => ?_⟩⟩⟩⟩
    have hup2 : 0 ≤ na k ∧ na k < k := by omega
    have hcu := (hI (na k) hup2.1 (by omega)).1
    subst hup
    refine ⟨⟨by omega, by omega⟩, ⟨by decide, by decide⟩, fun q => absurd q hm, fun _ => ⟨by omega, ?_⟩⟩
    refine sp_find hP hcu h5.1 (fun D rg' nx' wt' hD h0 => pm_eq0 (fun y hy => stay y _ _ _ _ _ _ _ hy ⟨fun q => absurd q hm, fun _ => ⟨D, hD, Or.inl ⟨h0, hrl k (by omega), fun i i0 i1 => hrc _ (by omega)⟩⟩⟩)) (fun D rg' nx' wt' fd' hD hf hfd => pm_eq1 ?_)
    have hct := pm_BE_ct hP hD (nc k) h5.1.1 h5.1.2 hf
    have hpt := pm_pt_ok hP hD hcu h5.1 hf
    have fdr : ∀ i, 0 ≤ i → i < D (nc k) % 256 + 1 → (0 ≤ fd' i ∧ fd' i < 144) ∧ fd' i = pm_pt pr D (nc k) i.toNat := by
      intro i i0 i1
      have h6 := hpt i.toNat (by omega)
      have h7 := hfd i.toNat (by omega)
      rw [show ((i.toNat : Nat) : Int) = i by omega] at h7
      exact ⟨by rw [h7]; exact h6.1, h7⟩
    have erl : rl2 k = rl k := hrl k (by omega)
    refine sp_layRun hk24 ⟨by omega, by omega⟩ ⟨by omega, by omega⟩ (fun i i0 i1 => ⟨by have := fdr i i0 i1; omega, by have := fdr i i0 i1; omega⟩) (fun q i i0 i1 => ?_) (fun r rc3 hr hr2 hin hout => ?_)
    · rw [hrc _ (by omega)]
      have := h5.2.2.2.2.2.2.2.1 i i0 (by omega)
      exact ⟨by omega, by omega⟩
    · have hchg : r = 0 ↔ ¬ pm_chg rl rc (ph_u rl2 k (D (nc k) % 256 + 1)) rc3 k := by
        unfold pm_chg
        rw [hr2, pm_us, Classical.not_not, erl]
        constructor
        · intro q
          exact ⟨q.1.symm, fun i i0 i1 => by rw [hin i i0 (by omega), ← q.2 i i0 (by omega), hrc _ (by omega)]⟩
        · intro q
          exact ⟨q.1.symm, fun i i0 i1 => by rw [← hin i i0 i1, q.2 i i0 (by omega), hrc _ (by omega)]⟩
      obtain ⟨sm1, sm2⟩ := same (ph_u rl2 k (D (nc k) % 256 + 1)) rc3 (fun n hn => pm_un hn) (fun x hx => hout x (by omega))
      have nextI : ∀ y2 : Int, y2 = x1 + (if r = 0 then 0 else 1) → ∀ y : Int, y = (k : Int) + 1 → Kh y2 y D rg' nx' fd' wt' (D (nc k) % 256 + 1) (D (nc k) / 256) (ph_u rl2 k (D (nc k) % 256 + 1)) rc3 := by
        intro y2 hy2 y hy
        subst hy
        refine hKh _ _ _ _ _ _ _ _ _ _ _ ⟨k + 1, by omega, by omega, ?_, fun n n0 n1 => ?_, fun n n0 => ?_, fun x x0 => ?_⟩ (by omega)
        · show _ = pm_fo _ 0 k + pm_b (pm_chg rl rc _ rc3 k)
          rw [sm1, hy2]
          by_cases h0 : r = 0
          · rw [if_pos h0, pm_b_f (hchg.mp h0)]
          · rw [if_neg h0, pm_b_t (Classical.not_not.mp (fun q => h0 (hchg.mpr q)))]
        · rcases (show n < k ∨ n = k by omega) with z | z
          · exact sm2 n n0 z
          · subst z
            refine ⟨fun q => absurd q hm, fun _ => ⟨D, hD, Or.inr ⟨hf, pm_us, fun i i0 => ?_⟩⟩⟩
            rw [hin i (by omega) (by omega)]
            exact hfd i i0
        · rw [pm_un (by omega)]; exact hrl n (by omega)
        · rw [hout x (by omega)]; exact hrc x (by omega)
      refine ⟨⟨by omega, by omega⟩, pm_R0, fun h0 => nextI x1 (by rw [if_pos h0]; omega), fun h0 => fun y2 hy2 => nextI y2 (by rw [if_neg h0]; exact hy2)⟩
  · -- the reference
    have ek : (k : Int) = mn := by omega
    have hbf := pm_fo_bd (g := fun a n => a + pm_b (pm_chg rl rc rl2 rc2 n)) (a := 0) (c := 1) (n := k) (fun j b _ => by
      try dsimp only
      by_cases q : pm_chg rl rc rl2 rc2 j
      · rw [pm_b_t q]; omega
      · rw [pm_b_f q]; omega)
    rw [← e1] at hbf
    have hrl2b : ∀ n, 0 ≤ n → n < mn → (na n = -1 → rl2 n = 0) ∧ (na n ≠ -1 → 1 ≤ rl2 n ∧ rl2 n ≤ 144) ∧ (∀ i, 0 ≤ i → i < rl2 n → 0 ≤ rc2 (n * 144 + i) ∧ rc2 (n * 144 + i) < 144) ∧ (∀ i j, 0 ≤ i → i < j → j < rl2 n → rc2 (n * 144 + i) ≠ rc2 (n * 144 + j)) := by
      intro n n0 n1
      have h5 := hI n n0 n1
      have hl := hL n n0 (by omega)
      have hb5 := hrlb n n0 n1
      have old : rl2 n = rl n → (∀ i, 0 ≤ i → i < 144 → rc2 (n * 144 + i) = rc (n * 144 + i)) → (∀ i, 0 ≤ i → i < rl2 n → 0 ≤ rc2 (n * 144 + i) ∧ rc2 (n * 144 + i) < 144) ∧ (∀ i j, 0 ≤ i → i < j → j < rl2 n → rc2 (n * 144 + i) ≠ rc2 (n * 144 + j)) := by
        intro q1 q2
        rw [q1]
        exact ⟨fun i i0 i1 => by rw [q2 i i0 (by omega)]; exact h5.2.2.2.2.2.2.2.1 i i0 i1, fun i j i0 i1 i2 => by rw [q2 i i0 (by omega), q2 j (by omega) (by omega)]; exact h5.2.2.2.2.2.2.2.2 i j i0 i1 i2⟩
      by_cases hm : na n = -1
      · obtain ⟨q1, q2⟩ := hl.1 hm
        exact ⟨fun _ => by rw [q1]; exact (h5.2.2.2.2.2.1 hm).1, fun q => absurd hm q, old q1 q2⟩
      · refine ⟨fun q => absurd q hm, ?_⟩
        obtain ⟨D, hD, hc⟩ := hl.2 hm
        have hup2 : 0 ≤ na n ∧ na n < n := by have := h5.2.1; omega
        have hcu := (hI (na n) hup2.1 (by omega)).1
        rcases hc with ⟨c1, c2, c3⟩ | ⟨c1, c2, c3⟩
        · exact ⟨fun _ => by rw [c2]; exact (h5.2.2.2.2.2.2.1 hm).1, old c2 c3⟩
        · have hct := pm_BE_ct hP hD (nc n) h5.1.1 h5.1.2 c1
          have hpt := pm_pt_ok hP hD hcu h5.1 c1
          have rr : ∀ i, 0 ≤ i → i < rl2 n → rc2 (n * 144 + i) = pm_pt pr D (nc n) i.toNat := by
            intro i i0 i1
            have := c3 i.toNat (by omega)
            rw [show ((i.toNat : Nat) : Int) = i by omega] at this
            exact this
          refine ⟨fun _ => by omega, fun i i0 i1 => ?_, fun i j i0 i1 i2 => ?_⟩
          · rw [rr i i0 i1]; exact (hpt i.toNat (by omega)).1
          · rw [rr i i0 (by omega), rr j (by omega) i2]; exact pm_pt_ne hP hD hcu h5.1 c1 (by omega) (by omega)
    have newI : pm_NI nc na ns nu ai rl2 rc2 mn := by
      refine ⟨hnn, fun n n0 n1 => ?_⟩
      have h5 := hI n n0 n1
      have h6 := hrl2b n n0 n1
      exact ⟨h5.1, h5.2.1, h5.2.2.1, h5.2.2.2.1, h5.2.2.2.2.1, fun q => ⟨h6.1 q, (h5.2.2.2.2.2.1 q).2⟩, fun q => ⟨h6.2.1 q, (h5.2.2.2.2.2.2.1 q).2⟩, h6.2.2.1, h6.2.2.2⟩
    refine pm_l7 (fun (y1 y2 : Int) (mr2 mm2 : Int → Int) (_ _ : Int → Int) (_ : Int) => ∃ k : Nat, y2 = k ∧ (k : Int) ≤ mn ∧ y1 = pm_fo (fun a n => a + pm_b (pm_chg rl rc rl2 rc2 n)) 0 k ∧ (∀ n : Int, 0 ≤ n → n < k → mm2 n = rl2 n ∧ ∀ i, 0 ≤ i → i < rl2 n → mr2 (144 * n + i) = rc2 (n * 144 + i)) ∧ (∀ n : Int, (k : Int) ≤ n → mm2 n = mm n) ∧ (∀ x : Int, (k : Int) * 144 ≤ x → mr2 x = mr x)) (fun (_ y2 : Int) _ _ _ _ _ => (mn - y2).toNat) ?_ 0 0 mr mm mf mw mk ⟨0, rfl, hnn.1, rfl, fun n _ _ => by omega, fun n _ => rfl, fun x _ => rfl⟩
    intro Kh y1 y2 mr2 mm2 mf2 mw2 mk2 ⟨j, f2, hj, f1, gE, gm, gr⟩ hKh
    subst f2
    refine ⟨⟨by omega, by omega⟩, ⟨by omega, by omega⟩, fun hlt => ?_, fun hge => ?_⟩
    · have hj24 : 0 ≤ (j : Int) ∧ (j : Int) < 24 := by omega
      have h5 := hI j (by omega) hlt
      have e5 := hE j (by omega) hlt
      have hl := hL j (by omega) (by omega)
      have hb5 := hrlb j (by omega) hlt
      have h6 := hrl2b j (by omega) hlt
      have stay : ∀ (y : Int) (f w : Int → Int) (m : Int), y = (j : Int) + 1 → rl2 j = rl j → (∀ i, 0 ≤ i → i < 144 → rc2 ((j : Int) * 144 + i) = rc ((j : Int) * 144 + i)) → Kh y1 y mr2 mm2 f w m := by
        intro y f w m hy q1 q2
        subst hy
        refine hKh _ _ _ _ _ _ _ ⟨j + 1, by omega, by omega, ?_, fun n n0 n1 => ?_, fun n n0 => gm n (by omega), fun x x0 => gr x (by omega)⟩ (by omega)
        · show _ = pm_fo _ 0 j + pm_b (pm_chg rl rc rl2 rc2 j)
          rw [← f1, pm_b_f]
          · omega
          · intro q
            exact q ⟨q1, fun i i0 i1 => q2 i i0 (by omega)⟩
        · rcases (show n < j ∨ n = j by omega) with z | z
          · exact gE n n0 z
          · subst z
            refine ⟨by rw [gm _ (by omega), e5.2.2.2.2.2.1, q1], fun i i0 i1 => ?_⟩
            rw [gr _ (by omega), q2 i i0 (by omega)]
            exact e5.2.2.2.2.2.2 i i0 (by omega)
      have maR : ph_R (ma j) := by rw [e5.2.1]; exact ⟨by omega, by omega⟩
      refine ⟨hj24, maR, pm_R0, fun hm => ?_, fun hm => ⟨hj24, hj24, ?_⟩⟩
      · rw [e5.2.1] at hm
        obtain ⟨q1, q2⟩ := hl.1 (by omega)
        exact fun y hy => stay y _ _ _ hy q1 q2
      · rw [e5.2.1] at hm ⊢
        have hm2 : na j ≠ -1 := by omega
        have hup2 : 0 ≤ na j ∧ na j < j := by omega
        have hcu := (hI (na j) hup2.1 (by omega)).1
        refine ⟨by omega, ?_⟩
        rw [e5.1, (hE (na j) hup2.1 (by omega)).1]
        obtain ⟨D, hD, hc⟩ := hl.2 hm2
        refine sp_findWayF hF hcu h5.1 hD (fun E h0 => pm_eq0 ?_) (fun E mw' hf hmw => pm_eq1 ⟨hj24, ?_⟩)
        · rcases hc with ⟨c1, c2, c3⟩ | ⟨c1, c2, c3⟩
          · exact fun y hy => stay y _ _ _ hy c2 c3
          · omega
        · rcases hc with ⟨c1, c2, c3⟩ | ⟨c1, c2, c3⟩
          · omega
          · have hct := pm_BE_ct hP hD (nc j) h5.1.1 h5.1.2 hf
            have mmj : mm2 j = rl j := by rw [gm _ (by omega)]; exact e5.2.2.2.2.2.1
            have mwr : ∀ i, 0 ≤ i → i < D (nc j) % 256 + 1 → mw' i = rc2 ((j : Int) * 144 + i) := by
              intro i i0 i1
              have q1 := hmw i.toNat (by omega)
              have q2 := c3 i.toNat (by omega)
              rw [show ((i.toNat : Nat) : Int) = i by omega] at q1 q2
              rw [q1, q2]
            have mrr : ∀ i, 0 ≤ i → i < rl j → mr2 (144 * (j : Int) + i) = rc ((j : Int) * 144 + i) := by
              intro i i0 i1
              rw [gr _ (by omega)]; exact e5.2.2.2.2.2.2 i i0 i1
            have after : ∀ s : Int, (s = 0 ∨ s = 1) → (s = 1 ↔ ¬ pm_chg rl rc rl2 rc2 j) → M_lay_j115 mp mn mc ma mr2 mm2 E mw' (D (nc j) % 256 + 1) y1 j s (fun r' mr' mm' mf' mw' mk' => K x1 r' lf2 rg2 nx2 fd2 wt2 fl2 fp2 rl2 rc2 mr' mm' mf' mw' mk') Kh := by
              intro s hs hs2
              have fin : ∀ t : Int, t = pm_b (pm_chg rl rc rl2 rc2 j) → M_lay_j125 mp mn mc ma mr2 mm2 E mw' (D (nc j) % 256 + 1) j y1 t (fun r' mr' mm' mf' mw' mk' => K x1 r' lf2 rg2 nx2 fd2 wt2 fl2 fp2 rl2 rc2 mr' mm' mf' mw' mk') Kh := by
                intro t ht
                intro y hy
                refine sp_take hj24 ⟨by omega, by omega⟩ (fun mr' hmi hmo => fun z hz => ?_)
                subst hz
                refine hKh _ _ _ _ _ _ _ ⟨j + 1, by omega, by omega, ?_, fun n n0 n1 => ?_, fun n n0 => ?_, fun x x0 => ?_⟩ (by omega)
                · show _ = pm_fo _ 0 j + pm_b (pm_chg rl rc rl2 rc2 j)
                  rw [← f1, hy, ht]
                · by_cases hn : n = j
                  · subst hn
                    rw [pm_us]
                    exact ⟨c2.symm, fun i i0 i1 => by rw [hmi i i0 (by omega)]; exact mwr i i0 (by omega)⟩
                  · rw [pm_un hn]
                    have h8 := gE n n0 (by omega)
                    have h9 := hrl2b n n0 (by omega)
                    have h10 : rl2 n ≤ 144 := by
                      by_cases z : na n = -1
                      · have := h9.1 z; omega
                      · exact (h9.2.1 z).2
                    exact ⟨h8.1, fun i i0 i1 => by rw [hmo _ (by omega)]; exact h8.2 i i0 i1⟩
                · rw [pm_un (by omega)]; exact gm n (by omega)
                · rw [hmo _ (by omega)]; exact gr x (by omega)
              refine ⟨⟨by omega, by omega⟩, pm_R0, fun q => fin 1 ?_, fun q => fin 0 ?_⟩
              · rw [pm_b_t (Classical.not_not.mp (fun z => by have := hs2.mpr z; omega))]
              · rw [pm_b_f (hs2.mp (by omega))]
            have loop : ∀ s : Int, (s = 0 ∨ s = 1) → (s = 1 ↔ D (nc j) % 256 + 1 = rl j) → ∃ kk, ph_it (fun _ _ => False) (M_lay_l67 mp mn mc ma mr2 mm2 E mw' (D (nc j) % 256 + 1) y1 j (fun x3_115 => M_lay_j115 mp mn mc ma mr2 mm2 E mw' (D (nc j) % 256 + 1) y1 j x3_115 (fun r' mr' mm' mf' mw' mk' => K x1 r' lf2 rg2 nx2 fd2 wt2 fl2 fp2 rl2 rc2 mr' mm' mf' mw' mk') Kh) (fun r' mr' mm' mf' mw' mk' => K x1 r' lf2 rg2 nx2 fd2 wt2 fl2 fp2 rl2 rc2 mr' mm' mf' mw' mk')) kk s 0 := by
              intro s hs hs2
              refine pm_l2 (fun (s i : Int) => (s = 0 ∨ s = 1) ∧ (0 ≤ i ∧ i ≤ D (nc j) % 256 + 1) ∧ (s = 1 → D (nc j) % 256 + 1 = rl j ∧ ∀ x, 0 ≤ x → x < i → mw' x = rc ((j : Int) * 144 + x)) ∧ (s = 0 → pm_chg rl rc rl2 rc2 j)) (fun (_ i : Int) => (D (nc j) % 256 + 1 - i).toNat) ?_ s 0 ⟨hs, by omega, fun q => ⟨hs2.mp q, fun x _ _ => by omega⟩, fun q => fun z => ?_⟩
              · intro Kl s i ⟨hs3, hi, ht1, ht0⟩ hKl
                have ex : (s = 0 ∨ ¬ i < D (nc j) % 256 + 1) → M_lay_j115 mp mn mc ma mr2 mm2 E mw' (D (nc j) % 256 + 1) y1 j s (fun r' mr' mm' mf' mw' mk' => K x1 r' lf2 rg2 nx2 fd2 wt2 fl2 fp2 rl2 rc2 mr' mm' mf' mw' mk') Kh := by
                  intro ho
                  refine after s hs3 ⟨fun q => fun z => ?_, fun q => ?_⟩
                  · obtain ⟨t1, t2⟩ := ht1 q
                    apply z
                    refine ⟨by rw [c2]; exact t1, fun x x0 x1' => ?_⟩
                    rw [← mwr x x0 (by omega)]
                    exact t2 x x0 (by omega)
                  · rcases hs3 with z | z
                    · exact absurd (ht0 z) q
                    · exact z
                refine ⟨⟨by omega, by omega⟩, ⟨by omega, by omega⟩, fun hlt2 => ⟨⟨by omega, by omega⟩, pm_R0, fun q => ex (Or.inl q), fun q => ⟨by omega, by omega, ?_⟩⟩, fun hlt2 => ex (Or.inr hlt2)⟩
                have hs1 : s = 1 := by omega
                obtain ⟨t1, t2⟩ := ht1 hs1
                have w1 := mwr i hi.1 hlt2
                have w2 := mrr i hi.1 (by omega)
                have w3 := h6.2.2.1 i hi.1 (by omega)
                have w4 := h5.2.2.2.2.2.2.2.1 i hi.1 (by omega)
                refine ⟨⟨by rw [w1]; omega, by rw [w1]; omega⟩, ⟨by rw [w2]; omega, by rw [w2]; omega⟩, fun q => fun y hy => ?_, fun q => fun y hy => ?_⟩
                · subst hy
                  refine hKl _ _ ⟨Or.inr rfl, by omega, fun _ => ⟨t1, fun x x0 x1' => ?_⟩, fun q => absurd q (by decide)⟩ (by omega)
                  by_cases hx : x = i
                  · subst hx; rw [q, w2]
                  · exact t2 x x0 (by omega)
                · subst hy
                  refine hKl _ _ ⟨Or.inl rfl, by omega, fun q => absurd q (by decide), fun _ => fun z => ?_⟩ (by omega)
                  apply q
                  rw [w1, w2]
                  exact z.2 i hi.1 (by omega)
              · have := z.1
                rw [c2] at this
                have := hs2.mpr this
                omega
            refine ⟨⟨by omega, by omega⟩, by rw [mmj]; exact ⟨by omega, by omega⟩, fun q => loop 1 (Or.inr rfl) ⟨fun _ => by rw [← mmj]; exact q, fun _ => rfl⟩, fun q => loop 0 (Or.inl rfl) ⟨fun z => absurd z (by decide), fun z => absurd (by rw [mmj]; exact z) q⟩⟩
    · have ej : j = k := by omega
      subst ej
      rw [← e1] at f1
      rw [f1]
      refine hK _ _ _ _ _ _ _ _ _ _ _ _ _ _ _ ⟨by omega, by omega⟩ ⟨newI, rfl, fun n n0 n1 => ?_⟩
      have e5 := hE n n0 n1
      have g5 := gE n n0 (by omega)
      exact ⟨e5.1, e5.2.1, e5.2.2.1, e5.2.2.2.1, e5.2.2.2.2.1, g5.1, g5.2⟩
end PML
