/-! prices that both floors share -/
theorem pm_F_P {pr mp : Int → Int} (h : pm_F pr mp) : pm_P pr := fun c h0 h1 => (h c h0 h1).2
theorem pm_F_M {pr mp : Int → Int} (h : pm_F pr mp) : pm_P mp := fun c h0 h1 => by have := h c h0 h1; omega
theorem pm_BE_F {U F : Int} {pr mp : Int → Int} {g : Int} {D : Int → Int} (hF : pm_F pr mp) (h : pm_BE U F pr g D) : pm_BE U F mp g D := by
  refine ⟨h.1, h.2.1, fun c h1 h2 h3 h4 => ?_, fun c n hn h0 h1 => ?_⟩
  · obtain ⟨n, hn, a, b, e⟩ := h.2.2.1 c h1 h2 h3 h4
    have := hF n hn.2.1.1 hn.2.1.2
    exact ⟨n, hn, by rw [← this.1]; exact a, b, by rw [← this.1]; exact e⟩
  · have := hF n hn.2.1.1 hn.2.1.2
    rw [← this.1] at h0 ⊢
    exact h.2.2.2 c n hn h0 h1
theorem pm_nx_F {pr mp : Int → Int} {D : Int → Int} {c : Int} (hF : pm_F pr mp) (hc : 0 ≤ c ∧ c < 144) : pm_nx mp D c = pm_nx pr D c := by
  have key : ∀ k, pm_gd mp D c k ↔ pm_gd pr D c k := by
    intro k
    show (pm_bs c k ≠ -1 ∧ 0 < mp (pm_bs c k) ∧ D (pm_bs c k) + mp (pm_bs c k) * 256 + 1 = D c) ↔ (pm_bs c k ≠ -1 ∧ 0 < pr (pm_bs c k) ∧ D (pm_bs c k) + pr (pm_bs c k) * 256 + 1 = D c)
    by_cases hm : pm_bs c k = -1
    · exact ⟨fun q => absurd hm q.1, fun q => absurd hm q.1⟩
    · have hn := pm_bs_nb hc hm
      rw [(hF _ hn.2.1.1 hn.2.1.2).1]
  unfold pm_nx
  simp only [key]
theorem pm_pt_F {pr mp : Int → Int} {D : Int → Int} {g c : Int} (hF : pm_F pr mp) (h : pm_BE 256 1073741824 pr g D) (hgc : 0 ≤ g ∧ g < 144) (hc : 0 ≤ c ∧ c < 144) (hf : D c < 1073741824) : ∀ i : Nat, (i : Int) ≤ D c % 256 → pm_pt mp D c i = pm_pt pr D c i
  | 0, _ => rfl
  | i + 1, hi => by
    have h1 := pm_pt_F hF h hgc hc hf i (by omega)
    have h2 := pm_pt_ok (pm_F_P hF) h hgc hc hf i (by omega)
    show pm_nx mp D (pm_pt mp D c i) = pm_nx pr D (pm_pt pr D c i)
    rw [h1, pm_nx_F hF h2.1]
theorem sp_findWayF {pr mp D : Int → Int} {mf mw : Int → Int} {mk g c : Int} {Q : Int → (Int → Int) → (Int → Int) → Int → Prop} (hF : pm_F pr mp) (hg : 0 ≤ g ∧ g < 144) (hc : 0 ≤ c ∧ c < 144) (hD : pm_BE 256 1073741824 pr g D) (h0 : ∀ E, D c = 1073741824 → Q 0 E mw 0) (h1 : ∀ E mw', D c < 1073741824 → (∀ i : Nat, (i : Int) ≤ D c % 256 → mw' i = pm_pt pr D c i) → Q 1 E mw' (D c % 256 + 1)) : M_findWay_wp mp mf mw mk c g Q :=
  sp_findWay (pm_F_M hF) hg hc (pm_BE_F hF hD) h0 (fun E mw' hf hm => h1 E mw' hf (fun i hi => by rw [hm i hi, pm_pt_F hF hD hg hc hf i hi]))
theorem pm_cheapest {pr mp lf rg nx fd mf : Int → Int} {wt fl fp a b : Int} {K : Int → Int → (Int → Int) → (Int → Int) → (Int → Int) → (Int → Int) → Int → Int → Int → (Int → Int) → Prop} (hF : pm_F pr mp) (ha : ph_R a) (hb : ph_R b) (hK : ∀ r lf' rg' nx' fd' wt' fl' fp' mf', ph_R r → K r r lf' rg' nx' fd' wt' fl' fp' mf') : H_cheapest_wp pr lf rg nx fd wt fl fp a b (fun r lf' rg' nx' fd' wt' fl' fp' => M_cheapest_wp mp mf a b (fun r' mf' => K r r' lf' rg' nx' fd' wt' fl' fp' mf')) := by
  have bad : ¬ ((0 ≤ a ∧ a < 144) ∧ (0 ≤ b ∧ b < 144)) → M_cheapest_wp mp mf a b (fun r' mf' => K (-1001) r' lf rg nx fd wt fl fp mf') := by
    intro hn
    refine sp_isCell ha (fun h1 => pm_eq1 (sp_isCell hb (fun h2 => absurd ⟨h1, h2⟩ hn) (fun _ => pm_eq0 ?_))) (fun _ => pm_eq0 ?_)
    · exact hK _ _ _ _ _ _ _ _ _ ⟨by decide, by decide⟩
    · exact hK _ _ _ _ _ _ _ _ _ ⟨by decide, by decide⟩
  refine sp_Fholds ha (fun h1 => pm_eq1 (sp_Fholds hb (fun h2 => pm_eq1 ?_) (fun h2 => pm_eq0 (bad (fun q => h2 q.2))))) (fun h1 => pm_eq0 (bad (fun q => h1 q.1)))
  have go : ∀ (D lf' rg' nx' fd' : Int → Int) (wt' fl' fp' r : Int), pm_BE 256 1073741824 pr b D → (D a = 1073741824 → r = -1) → (D a < 1073741824 → r = D a / 256) → M_cheapest_wp mp mf a b (fun r' mf' => K r r' lf' rg' nx' fd' wt' fl' fp' mf') := by
    intro D lf' rg' nx' fd' wt' fl' fp' r hD hr0 hr1
    refine sp_isCell ha (fun _ => pm_eq1 (sp_isCell hb (fun _ => pm_eq1 ?_) (fun q => absurd h2 q))) (fun q => absurd h1 q)
    refine sp_findLefts (pm_F_M hF) h2 (fun E hE => ?_)
    have hiff := pm_price_of (pm_F_M hF) (pm_BE_F hF hD) hE h1
    have hr := hE.2.1 a h1.1 h1.2
    have hrD := hD.2.1 a h1.1 h1.2
    refine ⟨h1, ⟨by omega, by omega⟩, ⟨by decide, by decide⟩, fun hlt => ⟨h1, ⟨⟨hr.1, by omega, by omega⟩, ⟨by decide, by decide, by decide⟩⟩, ?_⟩, fun hlt => ?_⟩
    · have hf := hiff.1.mpr hlt
      rw [← hiff.2 hf, ← hr1 hf]
      exact hK _ _ _ _ _ _ _ _ _ ⟨by have := hr1 hf; omega, by have := hr1 hf; omega⟩
    · rw [hr0 (by omega)]
      exact hK _ _ _ _ _ _ _ _ _ ⟨by decide, by decide⟩
  refine sp_find (pm_F_P hF) h2 h1 (fun D rg' nx' wt' hD h0 => pm_eq0 (go D _ _ _ _ _ _ _ _ hD (fun _ => rfl) (fun q => by omega))) (fun D rg' nx' wt' fd' hD hf hfd => pm_eq1 (go D _ _ _ _ _ _ _ _ hD (fun q => by omega) (fun _ => rfl)))
theorem pm_way {pr mp lf rg nx fd mf mw : Int → Int} {wt fl fp mk a b i : Int} {K : Int → Int → (Int → Int) → (Int → Int) → (Int → Int) → (Int → Int) → Int → Int → Int → (Int → Int) → (Int → Int) → Int → Prop} (hF : pm_F pr mp) (ha : ph_R a) (hb : ph_R b) (hi : ph_R i) (hK : ∀ r lf' rg' nx' fd' wt' fl' fp' mf' mw' mk', ph_R r → K r r lf' rg' nx' fd' wt' fl' fp' mf' mw' mk') : H_way_wp pr lf rg nx fd wt fl fp a b i (fun r lf' rg' nx' fd' wt' fl' fp' => M_way_wp mp mf mw mk a b i (fun r' mf' mw' mk' => K r r' lf' rg' nx' fd' wt' fl' fp' mf' mw' mk')) := by
  have bad : ¬ ((0 ≤ a ∧ a < 144) ∧ (0 ≤ b ∧ b < 144)) → M_way_wp mp mf mw mk a b i (fun r' mf' mw' mk' => K (-1001) r' lf rg nx fd wt fl fp mf' mw' mk') := by
    intro hn
    refine sp_isCell ha (fun h1 => pm_eq1 (sp_isCell hb (fun h2 => absurd ⟨h1, h2⟩ hn) (fun _ => pm_eq0 ?_))) (fun _ => pm_eq0 ?_)
    · exact hK _ _ _ _ _ _ _ _ _ _ _ ⟨by decide, by decide⟩
    · exact hK _ _ _ _ _ _ _ _ _ _ _ ⟨by decide, by decide⟩
  refine sp_Fholds ha (fun h1 => pm_eq1 (sp_Fholds hb (fun h2 => pm_eq1 ?_) (fun h2 => pm_eq0 (bad (fun q => h2 q.2))))) (fun h1 => pm_eq0 (bad (fun q => h1 q.1)))
  refine sp_find (pm_F_P hF) h2 h1 (fun D rg' nx' wt' hD h0 => pm_eq0 ?_) (fun D rg' nx' wt' fd' hD hf hfd => pm_eq1 ?_)
  · refine sp_isCell ha (fun _ => pm_eq1 (sp_isCell hb (fun _ => pm_eq1 ?_) (fun q => absurd h2 q))) (fun q => absurd h1 q)
    refine sp_findWayF hF h2 h1 hD (fun E _ => pm_eq0 ?_) (fun E mw' hf _ => by omega)
    exact hK _ _ _ _ _ _ _ _ _ _ _ ⟨by decide, by decide⟩
  · have hct := pm_BE_ct (pm_F_P hF) hD a h1.1 h1.2 hf
    have model : ∀ r, (¬ (0 ≤ i ∧ i < D a % 256 + 1) → r = -1) → (∀ j : Nat, i = j → (j : Int) ≤ D a % 256 → r = pm_pt pr D a j) → ph_R r → M_way_wp mp mf mw mk a b i (fun r' mf' mw' mk' => K r r' D rg' nx' fd' wt' (D a % 256 + 1) (D a / 256) mf' mw' mk') := by
      intro r hr0 hr1 hrR
      refine sp_isCell ha (fun _ => pm_eq1 (sp_isCell hb (fun _ => pm_eq1 ?_) (fun q => absurd h2 q))) (fun q => absurd h1 q)
      refine sp_findWayF hF h2 h1 hD (fun E q => by omega) (fun E mw' _ hmw => pm_eq1 ⟨hi, ⟨by omega, by omega⟩, sp_in hi pm_R0 ⟨by omega, by omega⟩ (fun q => pm_eq1 ⟨by omega, ?_⟩) (fun q => pm_eq0 ?_)⟩)
      · obtain ⟨j, hj⟩ : ∃ j : Nat, i = j := ⟨i.toNat, by omega⟩
        have e := hmw j (by omega)
        rw [← hj, ← hr1 j hj (by omega)] at e
        rw [e]
        exact hK _ _ _ _ _ _ _ _ _ _ _ hrR
      · rw [hr0 (by omega)]
        exact hK _ _ _ _ _ _ _ _ _ _ _ ⟨by decide, by decide⟩
    refine ⟨hi, pm_R0, fun q => model _ (fun _ => rfl) (fun j _ _ => by omega) ⟨by decide, by decide⟩, fun q => ⟨hi, ⟨by omega, by omega⟩, fun q2 => ⟨by omega, ?_⟩, fun q2 => model _ (fun _ => rfl) (fun j _ _ => by omega) ⟨by decide, by decide⟩⟩⟩
    obtain ⟨j, hj⟩ : ∃ j : Nat, i = j := ⟨i.toNat, by omega⟩
    have e := hfd j (by omega)
    have hpt := pm_pt_ok (pm_F_P hF) hD h2 h1 hf j (by omega)
    rw [hj, e]
    refine hj ▸ model _ (fun q3 => by omega) (fun j2 hj2 _ => ?_) ⟨by omega, by omega⟩
    have : j2 = j := by omega
    rw [this]
/-! the nodes -/
def pm_NI (nc na ns nu ai rl rc : Int → Int) (nn : Int) : Prop := (0 ≤ nn ∧ nn ≤ 24) ∧ ∀ n, 0 ≤ n → n < nn → (0 ≤ nc n ∧ nc n < 144) ∧ (na n = -1 ∨ (0 ≤ na n ∧ na n < n)) ∧ (ns n = 0 ∨ ns n = 1) ∧ (0 ≤ nu n ∧ nu n ≤ 50) ∧ (ai n = 0 ∨ ai n = 1) ∧ (na n = -1 → rl n = 0 ∧ (ns n = 0 → ai n = 1)) ∧ (na n ≠ -1 → (1 ≤ rl n ∧ rl n ≤ 144) ∧ ns n = ns (na n)) ∧ (∀ i, 0 ≤ i → i < rl n → 0 ≤ rc (n * 144 + i) ∧ rc (n * 144 + i) < 144) ∧ (∀ i j, 0 ≤ i → i < j → j < rl n → rc (n * 144 + i) ≠ rc (n * 144 + j))
def pm_NE (nc na ns nu ai rl rc : Int → Int) (nn : Int) (mn : Int) (mc ma ms mu mi mr mm : Int → Int) : Prop := mn = nn ∧ ∀ n, 0 ≤ n → n < nn → mc n = nc n ∧ ma n = na n ∧ ms n = ns n ∧ mu n = nu n ∧ mi n = ai n ∧ mm n = rl n ∧ ∀ i, 0 ≤ i → i < rl n → mr (144 * n + i) = rc (n * 144 + i)
def pm_N (nc na ns nu ai rl rc : Int → Int) (nn : Int) (mn : Int) (mc ma ms mu mi mr mm : Int → Int) : Prop := pm_NI nc na ns nu ai rl rc nn ∧ pm_NE nc na ns nu ai rl rc nn mn mc ma ms mu mi mr mm
def pm_V (rv mv li ml : Int → Int) : Prop := (∀ k, 0 ≤ k → k < 4 → mv k = rv k) ∧ (1 ≤ rv 0 ∧ rv 0 ≤ 20) ∧ (0 ≤ rv 1 ∧ rv 1 ≤ 2000) ∧ (1 ≤ rv 2 ∧ rv 2 ≤ 500) ∧ (50 ≤ rv 3 ∧ rv 3 ≤ 2000) ∧ ∀ s, 0 ≤ s → s < 6 → ml s = li s ∧ 1 ≤ li s ∧ li s ≤ 2000
theorem pm_rule {rv mv li ml : Int → Int} {a b : Int} {K : Int → Int → (Int → Int) → (Int → Int) → Prop} (hV : pm_V rv mv li ml) (ha : ph_R a) (hb : ph_R b) (hK : ∀ r rv' mv', ph_R r → pm_V rv' mv' li ml → K r r rv' mv') : H_rule_wp rv a b (fun r rv' => M_rule_wp mv a b (fun r' mv' => K r r' rv' mv')) := by
  have hl : ∀ k, 0 ≤ k → k < 4 → ph_R (ph_least k) := fun k _ _ => by unfold ph_least ph_R; split <;> (try split) <;> (try split) <;> omega
  have hm : ∀ k, 0 ≤ k → k < 4 → ph_R (ph_most k) := fun k _ _ => by unfold ph_most ph_R; split <;> (try split) <;> (try split) <;> omega
  have model : ∀ (r : Int) (rv' : Int → Int) (P : Prop), (¬ (0 ≤ a ∧ a < 4 ∧ ph_least a ≤ b ∧ b ≤ ph_most a) → r = -1002 ∧ rv' = rv) → ((0 ≤ a ∧ a < 4 ∧ ph_least a ≤ b ∧ b ≤ ph_most a) → r = rv a ∧ rv' = ph_u rv a b) → M_rule_wp mv a b (fun r' mv' => K r r' rv' mv') := by
    intro r rv' P h0 h1
    refine ⟨ha, sp_in ha pm_R0 ⟨by decide, by decide⟩ (fun hin => pm_eq1 ?_) (fun hin => pm_eq0 ?_)⟩
    · have last : ∀ x3 s0, x3 = ph_least a → s0 = ph_most a → M_rule_j60 mv a b x3 s0 (fun r' mv' => K r r' rv' mv') := by
        intro x3 s0 e3 e0
        subst e3; subst e0
        refine ⟨hb, hl a hin.1 (by omega), hm a hin.1 (by omega), sp_in hb (hl a hin.1 (by omega)) (hm a hin.1 (by omega)) (fun q => pm_eq1 ⟨by omega, fun x hx => ⟨by omega, fun m2 hm2 => ?_⟩⟩) (fun q => pm_eq0 ?_)⟩
        · obtain ⟨e1, e2⟩ := h1 ⟨hin.1, by omega, q.1, q.2⟩
          have hv := hV.1 a hin.1 (by omega)
          have e : x = r := by rw [hx, hv, e1]
          subst e
          have hva : ph_R (rv a) := by
            obtain ⟨-, v0, v1, v2, v3, -⟩ := hV
            rcases (show a = 0 ∨ a = 1 ∨ a = 2 ∨ a = 3 by omega) with z | z | z | z <;> subst z <;> exact ⟨by omega, by omega⟩
          refine hK _ _ _ (by rw [e1]; exact hva) ⟨fun k k0 k1 => ?_, ?_⟩
          · rw [e2, hm2]
            by_cases hk : k = a
            · subst hk; rw [pm_us, pm_us]
            · rw [pm_un hk, pm_un hk]; exact hV.1 k k0 k1
          · rw [e2]
            obtain ⟨-, v0, v1, v2, v3, v4⟩ := hV
            have q1 := q.1
            have q2 := q.2
            unfold ph_least at q1
            unfold ph_most at q2
            rcases (show a = 0 ∨ a = 1 ∨ a = 2 ∨ a = 3 by omega) with z | z | z | z <;> subst z <;> simp at q1 q2 <;> simp [ph_u] <;> exact ⟨by omega, by omega, by omega, by omega, v4⟩
        · obtain ⟨e1, e2⟩ := h0 (fun z => q ⟨z.2.2.1, z.2.2.2⟩)
          rw [e1, e2]
          exact hK _ _ _ ⟨by decide, by decide⟩ hV
      have mid : ∀ s0, s0 = ph_least a → M_rule_j36 mv a b s0 (fun r' mv' => K r r' rv' mv') := by
        intro s0 e0
        refine ⟨ha, pm_R0, fun z => last _ _ e0 (by subst z; rfl), fun z => ⟨ha, ⟨by decide, by decide⟩, fun z2 => last _ _ e0 (by subst z2; rfl), fun z2 => last _ _ e0 ?_⟩⟩
        rcases (show a = 1 ∨ a = 3 by omega) with y | y <;> subst y <;> rfl
      refine ⟨ha, pm_R1, fun z => mid _ (by subst z; rfl), fun z => ⟨ha, ⟨by decide, by decide⟩, fun z2 => mid _ (by subst z2; rfl), fun z2 => mid _ ?_⟩⟩
      rcases (show a = 0 ∨ a = 2 by omega) with y | y <;> subst y <;> rfl
    · obtain ⟨e1, e2⟩ := h0 (fun z => hin (by omega))
      rw [e1, e2]
      exact hK _ _ _ ⟨by decide, by decide⟩ hV
  refine ⟨ha, pm_R0, fun h0 => ⟨Or.inl rfl, pm_eq0 (model _ _ True (fun _ => ⟨rfl, rfl⟩) (fun q => by omega))⟩, fun h0 => ⟨ha, ⟨by decide, by decide⟩, fun h4 => ⟨⟨by omega, h4⟩, hb, hl a (by omega) h4, fun h5 => ⟨Or.inl rfl, pm_eq0 (model _ _ True (fun _ => ⟨rfl, rfl⟩) (fun q => by omega))⟩, fun h5 => ⟨⟨by omega, h4⟩, hm a (by omega) h4, hb, fun h6 => ⟨Or.inl rfl, pm_eq0 (model _ _ True (fun _ => ⟨rfl, rfl⟩) (fun q => by omega))⟩, fun h6 => ⟨Or.inr rfl, pm_eq1 ⟨⟨by omega, h4⟩, fun x hx => ⟨⟨by omega, h4⟩, fun r2 hr2 => ?_⟩⟩⟩⟩⟩, fun h4 => ⟨Or.inl rfl, pm_eq0 (model _ _ True (fun _ => ⟨rfl, rfl⟩) (fun q => by omega))⟩⟩⟩
  exact model _ _ True (fun q => by omega) (fun _ => ⟨hx, hr2⟩)
theorem pm_limit {rv mv li ml : Int → Int} {a b : Int} {K : Int → Int → (Int → Int) → (Int → Int) → Prop} (hV : pm_V rv mv li ml) (ha : ph_R a) (hb : ph_R b) (hK : ∀ r li' ml', ph_R r → pm_V rv mv li' ml' → K r r li' ml') : H_limit_wp li a b (fun r li' => M_limit_wp ml a b (fun r' ml' => K r r' li' ml')) := by
  have hL := hV.2.2.2.2.2
  have lR : ∀ s, 0 ≤ s → s < 6 → ph_R (li s) := fun s h0 h1 => by have := hL s h0 h1; exact ⟨by omega, by omega⟩
  have model : ∀ (r : Int) (li' : Int → Int), (¬ (0 ≤ a ∧ a < 6 ∧ 1 ≤ b ∧ b ≤ 2000) → r = -1002 ∧ li' = li) → ((0 ≤ a ∧ a < 6 ∧ 1 ≤ b ∧ b ≤ 2000) → ((0 < a → li (a - 1) < b) ∧ (a < 5 → b < li (a + 1))) → r = li a ∧ li' = ph_u li a b) → ((0 ≤ a ∧ a < 6 ∧ 1 ≤ b ∧ b ≤ 2000) → ¬ ((0 < a → li (a - 1) < b) ∧ (a < 5 → b < li (a + 1))) → r = -1003 ∧ li' = li) → M_limit_wp ml a b (fun r' ml' => K r r' li' ml') := by
    intro r li' h0 h1 h2
    have bad : ¬ (0 ≤ a ∧ a < 6 ∧ 1 ≤ b ∧ b ≤ 2000) → K r (-1002) li' ml := by
      intro q; obtain ⟨e1, e2⟩ := h0 q; rw [e1, e2]; exact hK _ _ _ ⟨by decide, by decide⟩ hV
    refine ⟨ha, sp_in ha pm_R0 ⟨by decide, by decide⟩ (fun hin => pm_eq1 ⟨hb, sp_in hb pm_R1 ⟨by decide, by decide⟩ (fun hin2 => pm_eq1 ?_) (fun hin2 => pm_eq0 (bad (fun q => hin2 (by omega))))⟩) (fun hin => pm_eq0 (bad (fun q => hin (by omega))))⟩
    have hall : 0 ≤ a ∧ a < 6 ∧ 1 ≤ b ∧ b ≤ 2000 := by omega
    have mR : ∀ s, 0 ≤ s → s < 6 → ph_R (ml s) := fun s h0 h1 => by have := hL s h0 h1; exact ⟨by omega, by omega⟩
    have no : ¬ ((0 < a → li (a - 1) < b) ∧ (a < 5 → b < li (a + 1))) → K r (-1003) li' ml := by
      intro q; obtain ⟨e1, e2⟩ := h2 hall q; rw [e1, e2]; exact hK _ _ _ ⟨by decide, by decide⟩ hV
    have yes : ((0 < a → li (a - 1) < b) ∧ (a < 5 → b < li (a + 1))) → M_limit_j65 ml a b (fun r' ml' => K r r' li' ml') := by
      intro q
      obtain ⟨e1, e2⟩ := h1 hall q
      refine ⟨⟨by omega, by omega⟩, fun x hx => ⟨⟨by omega, by omega⟩, fun m2 hm2 => ?_⟩⟩
      have e : x = r := by rw [hx, e1, (hL a hin.1 (by omega)).1]
      subst e
      refine hK _ _ _ (by rw [e1]; exact lR a hin.1 (by omega)) ⟨hV.1, hV.2.1, hV.2.2.1, hV.2.2.2.1, hV.2.2.2.2.1, fun s s0 s1 => ?_⟩
      rw [e2, hm2]
      by_cases hs : s = a
      · subst hs; rw [pm_us, pm_us]; omega
      · rw [pm_un hs, pm_un hs]; exact hL s s0 s1
    have upper : (0 < a → li (a - 1) < b) → M_limit_j44 ml a b (fun r' ml' => K r r' li' ml') := by
      intro q
      refine ⟨ha, ⟨by decide, by decide⟩, fun h5 => ⟨⟨by omega, by omega⟩, hb, mR _ (by omega) (by omega), fun h6 => yes ⟨q, fun _ => by rw [← (hL (a + 1) (by omega) (by omega)).1]; exact h6⟩, fun h6 => no (fun z => h6 (by rw [(hL (a + 1) (by omega) (by omega)).1]; exact z.2 h5))⟩, fun h5 => yes ⟨q, fun z => absurd z h5⟩⟩
    refine ⟨pm_R0, ha, fun h5 => ⟨⟨by omega, by omega⟩, mR _ (by omega) (by omega), hb, fun h6 => upper (fun _ => by rw [← (hL (a - 1) (by omega) (by omega)).1]; exact h6), fun h6 => no (fun z => h6 (by rw [(hL (a - 1) (by omega) (by omega)).1]; exact z.1 h5))⟩, fun h5 => upper (fun z => absurd z h5)⟩
  have out : ¬ (0 ≤ a ∧ a < 6 ∧ 1 ≤ b ∧ b ≤ 2000) → M_limit_wp ml a b (fun r' ml' => K (-1002) r' li ml') := fun q => model _ _ (fun _ => ⟨rfl, rfl⟩) (fun z => absurd z q) (fun z => absurd z q)
  refine ⟨ha, pm_R0, fun h0 => ⟨Or.inl rfl, pm_eq0 (out (by omega))⟩, fun h0 => ⟨ha, ⟨by decide, by decide⟩, fun h6 => ⟨hb, pm_R1, fun h1 => ⟨Or.inl rfl, pm_eq0 (out (by omega))⟩, fun h1 => ⟨⟨by decide, by decide⟩, hb, fun h2 => ⟨Or.inl rfl, pm_eq0 (out (by omega))⟩, fun h2 => ⟨Or.inr rfl, pm_eq1 ?_⟩⟩⟩, fun h6 => ⟨Or.inl rfl, pm_eq0 (out (by omega))⟩⟩⟩
  have hall : 0 ≤ a ∧ a < 6 ∧ 1 ≤ b ∧ b ≤ 2000 := by omega
  have no : ¬ ((0 < a → li (a - 1) < b) ∧ (a < 5 → b < li (a + 1))) → M_limit_wp ml a b (fun r' ml' => K (-1003) r' li ml') := fun q => model _ _ (fun z => absurd hall z) (fun _ z => absurd z q) (fun _ _ => ⟨rfl, rfl⟩)
  have yes : ((0 < a → li (a - 1) < b) ∧ (a < 5 → b < li (a + 1))) → V_changeLimit_wp li a b (fun r li' => M_limit_wp ml a b (fun r' ml' => K r r' li' ml')) := by
    intro q
    refine ⟨⟨by omega, by omega⟩, fun x hx => ⟨⟨by omega, by omega⟩, fun l2 hl2 => ?_⟩⟩
    exact model _ _ (fun z => absurd hall z) (fun _ _ => ⟨hx, hl2⟩) (fun _ z => absurd q z)
  have upper : (0 < a → li (a - 1) < b) → V_wouldRise_j16 li a b (fun r_18 => ph_eq r_18 0 (M_limit_wp ml a b (fun r' ml' => K (-1003) r' li ml')) (V_changeLimit_wp li a b (fun r li' => M_limit_wp ml a b (fun r' ml' => K r r' li' ml')))) := by
    intro q
    refine ⟨ha, ⟨by decide, by decide⟩, fun h5 => ⟨Or.inr rfl, pm_eq1 (yes ⟨q, fun z => by omega⟩)⟩, fun h5 => ⟨⟨by omega, by omega⟩, hb, lR _ (by omega) (by omega), fun h7 => ⟨Or.inr rfl, pm_eq1 (yes ⟨q, fun _ => h7⟩)⟩, fun h7 => ⟨Or.inl rfl, pm_eq0 (no (fun z => h7 (z.2 (by omega))))⟩⟩⟩
  exact ⟨ha, pm_R0, fun h5 => upper (fun z => by omega), fun h5 => ⟨⟨by omega, by omega⟩, lR _ (by omega) (by omega), hb, fun h7 => upper (fun _ => h7), fun h7 => ⟨Or.inl rfl, pm_eq0 (no (fun z => h7 (z.1 (by omega))))⟩⟩⟩
