/-! what is told of nodes -/
section PMT
variable {nc na ns nu ai rl rc mc ma ms mu mi mr mm : Int → Int} {nn mn : Int}
theorem pm_units {a b : Int} {K : Int → Int → (Int → Int) → (Int → Int) → Prop} (hN : pm_N nc na ns nu ai rl rc nn mn mc ma ms mu mi mr mm) (ha : ph_R a) (hb : ph_R b) (hK : ∀ r nu' mu', ph_R r → pm_N nc na ns nu' ai rl rc nn mn mc ma ms mu' mi mr mm → K r r nu' mu') : H_units_wp nu nn a b (fun r nu' => M_units_wp mn mu a b (fun r' mu' => K r r' nu' mu')) := by
  obtain ⟨⟨hnn, hI⟩, em, hE⟩ := hN
  subst em
  refine sp_Nholds hnn ha (fun h1 => pm_eq1 (sp_isOut hb ⟨by decide, by decide⟩ (fun h2 => pm_eq0 ?_) (fun h2 => pm_eq1 ?_))) (fun h1 => pm_eq0 ?_)
  · have ha24 : 0 ≤ a ∧ a < 24 := by omega
    refine ⟨ha24, fun x hx => ⟨ha24, fun n2 hn2 => ?_⟩⟩
    refine sp_isNode hnn ha (fun _ => pm_eq1 ⟨hb, sp_in hb pm_R0 ⟨by decide, by decide⟩ (fun _ => pm_eq1 ⟨ha24, fun y hy => ⟨ha24, fun m2 hm2 => ?_⟩⟩) (fun h => absurd h2 h)⟩) (fun h => absurd h1 h)
    have e := (hE a h1.1 h1.2).2.2.2.1
    have e2 : y = x := by rw [hx, hy, e]
    subst e2
    have hr := (hI a h1.1 h1.2).2.2.2.1
    refine hK _ _ _ ⟨by omega, by omega⟩ ⟨⟨hnn, fun n h3 h4 => ?_⟩, rfl, fun n h3 h4 => ?_⟩
    · have h5 := hI n h3 h4
      refine ⟨h5.1, h5.2.1, h5.2.2.1, ?_, h5.2.2.2.2⟩
      by_cases hna : n = a
      · subst hna; rw [hn2, pm_us]; exact h2
      · rw [hn2, pm_un hna]; exact h5.2.2.2.1
    · have h5 := hE n h3 h4
      refine ⟨h5.1, h5.2.1, h5.2.2.1, ?_, h5.2.2.2.2⟩
      by_cases hna : n = a
      · subst hna; rw [hn2, hm2, pm_us, pm_us]
      · rw [hn2, hm2, pm_un hna, pm_un hna]; exact h5.2.2.2.1
  · refine sp_isNode hnn ha (fun _ => pm_eq1 ⟨hb, sp_in hb pm_R0 ⟨by decide, by decide⟩ (fun h => absurd h h2) (fun _ => pm_eq0 ?_)⟩) (fun h => absurd h1 h)
    exact hK _ _ _ ⟨by decide, by decide⟩ ⟨⟨hnn, hI⟩, rfl, hE⟩
  · refine sp_isNode hnn ha (fun h => absurd h h1) (fun _ => pm_eq0 ?_)
    exact hK _ _ _ ⟨by decide, by decide⟩ ⟨⟨hnn, hI⟩, rfl, hE⟩
theorem pm_air {a b : Int} {K : Int → Int → (Int → Int) → (Int → Int) → Prop} (hN : pm_N nc na ns nu ai rl rc nn mn mc ma ms mu mi mr mm) (ha : ph_R a) (hb : b = 0 ∨ b = 1) (hK : ∀ r ai' mi', ph_R r → pm_N nc na ns nu ai' rl rc nn mn mc ma ms mu mi' mr mm → K r r ai' mi') : H_air_wp na ns ai nn a b (fun r ai' => M_air_wp mn ma ms mi a b (fun r' mi' => K r r' ai' mi')) := by
  have hN0 := hN
  obtain ⟨⟨hnn, hI⟩, em, hE⟩ := hN
  subst em
  refine sp_Nholds hnn ha (fun h1 => pm_eq1 ?_) (fun h1 => pm_eq0 ?_)
  · have ha24 : 0 ≤ a ∧ a < 24 := by omega
    have hI1 := hI a h1.1 h1.2
    have hE1 := hE a h1.1 h1.2
    have no : (na a = -1 ∨ ns a ≠ 0) → M_air_wp mn ma ms mi a b (fun r' mi' => K (-1003) r' ai mi') := by
      intro hn
      refine sp_isNode hnn ha (fun _ => pm_eq1 ⟨ha24, ⟨by rw [hE1.2.1]; omega, by rw [hE1.2.1]; omega⟩, pm_R0, fun q => hK _ _ _ ⟨by decide, by decide⟩ hN0, fun q => ⟨ha24, ⟨by rw [hE1.2.2.1]; omega, by rw [hE1.2.2.1]; omega⟩, pm_R1, fun q2 => hK _ _ _ ⟨by decide, by decide⟩ hN0, fun q2 => ?_⟩⟩) (fun h => absurd h1 h)
      rw [hE1.2.1] at q
      rw [hE1.2.2.1] at q2
      omega
    refine ⟨ha24, ⟨by omega, by omega⟩, ⟨by decide, by decide⟩, fun hm => ⟨Or.inr rfl, pm_eq1 (no (Or.inl hm))⟩, fun hm => ⟨Or.inl rfl, pm_eq0 ⟨ha24, ⟨by omega, by omega⟩, pm_R0, fun hs => ⟨Or.inr rfl, pm_eq1 ⟨ha24, fun x hx => ⟨hb, ha24, fun a2 ha2 => ⟨by rw [hx]; exact hI1.2.2.2.2.1, ?_⟩⟩⟩⟩, fun hs => ⟨Or.inl rfl, pm_eq0 (no (Or.inr hs))⟩⟩⟩⟩
    have model : ∀ r : Int, r = ai a → M_air_wp mn ma ms mi a b (fun r' mi' => K r r' a2 mi') := by
      intro r hr
      have fin : ∀ s, s = ai a → M_air_j49 mn ma ms mi a b s (fun r' mi' => K r r' a2 mi') := by
        intro s hs2
        refine ⟨hb, ha24, fun m2 hm2 => ?_⟩
        rw [hs2, hr]
        refine hK _ _ _ ⟨by omega, by omega⟩ ⟨⟨hnn, fun n h3 h4 => ?_⟩, rfl, fun n h3 h4 => ?_⟩
        · have h5 := hI n h3 h4
          refine ⟨h5.1, h5.2.1, h5.2.2.1, h5.2.2.2.1, ?_, ?_, h5.2.2.2.2.2.2⟩
          · by_cases hna : n = a
            · subst hna; rw [ha2, pm_us]; exact hb
            · rw [ha2, pm_un hna]; exact h5.2.2.2.2.1
          · by_cases hna : n = a
            · subst hna; intro q; exact absurd q hm
            · rw [ha2, pm_un hna]; exact h5.2.2.2.2.2.1
        · have h5 := hE n h3 h4
          refine ⟨h5.1, h5.2.1, h5.2.2.1, h5.2.2.2.1, ?_, h5.2.2.2.2.2⟩
          by_cases hna : n = a
          · subst hna; rw [ha2, hm2, pm_us, pm_us]
          · rw [ha2, hm2, pm_un hna, pm_un hna]; exact h5.2.2.2.2.1
      refine sp_isNode hnn ha (fun _ => pm_eq1 ⟨ha24, ⟨by rw [hE1.2.1]; omega, by rw [hE1.2.1]; omega⟩, pm_R0, fun q => by rw [hE1.2.1] at q; omega, fun q => ⟨ha24, ⟨by rw [hE1.2.2.1]; omega, by rw [hE1.2.2.1]; omega⟩, pm_R1, fun q2 => by rw [hE1.2.2.1] at q2; omega, fun q2 => ⟨ha24, ⟨by rw [hE1.2.2.2.2.1]; omega, by rw [hE1.2.2.2.2.1]; omega⟩, pm_R0, fun q3 => fin 0 (by rw [hE1.2.2.2.2.1] at q3; omega), fun q3 => fin 1 (by rw [hE1.2.2.2.2.1] at q3; omega)⟩⟩⟩) (fun h => absurd h1 h)
    have hx2 := hI1.2.2.2.2.1
    subst hx
    refine ⟨⟨by omega, by omega⟩, pm_R0, fun q => model 0 (by omega), fun q => model 1 (by omega)⟩
  · refine sp_isNode hnn ha (fun h => absurd h h1) (fun _ => pm_eq0 ?_)
    exact hK _ _ _ ⟨by decide, by decide⟩ hN0
theorem pm_cut {a : Int} {K : Int → Int → Int → Int → Prop} (hN : pm_N nc na ns nu ai rl rc nn mn mc ma ms mu mi mr mm) (ha : ph_R a) (hK : ∀ r nn' mn', ph_R r → pm_N nc na ns nu ai rl rc nn' mn' mc ma ms mu mi mr mm → K r r nn' mn') : H_cut_wp nn a (fun r nn' => M_cut_wp mn a (fun r' mn' => K r r' nn' mn')) := by
  have hN0 := hN
  obtain ⟨⟨hnn, hI⟩, em, hE⟩ := hN
  subst em
  refine sp_Nholds hnn ha (fun h1 => pm_eq1 (fun x hx => sp_isNode hnn ha (fun _ => pm_eq1 (fun y hy => ?_)) (fun h => absurd h1 h))) (fun h1 => pm_eq0 (sp_isNode hnn ha (fun h => absurd h h1) (fun _ => pm_eq0 (hK _ _ _ ⟨by decide, by decide⟩ hN0))))
  have e : y = x := by omega
  subst e
  exact hK _ _ _ ⟨by omega, by omega⟩ ⟨⟨by omega, fun n h3 h4 => hI n h3 (by omega)⟩, rfl, fun n h3 h4 => hE n h3 (by omega)⟩
theorem pm_run {a b : Int} {K : Int → Int → Prop} (hN : pm_N nc na ns nu ai rl rc nn mn mc ma ms mu mi mr mm) (ha : ph_R a) (hb : ph_R b) (hK : ∀ r, ph_R r → K r r) : H_run_wp rl rc nn a b (fun r => M_run_wp mn mr mm a b (fun r' => K r r')) := by
  obtain ⟨⟨hnn, hI⟩, em, hE⟩ := hN
  subst em
  refine sp_Nholds hnn ha (fun h1 => pm_eq1 ?_) (fun h1 => pm_eq0 (sp_isNode hnn ha (fun h => absurd h h1) (fun _ => pm_eq0 (hK _ ⟨by decide, by decide⟩))))
  have ha24 : 0 ≤ a ∧ a < 24 := by omega
  have hI1 := hI a h1.1 h1.2
  have hE1 := hE a h1.1 h1.2
  have hrl : 0 ≤ rl a ∧ rl a ≤ 144 := by
    rcases hI1.2.1 with z | z
    · have := hI1.2.2.2.2.2.1 z; omega
    · have := (hI1.2.2.2.2.2.2.1 (by omega)).1; omega
  have model : ∀ r, (¬ (0 ≤ b ∧ b < rl a) → r = -1) → ((0 ≤ b ∧ b < rl a) → r = rc (a * 144 + b)) → M_run_wp mn mr mm a b (fun r' => K r r') := by
    intro r h0 h2
    refine sp_isNode hnn ha (fun _ => pm_eq1 ⟨hb, ha24, ⟨by rw [hE1.2.2.2.2.2.1]; omega, by rw [hE1.2.2.2.2.2.1]; omega⟩, ?_⟩) (fun h => absurd h1 h)
    rw [hE1.2.2.2.2.2.1]
    refine sp_in hb pm_R0 ⟨by omega, by omega⟩ (fun q => pm_eq1 ⟨by omega, ?_⟩) (fun q => pm_eq0 ?_)
    · rw [hE1.2.2.2.2.2.2 b q.1 (by omega), h2 ⟨q.1, by omega⟩]
      have := hI1.2.2.2.2.2.2.2.1 b q.1 (by omega)
      exact hK _ ⟨by omega, by omega⟩
    · rw [h0 (by omega)]
      exact hK _ ⟨by decide, by decide⟩
  refine ⟨hb, pm_R0, fun q => ⟨Or.inl rfl, pm_eq0 (model _ (fun _ => rfl) (fun z => by omega))⟩, fun q => ⟨ha24, hb, ⟨by omega, by omega⟩, fun q2 => ⟨Or.inr rfl, pm_eq1 ⟨by omega, model _ (fun z => by omega) (fun _ => rfl)⟩⟩, fun q2 => ⟨Or.inl rfl, pm_eq0 (model _ (fun _ => rfl) (fun z => by omega))⟩⟩⟩
/-- a new node at the end: what both sides then hold -/
theorem pm_N_add {c up so un av len : Int} {nc' na' ns' nu' ai' rl' rc' mc' ma' ms' mu' mi' mr' mm' : Int → Int} (hN : pm_N nc na ns nu ai rl rc nn mn mc ma ms mu mi mr mm) (h24 : nn < 24) (hc : 0 ≤ c ∧ c < 144) (hup : up = -1 ∨ (0 ≤ up ∧ up < nn)) (hso : so = 0 ∨ so = 1) (hun : 0 ≤ un ∧ un ≤ 50) (hav : av = 0 ∨ av = 1) (hm : up = -1 → len = 0 ∧ (so = 0 → av = 1)) (hh : up ≠ -1 → (1 ≤ len ∧ len ≤ 144) ∧ so = ns up)
    (e1 : nc' = ph_u nc nn c) (e2 : na' = ph_u na nn up) (e3 : ns' = ph_u ns nn so) (e4 : nu' = ph_u nu nn un) (e5 : ∀ n, ai' n = ph_u ai nn av n) (e6 : ∀ n, rl' n = ph_u rl nn len n) (e7 : ∀ n i, 0 ≤ n → n < nn → 0 ≤ i → i < 144 → rc' (n * 144 + i) = rc (n * 144 + i)) (e8 : ∀ i, 0 ≤ i → i < len → 0 ≤ rc' (nn * 144 + i) ∧ rc' (nn * 144 + i) < 144) (e9 : ∀ i j, 0 ≤ i → i < j → j < len → rc' (nn * 144 + i) ≠ rc' (nn * 144 + j))
    (f1 : mc' = ph_u mc nn c) (f2 : ma' = ph_u ma nn up) (f3 : ms' = ph_u ms nn so) (f4 : mu' = ph_u mu nn un) (f5 : ∀ n, mi' n = ph_u mi nn av n) (f6 : ∀ n, mm' n = ph_u mm nn len n) (f7 : ∀ n i, 0 ≤ n → n < nn → 0 ≤ i → i < 144 → mr' (144 * n + i) = mr (144 * n + i)) (f8 : ∀ i, 0 ≤ i → i < len → mr' (144 * nn + i) = rc' (nn * 144 + i)) : pm_N nc' na' ns' nu' ai' rl' rc' (nn + 1) (nn + 1) mc' ma' ms' mu' mi' mr' mm' := by
  obtain ⟨⟨hnn, hI⟩, em, hE⟩ := hN
  subst em
  subst e1; subst e2; subst e3; subst e4; subst f1; subst f2; subst f3; subst f4
  refine ⟨⟨by omega, fun n h3 h4 => ?_⟩, rfl, fun n h3 h4 => ?_⟩
  · rw [e5, e6]
    by_cases hn : n = mn
    · subst hn
      rw [pm_us, pm_us, pm_us, pm_us, pm_us, pm_us]
      refine ⟨hc, hup, hso, hun, hav, hm, fun q => ⟨(hh q).1, ?_⟩, e8, e9⟩
      rw [pm_un (by omega)]; exact (hh q).2
    · have h5 := hI n h3 (by omega)
      rw [pm_un hn, pm_un hn, pm_un hn, pm_un hn, pm_un hn, pm_un hn]
      have hrl : rl n ≤ 144 := by
        rcases h5.2.1 with z | z
        · have := h5.2.2.2.2.2.1 z; omega
        · have := (h5.2.2.2.2.2.2.1 (by omega)).1; omega
      refine ⟨h5.1, h5.2.1, h5.2.2.1, h5.2.2.2.1, h5.2.2.2.2.1, h5.2.2.2.2.2.1, fun q => ⟨(h5.2.2.2.2.2.2.1 q).1, ?_⟩, fun i i0 i1 => ?_, fun i j i0 i1 i2 => ?_⟩
      · rw [pm_un (by omega)]; exact (h5.2.2.2.2.2.2.1 q).2
      · rw [e7 n i h3 (by omega) i0 (by omega)]; exact h5.2.2.2.2.2.2.2.1 i i0 i1
      · rw [e7 n i h3 (by omega) i0 (by omega), e7 n j h3 (by omega) (by omega) (by omega)]; exact h5.2.2.2.2.2.2.2.2 i j i0 i1 i2
  · rw [e5, f5, e6, f6]
    by_cases hn : n = mn
    · subst hn
      simp only [pm_us]
      exact ⟨trivial, trivial, trivial, trivial, trivial, trivial, fun i i0 i1 => f8 i i0 i1⟩
    · have h5 := hE n h3 (by omega)
      have h6 := hI n h3 (by omega)
      simp only [pm_un hn]
      have hrl : rl n ≤ 144 := by
        rcases h6.2.1 with z | z
        · have := h6.2.2.2.2.2.1 z; omega
        · have := (h6.2.2.2.2.2.2.1 (by omega)).1; omega
      refine ⟨h5.1, h5.2.1, h5.2.2.1, h5.2.2.2.1, h5.2.2.2.2.1, h5.2.2.2.2.2.1, fun i i0 i1 => ?_⟩
      rw [f7 n i h3 (by omega) i0 (by omega), e7 n i h3 (by omega) i0 (by omega)]
      exact h5.2.2.2.2.2.2 i i0 i1
theorem pm_uu {f : Int → Int} {i v w : Int} : ∀ n, ph_u (ph_u f i v) i w n = ph_u f i w n := by
  intro n
  by_cases h : n = i
  · subst h; rw [pm_us, pm_us]
  · rw [pm_un h, pm_un h, pm_un h]
theorem pm_main0 {a b : Int} {K : Int → Int → (Int → Int) → (Int → Int) → (Int → Int) → (Int → Int) → (Int → Int) → (Int → Int) → Int → Int → (Int → Int) → (Int → Int) → (Int → Int) → (Int → Int) → (Int → Int) → (Int → Int) → Prop} (hN : pm_N nc na ns nu ai rl rc nn mn mc ma ms mu mi mr mm) (ha : ph_R a) (hb : ph_R b) (hK : ∀ r nc' na' ns' nu' ai' rl' nn' mn' mc' ma' ms' mu' mi' mm', ph_R r → pm_N nc' na' ns' nu' ai' rl' rc nn' mn' mc' ma' ms' mu' mi' mr mm' → K r r nc' na' ns' nu' ai' rl' nn' mn' mc' ma' ms' mu' mi' mm') : H_main_wp nc na ns nu ai rl nn a b (fun r nc' na' ns' nu' ai' rl' nn' => M_main_wp mn mc ma ms mu mi mm a b (fun r' mn' mc' ma' ms' mu' mi' mm' => K r r' nc' na' ns' nu' ai' rl' nn' mn' mc' ma' ms' mu' mi' mm')) := by
  have hN0 := hN
  obtain ⟨⟨hnn, hI⟩, em, hE⟩ := hN
  subst em
  refine sp_Fholds ha (fun h1 => pm_eq1 (sp_isOut hb pm_R1 (fun h2 => pm_eq0 ?_) (fun h2 => pm_eq1 ?_))) (fun h1 => pm_eq0 (sp_isCell ha (fun h => absurd h h1) (fun _ => pm_eq0 (hK _ _ _ _ _ _ _ _ _ _ _ _ _ _ _ ⟨by decide, by decide⟩ hN0))))
  · refine ⟨⟨by omega, by omega⟩, ⟨by decide, by decide⟩, fun h24 => ⟨Or.inl rfl, pm_eq0 ?_⟩, fun h24 => ⟨Or.inr rfl, pm_eq1 ?_⟩⟩
    · have hx : 0 ≤ mn ∧ mn < 24 := by omega
      refine ⟨hx, fun nc' e1 => ⟨hx, fun na' e2 => ⟨hx, fun ns' e3 => ⟨hx, fun nu' e4 => ⟨Or.inl rfl, hx, fun ai1 e5 => ⟨hx, fun rl' e6 => fun nn' e7 => ?_⟩⟩⟩⟩⟩⟩
      have fin : ∀ s : Int, (s = 0 ∨ s = 1) → (s = if b = 0 then 1 else 0) → N_addMain_j23 nc' na' ns' nu' ai1 rl' nn' mn mn s (fun r nc' na' ns' nu' ai' rl' nn' => M_main_wp mn mc ma ms mu mi mm a b (fun r' mn' mc' ma' ms' mu' mi' mm' => K r r' nc' na' ns' nu' ai' rl' nn' mn' mc' ma' ms' mu' mi' mm')) := by
        intro s hs hsb
        refine ⟨hs, hx, fun ai2 e8 => ?_⟩
        refine sp_isCell ha (fun _ => pm_eq1 ⟨hb, sp_in hb pm_R0 pm_R1 (fun _ => pm_eq1 ⟨⟨by omega, by omega⟩, ⟨by decide, by decide⟩, fun q => by omega, fun _ => ⟨hx, fun mm' f6 => ?_⟩⟩) (fun q => absurd h2 q)⟩) (fun q => absurd h1 q)
        refine ⟨hx, fun mc' f1 => ⟨hx, fun ma' f2 => ⟨hx, fun ms' f3 => ⟨hx, fun mu' f4 => ⟨⟨by decide, by decide⟩, pm_R0, fun _ => ?_, fun q => absurd q (by decide)⟩⟩⟩⟩⟩
        have fin2 : ∀ s2 : Int, s2 = s → M_fresh_j58 mn mc' ma' ms' mu' mi mn mn s2 (fun r_53 mn_53 mc_53 ma_53 ms_53 mu_53 mi_53 => K mn r_53 nc' na' ns' nu' ai2 rl' nn' mn_53 mc_53 ma_53 ms_53 mu_53 mi_53 mm') := by
          intro s2 hs2
          subst hs2
          refine ⟨hs, hx, fun mi' f5 => fun mn' f7 => ?_⟩
          subst e7; subst f7
          refine hK _ _ _ _ _ _ _ _ _ _ _ _ _ _ _ ⟨by omega, by omega⟩ ?_
          refine pm_N_add (c := a) (up := -1) (so := b) (un := 0) (av := s2) (len := 0) hN0 (by omega) h1 (Or.inl rfl) (by omega) (by omega) hs (fun _ => ⟨rfl, fun q => by rw [hsb, if_pos q]⟩) (fun q => absurd rfl q) e1 e2 e3 e4 (fun n => ?_) (fun n => by rw [e6]) (fun _ _ _ _ _ _ => rfl) (fun i i0 i1 => by omega) (fun i j i0 i1 i2 => by omega) f1 f2 f3 f4 (fun n => by rw [f5]) (fun n => by rw [f6]) (fun _ _ _ _ _ _ => rfl) (fun i i0 i1 => by omega)
          rw [e8, e5]; exact pm_uu n
        exact ⟨⟨by omega, by omega⟩, pm_R0, fun q => fin2 1 (by rw [hsb, if_pos q]), fun q => fin2 0 (by rw [hsb, if_neg q])⟩
      exact ⟨⟨by omega, by omega⟩, pm_R0, fun q => fin 1 (Or.inr rfl) (by rw [if_pos q]), fun q => fin 0 (Or.inl rfl) (by rw [if_neg q])⟩
    · refine sp_isCell ha (fun _ => pm_eq1 ⟨hb, sp_in hb pm_R0 pm_R1 (fun _ => pm_eq1 ⟨⟨by omega, by omega⟩, ⟨by decide, by decide⟩, fun q => hK _ _ _ _ _ _ _ _ _ _ _ _ _ _ _ ⟨by decide, by decide⟩ hN0, fun q => by omega⟩) (fun q => absurd h2 q)⟩) (fun q => absurd h1 q)
  · refine sp_isCell ha (fun _ => pm_eq1 ⟨hb, sp_in hb pm_R0 pm_R1 (fun q => absurd q h2) (fun _ => pm_eq0 (hK _ _ _ _ _ _ _ _ _ _ _ _ _ _ _ ⟨by decide, by decide⟩ hN0))⟩) (fun q => absurd h1 q)
/-! runs are laid -/
theorem sp_layRun {fd : Int → Int} {fl n : Int} {Q : Int → (Int → Int) → (Int → Int) → Prop} (hn : 0 ≤ n ∧ n < 24) (hfl : 0 ≤ fl ∧ fl ≤ 144) (hrl : ph_R (rl n)) (hfd : ∀ i, 0 ≤ i → i < fl → ph_R (fd i)) (hrc : rl n = fl → ∀ i, 0 ≤ i → i < fl → ph_R (rc (n * 144 + i)))
    (hQ : ∀ (r : Int) (rc' : Int → Int), (r = 0 ∨ r = 1) → (r = 0 ↔ (rl n = fl ∧ ∀ i, 0 ≤ i → i < fl → rc (n * 144 + i) = fd i)) → (∀ i, 0 ≤ i → i < fl → rc' (n * 144 + i) = fd i) → (∀ x, ¬ (n * 144 ≤ x ∧ x < n * 144 + fl) → rc' x = rc x) → Q r (ph_u rl n fl) rc') : N_layRun_wp fd fl rl rc n Q := by
  have go : ∀ s : Int, (s = 0 ∨ s = 1) → (s = 0 ↔ rl n = fl) → N_layRun_j20 fd fl rl rc n fl s Q := by
    intro s hs hs2
    refine ⟨hn, fun rl2 hrl2 => ?_⟩
    refine pm_l3 (fun (o i : Int) (c2 : Int → Int) => (o = 0 ∨ o = 1) ∧ (0 ≤ i ∧ i ≤ fl) ∧ (o = 0 ↔ (rl n = fl ∧ ∀ j, 0 ≤ j → j < i → rc (n * 144 + j) = fd j)) ∧ (∀ j, 0 ≤ j → j < i → c2 (n * 144 + j) = fd j) ∧ (∀ x, ¬ (n * 144 ≤ x ∧ x < n * 144 + i) → c2 x = rc x)) (fun (_ i : Int) _ => (fl - i).toNat) ?_ s 0 rc ⟨hs, by omega, ⟨fun q => ⟨hs2.mp q, fun j _ _ => by omega⟩, fun q => hs2.mpr q.1⟩, fun j _ _ => by omega, fun x _ => rfl⟩
    intro Kh o i c2 ⟨ho, hi, hiff, hin, hout⟩ hK
    refine ⟨⟨by omega, by omega⟩, ⟨by omega, by omega⟩, fun hlt => fun pl hpl => ?_, fun hlt => ⟨ho, ?_⟩⟩
    · have hpl2 : 0 ≤ pl ∧ pl < 3456 := by omega
      have hold : c2 pl = rc pl := hout pl (by omega)
      have fin : ∀ s2 : Int, (s2 = 0 ∨ s2 = 1) → (s2 = 0 ↔ (rl n = fl ∧ ∀ j, 0 ≤ j → j < i + 1 → rc (n * 144 + j) = fd j)) → N_layRun_j74 fd fl rl2 c2 n fl i pl s2 Q Kh := by
        intro s2 hs3 hs4
        have body : ∀ v, v = fd i → ph_ix pl 3456 (ph_nm (ph_u c2 pl v) (fun rc_88 => ph_nm (i + 1) (fun x5_89 => Kh s2 x5_89 rc_88))) := by
          intro v hv
          refine ⟨hpl2, fun c3 hc3 => fun y hy => ?_⟩
          subst hy
          refine hK _ _ _ ⟨hs3, by omega, hs4, fun j j0 j1 => ?_, fun x hx => ?_⟩ (by omega)
          · rw [hc3]
            by_cases hj : j = i
            · subst hj; rw [← hpl, pm_us]; exact hv
            · rw [pm_un (by omega)]; exact hin j j0 (by omega)
          · rw [hc3, pm_un (by omega)]; exact hout x (by omega)
        exact ⟨⟨by omega, by omega⟩, pm_R0, fun q => by omega, fun _ => ⟨⟨by omega, by omega⟩, ⟨by omega, by omega⟩, fun _ => ⟨by omega, body _ rfl⟩, fun q => absurd hlt q⟩⟩
      refine ⟨⟨by omega, by omega⟩, pm_R0, fun h0 => ?_, fun h0 => ?_⟩
      · have h1 := hiff.mp h0
        have cmp : ∀ v, v = fd i → ph_eq (c2 pl) v (N_layRun_j74 fd fl rl2 c2 n fl i pl 0 Q Kh) (N_layRun_j74 fd fl rl2 c2 n fl i pl 1 Q Kh) := by
          intro v hv
          have r1 := hrc h1.1 i hi.1 hlt
          rw [← hpl, ← hold] at r1
          refine ⟨r1, by rw [hv]; exact hfd i hi.1 hlt, fun q => fin 0 (Or.inl rfl) ⟨fun _ => ⟨h1.1, fun j j0 j1 => ?_⟩, fun _ => rfl⟩, fun q => fin 1 (Or.inr rfl) ⟨fun z => absurd z (by decide), fun z => ?_⟩⟩
          · by_cases hj : j = i
            · subst hj; rw [← hpl, ← hold, q, hv]
            · exact h1.2 j j0 (by omega)
          · exfalso
            apply q
            have := z.2 i hi.1 (by omega)
            rw [← hpl, ← hold] at this
            rw [this, hv]
        exact ⟨hpl2, ⟨by omega, by omega⟩, pm_R0, fun q => by omega, fun _ => ⟨⟨by omega, by omega⟩, ⟨by omega, by omega⟩, fun _ => ⟨by omega, cmp _ rfl⟩, fun q => absurd hlt q⟩⟩
      · refine fin 1 (Or.inr rfl) ⟨fun z => absurd z (by decide), fun z => ?_⟩
        exact absurd (hiff.mpr ⟨z.1, fun j j0 j1 => z.2 j j0 (by omega)⟩) h0
    · have e : i = fl := by omega
      subst e
      rw [hrl2]
      exact hQ o c2 ho hiff hin hout
  exact ⟨hn, hrl, ⟨by omega, by omega⟩, fun q => go 0 (Or.inl rfl) ⟨fun _ => q, fun _ => rfl⟩, fun q => go 1 (Or.inr rfl) ⟨fun z => absurd z (by decide), fun z => absurd z q⟩⟩
theorem sp_take {mw : Int → Int} {mk n : Int} {Q : (Int → Int) → (Int → Int) → Prop} (hn : 0 ≤ n ∧ n < 24) (hk : 0 ≤ mk ∧ mk ≤ 144) (hQ : ∀ mr', (∀ i, 0 ≤ i → i < mk → mr' (144 * n + i) = mw i) → (∀ x, ¬ (144 * n ≤ x ∧ x < 144 * n + mk) → mr' x = mr x) → Q mr' (ph_u mm n mk)) : M_take_wp mr mm mw mk n Q := by
  refine ⟨hn, fun mm2 hmm2 => ?_⟩
  refine pm_l2 (fun (i : Int) (c2 : Int → Int) => (0 ≤ i ∧ i ≤ mk) ∧ (∀ j, 0 ≤ j → j < i → c2 (144 * n + j) = mw j) ∧ (∀ x, ¬ (144 * n ≤ x ∧ x < 144 * n + i) → c2 x = mr x)) (fun (i : Int) _ => (mk - i).toNat) ?_ 0 mr ⟨by omega, fun j _ _ => by omega, fun x _ => rfl⟩
  intro Kh i c2 ⟨hi, hin, hout⟩ hK
  refine ⟨⟨by omega, by omega⟩, ⟨by omega, by omega⟩, fun hlt => ⟨by omega, by omega, fun c3 hc3 => fun y hy => ?_⟩, fun hlt => ?_⟩
  · subst hy
    refine hK _ _ ⟨by omega, fun j j0 j1 => ?_, fun x hx => ?_⟩ (by omega)
    · rw [hc3]
      by_cases hj : j = i
      · subst hj; rw [pm_us]
      · rw [pm_un (by omega)]; exact hin j j0 (by omega)
    · rw [hc3, pm_un (by omega)]; exact hout x (by omega)
  · have e : i = mk := by omega
    subst e
    rw [hmm2]
    exact hQ c2 hin hout
end PMT
