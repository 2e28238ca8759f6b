/-! clash and count -/
section PMZ
variable {nc na ns nu ai rl rc mc ma ms mu mi mr mm : Int → Int} {nn mn : Int} {rv mv li ml : Int → Int}
theorem pm_LV_of {N : Nat} {ld sz lo : Int → Int} (hI : pm_NI nc na ns nu ai rl rc N) (hV : pm_V rv mv li ml) (h : pm_res na ns nu rl N rv li ld sz lo) : pm_LV na ns rl lo N (5 * rv 0) := by
  intro a j a0 a1 hs hm j0 j1
  have hn := hI.1
  have h5 := hI.2 a a0 a1
  have hb := pm_rl_bd hI a0 a1
  have hlo := pm_lv_bd hI hV h a a0 a1
  have hup := pm_lv_bd hI hV h (na a) (by omega) (by omega)
  have e := h.2 a a0 a1
  rw [if_pos ⟨hm, hs⟩] at e
  have hv := hV.2.1
  have p0 : 0 ≤ 5 * rv 0 * j := Int.mul_nonneg (by omega) (by omega)
  have p1 : 5 * rv 0 * j ≤ 5 * rv 0 * (rl a - 1) := Int.mul_le_mul_of_nonneg_left (by omega) (by omega)
  omega
theorem pm_clash {ld sz lo md mz mo lc : Int → Int} {ri cp c1 c2 c3 b : Int} {K : Int → Int → (Int → Int) → (Int → Int) → (Int → Int) → Int → (Int → Int) → Int → Int → Int → Int → (Int → Int) → (Int → Int) → (Int → Int) → Prop} (hN : pm_N nc na ns nu ai rl rc nn mn mc ma ms mu mi mr mm) (hV : pm_V rv mv li ml) (hlc : ∀ c, 0 ≤ c → c < 144 → lc c = -1) (hb : ph_R b) (hK : ∀ r ld' sz' lo' ri' lc' cp' c1' c2' c3' md' mz' mo', ph_R r → (∀ c, 0 ≤ c → c < 144 → lc' c = -1) → K r r ld' sz' lo' ri' lc' cp' c1' c2' c3' md' mz' mo') : H_clash_wp na ns nu rl rc nn rv li ld sz lo ri lc cp c1 c2 c3 b (fun r ld' sz' lo' ri' lc' cp' c1' c2' c3' => M_clash_wp mn ma ms mu mr mm mv ml md mz mo b (fun r' md' mz' mo' => K r r' ld' sz' lo' ri' lc' cp' c1' c2' c3' md' mz' mo')) := by
  obtain ⟨hI, hE⟩ := hN
  have hnn := hI.1
  obtain ⟨N, rfl⟩ : ∃ N : Nat, nn = (N : Int) := ⟨nn.toNat, by omega⟩
  have hN24 : N ≤ 24 := by omega
  have em := hE.1
  have hcv := hV.2.2.1
  refine sp_isOut hb ⟨by decide, by decide⟩ (fun h2 => pm_eq0 ?_) (fun h2 => pm_eq1 ?_)
  · refine sp_settle hN24 hI hV (fun ld' sz' lo' hres => ⟨by decide, ?_⟩)
    have hL := pm_LV_of hI hV hres
    refine sp_searchC hI hL hcv hlc (fun lc' cp' c1' c2' c3' hlc' hF hB => ?_)
    have model : ∀ v : Int, ph_R v → (b = 0 → v = c1') → (b = 1 → v = c2') → (b = 2 → v = c3') → M_clash_wp mn ma ms mu mr mm mv ml md mz mo b (fun r' md' mz' mo' => K v r' ld' sz' lo' (5 * rv 0) lc' cp' c1' c2' c3' md' mz' mo') := by
      intro v hR v0 v1 v2
      refine ⟨hb, sp_in hb pm_R0 ⟨by decide, by decide⟩ (fun _ => pm_eq1 ?_) (fun q => absurd h2 q)⟩
      refine sp_work hN24 hI hE hV (fun md' mz' mo' hres' => ?_)
      have he := pm_res_eq (fun n n0 n1 => (hI.2 n n0 n1).2.1) hres hres'
      have fin : ∀ r' : Int, r' = v → K v r' ld' sz' lo' (5 * rv 0) lc' cp' c1' c2' c3' md' mz' mo' := fun r' e => by rw [e]; exact hK _ _ _ _ _ _ _ _ _ _ _ _ _ hR hlc'
      refine sp_clashM (mm2 := mm) hI hE hL hcv (fun m m0 m1 => (he m m0 m1).2.2) (by rw [hV.1 0 (by decide) (by decide)]) (hV.1 1 (by decide) (by decide)) hF (fun z => fin _ (by omega)) ⟨hb, pm_R0, fun q => fin _ (v0 q).symm, fun q => ⟨hb, pm_R1, fun q => fin _ (v1 q).symm, fun q => fin _ (v2 (by omega)).symm⟩⟩
    refine ⟨hb, fun q => model c1' ⟨by omega, by omega⟩ (fun _ => rfl) (by omega) (by omega), fun q => ⟨fun q2 => model c2' ⟨by omega, by omega⟩ (by omega) (fun _ => rfl) (by omega), fun q2 => model c3' ⟨by omega, by omega⟩ (by omega) (by omega) (fun _ => rfl)⟩⟩
  · exact ⟨hb, sp_in hb pm_R0 ⟨by decide, by decide⟩ (fun q => absurd q h2) (fun _ => pm_eq0 (hK _ _ _ _ _ _ _ _ _ _ _ _ _ ⟨by decide, by decide⟩ hlc))⟩
theorem pm_sum {B : (Int → Int → Prop) → Int → Int → Prop} (g : Int → Int) (N : Nat) (hs : ∀ (Kh : Int → Int → Prop) (k : Nat) (acc : Int), k < N → Kh (acc + g k) ((k : Int) + 1) → B Kh acc k) (hx : ∀ Kh : Int → Int → Prop, B Kh (pm_fo (fun a k => a + g k) 0 N) N) : ∃ kk, ph_it (fun _ _ => False) B kk 0 0 :=
  pm_for (fun a k => a + g k) 0 N (fun _ _ => True) trivial (fun Kh k acc hk _ _ h => ⟨trivial, hs Kh k acc hk (h trivial)⟩) (fun Kh acc _ e => by rw [e]; exact hx Kh)
theorem pm_fin {Kh : Int → Int → Prop} {acc v w : Int} {k : Nat} (h : Kh (acc + v) ((k : Int) + 1)) (e : w = v) : ph_nm (acc + w) (fun a => ph_nm ((k : Int) + 1) (fun y => Kh a y)) := by
  intro a ha y hy
  subst ha; subst hy; rw [e]; exact h
variable {N : Nat}
theorem sp_mains (hI : pm_NI nc na ns nu ai rl rc N) (g : Int → Int) (hg : ∀ n, g n = pm_b (na n = -1)) {Q : Int → Prop} (hQ : Q (pm_fo (fun a k => a + g k) 0 N)) : N_mains_wp na N Q := by
  have hn := hI.1
  refine pm_sum g N (fun Kh k acc hk h => ⟨⟨by omega, by omega⟩, ⟨by omega, by omega⟩, fun _ => ?_, fun q => by omega⟩) (fun Kh => ⟨⟨by omega, by omega⟩, ⟨by omega, by omega⟩, fun q => by omega, fun _ => hQ⟩)
  have h5 := hI.2 k (by omega) (by omega)
  refine ⟨by omega, ⟨by omega, by omega⟩, ⟨by decide, by decide⟩, fun q => ⟨Or.inr rfl, pm_eq1 (pm_fin h ?_)⟩, fun q => ⟨Or.inl rfl, pm_eq0 (pm_fin h ?_)⟩⟩
  · rw [hg, pm_b_t q]
  · rw [hg, pm_b_f q]
theorem sp_noSize {sz : Int → Int} (hI : pm_NI nc na ns nu ai rl rc N) {s : Int} (hs : ph_R s) (hz : ∀ m, 0 ≤ m → m < (N : Int) → -1 ≤ sz m ∧ sz m ≤ 5) (g : Int → Int) (hg : ∀ n, g n = pm_b (na n ≠ -1 ∧ sz n = s)) {Q : Int → Prop} (hQ : Q (pm_fo (fun a k => a + g k) 0 N)) : K_runsOfSize_wp na N sz s Q := by
  have hn := hI.1
  refine pm_sum g N (fun Kh k acc hk h => ⟨⟨by omega, by omega⟩, ⟨by omega, by omega⟩, fun _ => ?_, fun q => by omega⟩) (fun Kh => ⟨⟨by omega, by omega⟩, ⟨by omega, by omega⟩, fun q => by omega, fun _ => hQ⟩)
  have h5 := hI.2 k (by omega) (by omega)
  have h6 := hz k (by omega) (by omega)
  refine ⟨by omega, ⟨by omega, by omega⟩, ⟨by decide, by decide⟩, fun q => ⟨Or.inr rfl, pm_eq1 (pm_fin h ?_)⟩, fun q => ⟨Or.inl rfl, pm_eq0 ⟨by omega, ⟨by omega, by omega⟩, hs, fun z => pm_fin h ?_, fun z => pm_fin h ?_⟩⟩⟩
  · rw [hg, pm_b_f (fun z => z.1 q)]
  · rw [hg, pm_b_t ⟨q, z⟩]
  · rw [hg, pm_b_f (fun y => z y.2)]
theorem sp_traps (hI : pm_NI nc na ns nu ai rl rc N) (g : Int → Int) (hg : ∀ n, g n = pm_b (ns n = 0 ∧ 0 < nu n)) {Q : Int → Prop} (hQ : Q (pm_fo (fun a k => a + g k) 0 N)) : N_traps_wp ns nu N Q := by
  have hn := hI.1
  refine pm_sum g N (fun Kh k acc hk h => ⟨⟨by omega, by omega⟩, ⟨by omega, by omega⟩, fun _ => ?_, fun q => by omega⟩) (fun Kh => ⟨⟨by omega, by omega⟩, ⟨by omega, by omega⟩, fun q => by omega, fun _ => hQ⟩)
  refine sp_hasTrap hI (by omega) (by omega) (fun q => pm_eq1 (pm_fin h ?_)) (fun q => pm_eq0 (pm_fin h ?_))
  · rw [hg, pm_b_t q]
  · rw [hg, pm_b_f q]
theorem sp_safeTraps {sz : Int → Int} (hI : pm_NI nc na ns nu ai rl rc N) (hV : pm_V rv mv li ml) (hz : ∀ m, 0 ≤ m → m < (N : Int) → -1 ≤ sz m ∧ sz m ≤ 5) (g : Int → Int) (hg : ∀ n, g n = pm_b (pm_safe na ns nu ai rl rv sz n)) {Q : Int → Prop} (hQ : Q (pm_fo (fun a k => a + g k) 0 N)) : K_safeTraps_wp na ns nu ai rl N rv sz Q := by
  have hn := hI.1
  refine pm_sum g N (fun Kh k acc hk h => ⟨⟨by omega, by omega⟩, ⟨by omega, by omega⟩, fun _ => ?_, fun q => by omega⟩) (fun Kh => ⟨⟨by omega, by omega⟩, ⟨by omega, by omega⟩, fun q => by omega, fun _ => hQ⟩)
  refine sp_isSafe hI hV hz (by omega) (by omega) (fun q => pm_eq1 (pm_fin h ?_)) (fun q => pm_eq0 (pm_fin h ?_))
  · rw [hg, pm_b_t q]
  · rw [hg, pm_b_f q]
theorem sp_lengthOfAll (hI : pm_NI nc na ns nu ai rl rc N) (g : Int → Int) (hg : ∀ n, g n = pm_lg na rl n) {Q : Int → Prop} (hQ : Q (pm_fo (fun a k => a + g k) 0 N)) : N_lengthOfAll_wp na rl N Q := by
  have hn := hI.1
  refine pm_sum g N (fun Kh k acc hk h => ⟨⟨by omega, by omega⟩, ⟨by omega, by omega⟩, fun _ => ?_, fun q => by omega⟩) (fun Kh => ⟨⟨by omega, by omega⟩, ⟨by omega, by omega⟩, fun q => by omega, fun _ => hQ⟩)
  exact sp_lengthOf hI (by omega) (by omega) (pm_fin h (hg _).symm)
theorem sp_turnsOfAll (hI : pm_NI nc na ns nu ai rl rc N) (g : Int → Int) (hg : ∀ n, g n = pm_tn rl rc n) {Q : Int → Prop} (hQ : Q (pm_fo (fun a k => a + g k) 0 N)) : N_turnsOfAll_wp rl rc N Q := by
  have hn := hI.1
  refine pm_sum g N (fun Kh k acc hk h => ⟨⟨by omega, by omega⟩, ⟨by omega, by omega⟩, fun _ => ?_, fun q => by omega⟩) (fun Kh => ⟨⟨by omega, by omega⟩, ⟨by omega, by omega⟩, fun q => by omega, fun _ => hQ⟩)
  exact sp_turnsOf hI (by omega) (by omega) (pm_fin h (hg _).symm)
theorem sp_mostSeconds {sz : Int → Int} (hI : pm_NI nc na ns nu ai rl rc N) (hz : ∀ m, 0 ≤ m → m < (N : Int) → -1 ≤ sz m ∧ sz m ≤ 5) {Q : Int → Prop} (hQ : -1 ≤ pm_fo (fun a k => max a (pm_se na ns nu rl sz k)) (-1) N ∧ pm_fo (fun a k => max a (pm_se na ns nu rl sz k)) (-1) N ≤ 6177600 → Q (pm_fo (fun a k => max a (pm_se na ns nu rl sz k)) (-1) N)) : K_mostSeconds_wp na ns nu rl N sz Q := by
  have hn := hI.1
  refine pm_l2 (fun (acc x : Int) => ∃ k : Nat, (x = (k : Int) ∧ k ≤ N) ∧ acc = pm_fo (fun a k => max a (pm_se na ns nu rl sz k)) (-1) k ∧ -1 ≤ acc ∧ acc ≤ 6177600) (fun (_ x : Int) => ((N : Int) - x).toNat) ?_ (-1) 0 ⟨0, ⟨rfl, Nat.zero_le _⟩, rfl, by decide, by decide⟩
  intro Kh acc x ⟨k, ⟨ex, hk⟩, e, hP⟩ hK
  subst ex
  refine ⟨⟨by omega, by omega⟩, ⟨by omega, by omega⟩, fun hlt => sp_secondsOf hI hz (by omega) (by omega) (fun hb => ⟨⟨⟨by omega, by omega⟩, ⟨by omega, by omega⟩⟩, fun a ha => fun y hy => ?_⟩), fun hge => ?_⟩
  · subst ha; subst hy
    exact hK _ _ ⟨k + 1, ⟨by omega, by omega⟩, by rw [e]; rfl, by omega⟩ (by omega)
  · have ek : k = N := by omega
    rw [ek] at e
    rw [← e] at hQ
    exact hQ hP
noncomputable def pm_gf (na ns nu ai rl rc rv sz : Int → Int) (b n : Int) : Int := if b = 1 then pm_b (na n = -1) else if b = 2 then pm_b (na n ≠ -1 ∧ sz n = -1) else if b = 3 then pm_b (ns n = 0 ∧ 0 < nu n) else if b = 4 then pm_b (pm_safe na ns nu ai rl rv sz n) else if b = 6 then pm_lg na rl n else pm_tn rl rc n
theorem pm_gf_bd {sz : Int → Int} (hI : pm_NI nc na ns nu ai rl rc N) {b n : Int} (h0 : 0 ≤ n) (h1 : n < (N : Int)) : 0 ≤ pm_gf na ns nu ai rl rc rv sz b n ∧ pm_gf na ns nu ai rl rc rv sz b n ≤ 7150 := by
  have a1 := pm_b_01 (na n = -1)
  have a2 := pm_b_01 (na n ≠ -1 ∧ sz n = -1)
  have a3 := pm_b_01 (ns n = 0 ∧ 0 < nu n)
  have a4 := pm_b_01 (pm_safe na ns nu ai rl rv sz n)
  have a5 := pm_lg_bd hI h0 h1
  have a6 := pm_tn_bd hI h0 h1
  unfold pm_gf
  split
  · omega
  split
  · omega
  split
  · omega
  split
  · omega
  split
  · omega
  · omega
theorem sp_counted {sz mz : Int → Int} (hI : pm_NI nc na ns nu ai rl rc N) (hE : pm_NE nc na ns nu ai rl rc N mn mc ma ms mu mi mr mm) (hV : pm_V rv mv li ml) (hz : ∀ m, 0 ≤ m → m < (N : Int) → -1 ≤ sz m ∧ sz m ≤ 5) (hmz : ∀ m, 0 ≤ m → m < (N : Int) → mz m = sz m) {n b : Int} {Q : Int → Prop} (h0 : 0 ≤ n) (h1 : n < (N : Int)) (hb : ph_R b) (hQ : Q (pm_gf na ns nu ai rl rc rv sz b n)) : M_counted_wp ma ms mu mi mr mm mv mz n b Q := by
  have hn := hI.1
  have h5 := hI.2 n h0 h1
  have e5 := hE.2 n h0 h1
  have a1 := e5.2.1
  have h6 := hz n h0 h1
  have e6 := hmz n h0 h1
  have hx : 0 ≤ n ∧ n < 24 := by omega
  have go : ∀ s0 : Int, (s0 = 1 ∧ na n = -1) ∨ (s0 = 0 ∧ na n ≠ -1) → M_counted_j14 ma ms mu mi mr mm mv mz n b s0 Q := by
    intro s0 hs
    refine ⟨hb, fun q => ?_, fun n1 => ⟨fun q => ?_, fun n2 => ⟨fun q => ?_, fun n3 => ⟨fun q => ?_, fun n4 => ⟨fun q => ?_, fun n6 => ?_⟩⟩⟩⟩⟩
    · unfold pm_gf at hQ
      rw [if_pos q] at hQ
      rcases hs with ⟨e, z⟩ | ⟨e, z⟩
      · subst e; rw [pm_b_t z] at hQ; exact pm_eq1 hQ
      · subst e; rw [pm_b_f z] at hQ; exact pm_eq0 hQ
    · unfold pm_gf at hQ
      rw [if_neg n1, if_pos q] at hQ
      rcases hs with ⟨e, z⟩ | ⟨e, z⟩
      · subst e; rw [pm_b_f (fun y => y.1 z)] at hQ; exact pm_eq1 hQ
      · subst e
        refine pm_eq0 ⟨hx, ⟨by omega, by omega⟩, pm_R0, fun w => ?_, fun w => ?_⟩
        · rw [pm_b_t ⟨z, by omega⟩] at hQ; exact hQ
        · rw [pm_b_f (fun y => by have := y.2; omega)] at hQ; exact hQ
    · unfold pm_gf at hQ
      rw [if_neg n1, if_neg n2, if_pos q] at hQ
      exact sp_isTrap hI hE h0 h1 (fun z => pm_eq1 (by rw [pm_b_t z] at hQ; exact hQ)) (fun z => pm_eq0 (by rw [pm_b_f z] at hQ; exact hQ))
    · unfold pm_gf at hQ
      rw [if_neg n1, if_neg n2, if_neg n3, if_pos q] at hQ
      exact sp_isSafeM hI hE hV hz hmz h0 h1 (fun z => pm_eq1 (by rw [pm_b_t z] at hQ; exact hQ)) (fun z => pm_eq0 (by rw [pm_b_f z] at hQ; exact hQ))
    · unfold pm_gf at hQ
      rw [if_neg n1, if_neg n2, if_neg n3, if_neg n4, if_pos q] at hQ
      exact sp_lengthOfM hI hE h0 h1 hQ
    · unfold pm_gf at hQ
      rw [if_neg n1, if_neg n2, if_neg n3, if_neg n4, if_neg n6] at hQ
      exact sp_turnsOfM hI hE h0 h1 hQ
  exact ⟨hx, ⟨by omega, by omega⟩, pm_R0, fun q => go 1 (Or.inl ⟨rfl, by omega⟩), fun q => go 0 (Or.inr ⟨rfl, by omega⟩)⟩
theorem pm_count {ld sz lo md mz mo lc : Int → Int} {ri cp c1 c2 c3 b : Int} {K : Int → Int → (Int → Int) → (Int → Int) → (Int → Int) → Int → (Int → Int) → Int → Int → Int → Int → (Int → Int) → (Int → Int) → (Int → Int) → Prop} (hN : pm_N nc na ns nu ai rl rc nn mn mc ma ms mu mi mr mm) (hV : pm_V rv mv li ml) (hlc : ∀ c, 0 ≤ c → c < 144 → lc c = -1) (hb : ph_R b) (hK : ∀ r ld' sz' lo' ri' lc' cp' c1' c2' c3' md' mz' mo', ph_R r → (∀ c, 0 ≤ c → c < 144 → lc' c = -1) → K r r ld' sz' lo' ri' lc' cp' c1' c2' c3' md' mz' mo') : H_count_wp na ns nu ai rl rc nn rv li ld sz lo ri lc cp c1 c2 c3 b (fun r ld' sz' lo' ri' lc' cp' c1' c2' c3' => M_count_wp mn ma ms mu mi mr mm mv ml md mz mo b (fun r' md' mz' mo' => K r r' ld' sz' lo' ri' lc' cp' c1' c2' c3' md' mz' mo')) := by
  obtain ⟨hI, hE⟩ := hN
  have hnn := hI.1
  obtain ⟨N, rfl⟩ : ∃ N : Nat, nn = (N : Int) := ⟨nn.toNat, by omega⟩
  have hN24 : N ≤ 24 := by omega
  have em := hE.1
  have hcv := hV.2.2.1
  refine sp_isOut hb ⟨by decide, by decide⟩ (fun h2 => pm_eq0 ?_) (fun h2 => pm_eq1 ?_)
  · refine sp_settle hN24 hI hV (fun ld' sz' lo' hres => ?_)
    have hL := pm_LV_of hI hV hres
    have hsz : ∀ m, 0 ≤ m → m < (N : Int) → -1 ≤ sz' m ∧ sz' m ≤ 5 := fun m m0 m1 => (hres.1 m m0 m1).2.2.2
    have top : ∀ (v : Int) (lc' : Int → Int) (cp' c1' c2' c3' : Int), (∀ md' mz' mo', (∀ m, 0 ≤ m → m < (N : Int) → md' m = ld' m ∧ mz' m = sz' m ∧ mo' m = lo' m) → ph_eq b 0 (M_count_j29 mn ma ms mu mi mr mm mv ml md' mz' mo' b (fun r' md' mz' mo' => K v r' ld' sz' lo' (5 * rv 0) lc' cp' c1' c2' c3' md' mz' mo')) (ph_eq b 5 (M_count_j29 mn ma ms mu mi mr mm mv ml md' mz' mo' b (fun r' md' mz' mo' => K v r' ld' sz' lo' (5 * rv 0) lc' cp' c1' c2' c3' md' mz' mo')) (ph_eq b 8 (∃ kk, ph_it (fun _ _ => False) (M_count_l59 mn ma ms mu mi mr mm mv ml md' mz' mo' b (fun r' md' mz' mo' => K v r' ld' sz' lo' (5 * rv 0) lc' cp' c1' c2' c3' md' mz' mo')) kk (-1) 0) (∃ kk, ph_it (fun _ _ => False) (M_count_l59 mn ma ms mu mi mr mm mv ml md' mz' mo' b (fun r' md' mz' mo' => K v r' ld' sz' lo' (5 * rv 0) lc' cp' c1' c2' c3' md' mz' mo')) kk 0 0)))) → M_count_wp mn ma ms mu mi mr mm mv ml md mz mo b (fun r' md' mz' mo' => K v r' ld' sz' lo' (5 * rv 0) lc' cp' c1' c2' c3' md' mz' mo') := by
      intro v lc' cp' c1' c2' c3' hh
      refine ⟨hb, sp_in hb pm_R0 ⟨by decide, by decide⟩ (fun _ => pm_eq1 ?_) (fun q => absurd h2 q)⟩
      exact sp_work hN24 hI hE hV (fun md' mz' mo' hres' => hh md' mz' mo' (pm_res_eq (fun n n0 n1 => (hI.2 n n0 n1).2.1) hres hres'))
    have R5 : ph_R 5 := ⟨by decide, by decide⟩
    have R8 : ph_R 8 := ⟨by decide, by decide⟩
    -- the sums
    have sums : ¬ b = 0 → ¬ b = 5 → ¬ b = 8 → M_count_wp mn ma ms mu mi mr mm mv ml md mz mo b (fun r' md' mz' mo' => K (pm_fo (fun a k => a + pm_gf na ns nu ai rl rc rv sz' b k) 0 N) r' ld' sz' lo' (5 * rv 0) lc cp c1 c2 c3 md' mz' mo') := by
      intro n0 n5 n8
      refine top _ _ _ _ _ _ (fun md' mz' mo' he => ⟨hb, pm_R0, fun q => absurd q n0, fun _ => ⟨hb, R5, fun q => absurd q n5, fun _ => ⟨hb, R8, fun q => absurd q n8, fun _ => ?_⟩⟩⟩)
      have hbd := pm_fo_bd (g := fun a k => a + pm_gf na ns nu ai rl rc rv sz' b k) (a := 0) (c := 7150) (n := N) (fun k a hk => by
        have := pm_gf_bd (rv := rv) (sz := sz') (b := b) hI (n := (k : Int)) (by omega) (by omega)
        try dsimp only
        omega)
      refine pm_sum (pm_gf na ns nu ai rl rc rv sz' b) N (fun Kh k acc hk h => ⟨⟨by omega, by omega⟩, ⟨by omega, by omega⟩, fun _ => ⟨hb, R8, fun q => absurd q n8, fun _ => ?_⟩, fun q => by omega⟩) (fun Kh => ⟨⟨by omega, by omega⟩, ⟨by omega, by omega⟩, fun q => by omega, fun _ => ?_⟩)
      · exact sp_counted hI hE hV hsz (fun m m0 m1 => (he m m0 m1).2.1) (by omega) (by omega) hb (pm_fin h rfl)
      · exact hK _ _ _ _ _ _ _ _ _ _ _ _ _ ⟨by omega, by omega⟩ hlc
    refine ⟨hb, fun q => ?_, fun n0 => ⟨fun q => ?_, fun n1 => ⟨fun q => ?_, fun n2 => ⟨fun q => ?_, fun n3 => ⟨fun q => ?_, fun n4 => ⟨fun q => ⟨by decide, ?_⟩, fun n5 => ⟨fun q => ?_, fun n6 => ⟨fun q => ?_, fun n7 => ?_⟩⟩⟩⟩⟩⟩⟩⟩
    · refine top _ _ _ _ _ _ (fun md' mz' mo' he => ⟨hb, pm_R0, fun _ => ⟨hb, pm_R0, fun _ => ?_, fun z => absurd q z⟩, fun z => absurd q z⟩)
      rw [em]
      exact hK _ _ _ _ _ _ _ _ _ _ _ _ _ ⟨by omega, by omega⟩ hlc
    · exact sp_mains hI (pm_gf na ns nu ai rl rc rv sz' b) (fun n => by unfold pm_gf; rw [if_pos q]) (sums (by omega) (by omega) (by omega))
    · exact sp_noSize hI ⟨by decide, by decide⟩ hsz (pm_gf na ns nu ai rl rc rv sz' b) (fun n => by unfold pm_gf; rw [if_neg n1, if_pos q]) (sums (by omega) (by omega) (by omega))
    · exact sp_traps hI (pm_gf na ns nu ai rl rc rv sz' b) (fun n => by unfold pm_gf; rw [if_neg n1, if_neg n2, if_pos q]) (sums (by omega) (by omega) (by omega))
    · exact sp_safeTraps hI hV hsz (pm_gf na ns nu ai rl rc rv sz' b) (fun n => by unfold pm_gf; rw [if_neg n1, if_neg n2, if_neg n3, if_pos q]) (sums (by omega) (by omega) (by omega))
    · refine sp_searchC hI hL hcv hlc (fun lc' cp' c1' c2' c3' hlc' hF hB => ?_)
      refine top _ _ _ _ _ _ (fun md' mz' mo' he => ⟨hb, pm_R0, fun z => absurd z n0, fun _ => ⟨hb, R5, fun _ => ⟨hb, pm_R0, fun z => absurd z n0, fun _ => ?_⟩, fun z => absurd q z⟩⟩)
      refine sp_clashesM hI hE hL hcv (fun m m0 m1 => (he m m0 m1).2.2) (by rw [hV.1 0 (by decide) (by decide)]) (hV.1 1 (by decide) (by decide)) ?_
      rw [← hF]
      exact hK _ _ _ _ _ _ _ _ _ _ _ _ _ ⟨by omega, by omega⟩ hlc'
    · exact sp_lengthOfAll hI (pm_gf na ns nu ai rl rc rv sz' b) (fun n => by unfold pm_gf; rw [if_neg n1, if_neg n2, if_neg n3, if_neg n4, if_pos q]) (sums (by omega) (by omega) (by omega))
    · exact sp_turnsOfAll hI (pm_gf na ns nu ai rl rc rv sz' b) (fun n => by unfold pm_gf; rw [if_neg n1, if_neg n2, if_neg n3, if_neg n4, if_neg n6]) (sums (by omega) (by omega) (by omega))
    · have e8 : b = 8 := by omega
      refine sp_mostSeconds hI hsz (fun hbd => ?_)
      refine top _ _ _ _ _ _ (fun md' mz' mo' he => ⟨hb, pm_R0, fun z => absurd z n0, fun _ => ⟨hb, R5, fun z => absurd z n5, fun _ => ⟨hb, R8, fun _ => ?_, fun z => absurd e8 z⟩⟩⟩)
      refine pm_l2 (fun (acc x : Int) => ∃ k : Nat, (x = (k : Int) ∧ k ≤ N) ∧ acc = pm_fo (fun a k => max a (pm_se na ns nu rl sz' k)) (-1) k ∧ -1 ≤ acc ∧ acc ≤ 6177600) (fun (_ x : Int) => ((N : Int) - x).toNat) ?_ (-1) 0 ⟨0, ⟨rfl, Nat.zero_le _⟩, rfl, by decide, by decide⟩
      intro Kh acc x ⟨k, ⟨ex, hk⟩, e, hP⟩ hK2
      subst ex
      refine ⟨⟨by omega, by omega⟩, ⟨by omega, by omega⟩, fun hlt => ⟨hb, R8, fun _ => ?_, fun z => absurd e8 z⟩, fun hge => ?_⟩
      · refine sp_secondsOfM hI hE hsz (fun m m0 m1 => (he m m0 m1).2.1) (by omega) (by omega) (fun hbb => ⟨⟨by omega, by omega⟩, ⟨by omega, by omega⟩, fun z => fun y hy => ?_, fun z => fun y hy => ?_⟩)
        · subst hy
          refine hK2 _ _ ⟨k + 1, ⟨by omega, by omega⟩, ?_, by omega⟩ (by omega)
          show _ = max (pm_fo (fun a k => max a (pm_se na ns nu rl sz' k)) (-1) k) (pm_se na ns nu rl sz' k)
          rw [← e]; omega
        · subst hy
          refine hK2 _ _ ⟨k + 1, ⟨by omega, by omega⟩, ?_, by omega⟩ (by omega)
          show _ = max (pm_fo (fun a k => max a (pm_se na ns nu rl sz' k)) (-1) k) (pm_se na ns nu rl sz' k)
          rw [← e]; omega
      · have ek : k = N := by omega
        rw [e, ek]
        exact hK _ _ _ _ _ _ _ _ _ _ _ _ _ ⟨by omega, by omega⟩ hlc
  · exact ⟨hb, sp_in hb pm_R0 ⟨by decide, by decide⟩ (fun q => absurd q h2) (fun _ => pm_eq0 (hK _ _ _ _ _ _ _ _ _ _ _ _ _ ⟨by decide, by decide⟩ hlc))⟩
end PMZ
