/-! node and level -/
section PMP
variable {nc na ns nu ai rl rc mc ma ms mu mi mr mm : Int → Int} {nn mn : Int} {rv mv li ml : Int → Int}
def pm_nv (v b x0 x1 x2 x3 x4 x5 x6 x7 x8 x9 x10 x11 : Int) : Prop := (b = 0 → v = x0) ∧ (b = 1 → v = x1) ∧ (b = 2 → v = x2) ∧ (b = 3 → v = x3) ∧ (b = 4 → v = x4) ∧ (b = 5 → v = x5) ∧ (b = 6 → v = x6) ∧ (b = 7 → v = x7) ∧ (b = 8 → v = x8) ∧ (b = 9 → v = x9) ∧ (b = 10 → v = x10) ∧ (b = 11 → v = x11)
theorem pm_node {ld sz lo md mz mo : Int → Int} {ri a b : Int} {K : Int → Int → (Int → Int) → (Int → Int) → (Int → Int) → Int → (Int → Int) → (Int → Int) → (Int → Int) → Prop} (hN : pm_N nc na ns nu ai rl rc nn mn mc ma ms mu mi mr mm) (hV : pm_V rv mv li ml) (ha : ph_R a) (hb : ph_R b) (hK : ∀ r ld' sz' lo' ri' md' mz' mo', ph_R r → K r r ld' sz' lo' ri' md' mz' mo') : H_node_wp nc na ns nu ai rl rc nn rv li ld sz lo ri a b (fun r ld' sz' lo' ri' => M_node_wp mn mc ma ms mu mi mr mm mv ml md mz mo a b (fun r' md' mz' mo' => K r r' ld' sz' lo' ri' md' mz' mo')) := by
  obtain ⟨hI, hE⟩ := hN
  have hnn := hI.1
  obtain ⟨N, rfl⟩ : ∃ N : Nat, nn = (N : Int) := ⟨nn.toNat, by omega⟩
  have hN24 : N ≤ 24 := by omega
  have em := hE.1
  refine sp_Nholds hnn ha (fun h1 => pm_eq1 ?_) (fun h1 => pm_eq0 ?_)
  · have hmn : 0 ≤ mn ∧ mn ≤ 24 := by omega
    refine sp_isOut hb ⟨by decide, by decide⟩ (fun h2 => pm_eq0 ?_) (fun h2 => pm_eq1 ?_)
    · refine sp_settle hN24 hI hV (fun ld' sz' lo' hres => ?_)
      have h5 := hI.2 a h1.1 h1.2
      have e5 := hE.2 a h1.1 h1.2
      have hlg := pm_lg_bd hI h1.1 h1.2
      have htn := pm_tn_bd hI h1.1 h1.2
      have hra := hres.1 a h1.1 h1.2
      have hlo := pm_lv_bd hI hV hres a h1.1 h1.2
      have hsz : ∀ m, 0 ≤ m → m < (N : Int) → -1 ≤ sz' m ∧ sz' m ≤ 5 := fun m m0 m1 => (hres.1 m m0 m1).2.2.2
      have hx : 0 ≤ a ∧ a < 24 := by omega
      have model : ∀ v : Int, ph_R v → pm_nv v b (nc a) (na a) (ns a) (nu a) (ai a) (ld' a) (pm_lg na rl a) (pm_tn rl rc a) (sz' a) (lo' a) (pm_b (pm_safe na ns nu ai rl rv sz' a)) (pm_se na ns nu rl sz' a) → M_node_wp mn mc ma ms mu mi mr mm mv ml md mz mo a b (fun r' md' mz' mo' => K v r' ld' sz' lo' (5 * rv 0) md' mz' mo') := by
        intro v hR hv
        refine sp_isNode hmn ha (fun _ => pm_eq1 ?_) (fun q => absurd (by omega) q)
        refine sp_work hN24 hI hE hV (fun md' mz' mo' hres' => ?_)
        have he := pm_res_eq (fun n n0 n1 => (hI.2 n n0 n1).2.1) hres hres'
        have hea := he a h1.1 h1.2
        have fin : ∀ r' : Int, r' = v → K v r' ld' sz' lo' (5 * rv 0) md' mz' mo' := fun r' e => by rw [e]; exact hK _ _ _ _ _ _ _ _ hR
        refine ⟨hb, fun q => ⟨hx, fin _ (by rw [hv.1 q]; omega)⟩, fun _ => ⟨fun q => ⟨hx, fin _ (by rw [hv.2.1 q]; omega)⟩, fun _ => ⟨fun q => ⟨hx, fin _ (by rw [hv.2.2.1 q]; omega)⟩, fun _ => ⟨fun q => ⟨hx, fin _ (by rw [hv.2.2.2.1 q]; omega)⟩, fun _ => ⟨fun q => ⟨hx, ⟨by omega, by omega⟩, pm_R0, fun z => fin _ (by rw [hv.2.2.2.2.1 q]; omega), fun z => fin _ (by rw [hv.2.2.2.2.1 q]; omega)⟩, fun _ => ⟨fun q => ⟨hx, fin _ (by rw [hv.2.2.2.2.2.1 q]; omega)⟩, fun _ => ⟨fun q => sp_lengthOfM hI hE h1.1 h1.2 (fin _ (hv.2.2.2.2.2.2.1 q).symm), fun _ => ⟨fun q => sp_turnsOfM hI hE h1.1 h1.2 (fin _ (hv.2.2.2.2.2.2.2.1 q).symm), fun _ => ⟨fun q => ⟨hx, fin _ (by rw [hv.2.2.2.2.2.2.2.2.1 q]; omega)⟩, fun _ => ⟨fun q => ⟨hx, fin _ (by rw [hv.2.2.2.2.2.2.2.2.2.1 q]; omega)⟩, fun _ => ⟨fun q => ?_, fun _ => ⟨fun q => ?_, fun _ => by omega⟩⟩⟩⟩⟩⟩⟩⟩⟩⟩⟩⟩
        · refine sp_isSafeM hI hE hV hsz (fun m m0 m1 => (he m m0 m1).2.1) h1.1 h1.2 (fun z => ⟨pm_R1, pm_R0, fun y => absurd y (by decide), fun _ => fin _ ?_⟩) (fun z => ⟨pm_R0, pm_R0, fun _ => fin _ ?_, fun y => absurd rfl y⟩)
          · rw [hv.2.2.2.2.2.2.2.2.2.2.1 q, pm_b_t z]
          · rw [hv.2.2.2.2.2.2.2.2.2.2.1 q, pm_b_f z]
        · exact sp_secondsOfM hI hE hsz (fun m m0 m1 => (he m m0 m1).2.1) h1.1 h1.2 (fun z => fin _ (hv.2.2.2.2.2.2.2.2.2.2.2 q).symm)
      have R : ∀ v : Int, -2147483648 ≤ v → v ≤ 2147483647 → ph_R v := fun v q1 q2 => ⟨q1, q2⟩
      refine ⟨hb, fun q => ⟨hx, ?_⟩, fun n0 => ⟨fun q => ⟨hx, ?_⟩, fun n1 => ⟨fun q => ⟨hx, ?_⟩, fun n2 => ⟨fun q => ⟨hx, ?_⟩, fun n3 => ⟨fun q => ⟨hx, by omega, ⟨by omega, by omega⟩, pm_R0, fun z => ?_, fun z => ?_⟩, fun n4 => ⟨fun q => ⟨hx, ?_⟩, fun n5 => ⟨fun q => sp_lengthOf hI h1.1 h1.2 ?_, fun n6 => ⟨fun q => sp_turnsOf hI h1.1 h1.2 ?_, fun n7 => ⟨fun q => ⟨hx, ?_⟩, fun n8 => ⟨fun q => ⟨hx, ?_⟩, fun n9 => ⟨fun q => sp_isSafe hI hV hsz h1.1 h1.2 (fun z => pm_eq1 ?_) (fun z => pm_eq0 ?_), fun n10 => sp_secondsOf hI hsz h1.1 h1.2 (fun z => ?_)⟩⟩⟩⟩⟩⟩⟩⟩⟩⟩⟩
      · exact model _ (R _ (by omega) (by omega)) ⟨fun _ => rfl, by omega, by omega, by omega, by omega, by omega, by omega, by omega, by omega, by omega, by omega, by omega⟩
      · exact model _ (R _ (by omega) (by omega)) ⟨by omega, fun _ => rfl, by omega, by omega, by omega, by omega, by omega, by omega, by omega, by omega, by omega, by omega⟩
      · exact model _ (R _ (by omega) (by omega)) ⟨by omega, by omega, fun _ => rfl, by omega, by omega, by omega, by omega, by omega, by omega, by omega, by omega, by omega⟩
      · exact model _ (R _ (by omega) (by omega)) ⟨by omega, by omega, by omega, fun _ => rfl, by omega, by omega, by omega, by omega, by omega, by omega, by omega, by omega⟩
      · exact model _ pm_R0 ⟨by omega, by omega, by omega, by omega, fun _ => by omega, by omega, by omega, by omega, by omega, by omega, by omega, by omega⟩
      · exact model _ pm_R1 ⟨by omega, by omega, by omega, by omega, fun _ => by omega, by omega, by omega, by omega, by omega, by omega, by omega, by omega⟩
      · exact model _ (R _ (by omega) (by omega)) ⟨by omega, by omega, by omega, by omega, by omega, fun _ => rfl, by omega, by omega, by omega, by omega, by omega, by omega⟩
      · exact model _ (R _ (by omega) (by omega)) ⟨by omega, by omega, by omega, by omega, by omega, by omega, fun _ => rfl, by omega, by omega, by omega, by omega, by omega⟩
      · exact model _ (R _ (by omega) (by omega)) ⟨by omega, by omega, by omega, by omega, by omega, by omega, by omega, fun _ => rfl, by omega, by omega, by omega, by omega⟩
      · exact model _ (R _ (by omega) (by omega)) ⟨by omega, by omega, by omega, by omega, by omega, by omega, by omega, by omega, fun _ => rfl, by omega, by omega, by omega⟩
      · exact model _ (R _ (by omega) (by omega)) ⟨by omega, by omega, by omega, by omega, by omega, by omega, by omega, by omega, by omega, fun _ => by omega, by omega, by omega⟩
      · exact model _ pm_R1 ⟨by omega, by omega, by omega, by omega, by omega, by omega, by omega, by omega, by omega, by omega, fun _ => (pm_b_t z).symm, by omega⟩
      · exact model _ pm_R0 ⟨by omega, by omega, by omega, by omega, by omega, by omega, by omega, by omega, by omega, by omega, fun _ => (pm_b_f z).symm, by omega⟩
      · exact model _ (R _ (by omega) (by omega)) ⟨by omega, by omega, by omega, by omega, by omega, by omega, by omega, by omega, by omega, by omega, by omega, fun _ => rfl⟩
    · refine sp_isNode hmn ha (fun _ => pm_eq1 ?_) (fun q => absurd (by omega) q)
      refine sp_work hN24 hI hE hV (fun md' mz' mo' hres' => ?_)
      refine ⟨hb, by omega, fun _ => ⟨by omega, fun _ => ⟨by omega, fun _ => ⟨by omega, fun _ => ⟨by omega, fun _ => ⟨by omega, fun _ => ⟨by omega, fun _ => ⟨by omega, fun _ => ⟨by omega, fun _ => ⟨by omega, fun _ => ⟨by omega, fun _ => ⟨by omega, fun _ => ?_⟩⟩⟩⟩⟩⟩⟩⟩⟩⟩⟩⟩
      exact hK _ _ _ _ _ _ _ _ ⟨by decide, by decide⟩
  · refine sp_isNode (by omega) ha (fun q => absurd (by omega) h1) (fun _ => pm_eq0 ?_)
    exact hK _ _ _ _ _ _ _ _ ⟨by decide, by decide⟩
theorem pm_level {ld sz lo md mz mo : Int → Int} {ri a b : Int} {K : Int → Int → (Int → Int) → (Int → Int) → (Int → Int) → Int → (Int → Int) → (Int → Int) → (Int → Int) → Prop} (hN : pm_N nc na ns nu ai rl rc nn mn mc ma ms mu mi mr mm) (hV : pm_V rv mv li ml) (ha : ph_R a) (hb : ph_R b) (hK : ∀ r ld' sz' lo' ri' md' mz' mo', ph_R r → K r r ld' sz' lo' ri' md' mz' mo') : H_level_wp na ns nu rl nn rv li ld sz lo ri a b (fun r ld' sz' lo' ri' => M_level_wp mn ma ms mu mm mv ml md mz mo a b (fun r' md' mz' mo' => K r r' ld' sz' lo' ri' md' mz' mo')) := by
  obtain ⟨hI, hE⟩ := hN
  have hnn := hI.1
  obtain ⟨N, rfl⟩ : ∃ N : Nat, nn = (N : Int) := ⟨nn.toNat, by omega⟩
  have hN24 : N ≤ 24 := by omega
  have em := hE.1
  refine sp_Nholds hnn ha (fun h1 => pm_eq1 ?_) (fun h1 => pm_eq0 ?_)
  · have hmn : 0 ≤ mn ∧ mn ≤ 24 := by omega
    have h5 := hI.2 a h1.1 h1.2
    have e5 := hE.2 a h1.1 h1.2
    have hrl := pm_rl_bd hI h1.1 h1.2
    have hx : 0 ≤ a ∧ a < 24 := by omega
    have e1 := e5.2.2.1
    have e2 := e5.2.2.2.2.2.1
    have no : ¬ (ns a = 0 ∧ 0 ≤ b ∧ b < rl a) → M_level_wp mn ma ms mu mm mv ml md mz mo a b (fun r' md' mz' mo' => K (-1003) r' ld sz lo ri md' mz' mo') := by
      intro hno
      have fin := hK (-1003) ld sz lo ri md mz mo ⟨by decide, by decide⟩
      refine sp_isNode hmn ha (fun _ => pm_eq1 ⟨hx, ⟨by omega, by omega⟩, pm_R1, fun _ => fin, fun q => ⟨hb, hx, ⟨by omega, by omega⟩, ?_⟩⟩) (fun q => absurd (by omega) q)
      exact sp_in hb pm_R0 ⟨by omega, by omega⟩ (fun z => by omega) (fun _ => pm_eq0 fin)
    refine ⟨hx, ⟨by omega, by omega⟩, pm_R0, fun hs => ⟨Or.inr rfl, pm_eq1 ?_⟩, fun hs => ⟨Or.inl rfl, pm_eq0 (no (fun z => hs z.1))⟩⟩
    refine ⟨hb, pm_R0, fun q => ⟨Or.inl rfl, pm_eq0 (no (fun z => by omega))⟩, fun hb0 => ⟨hx, hb, ⟨by omega, by omega⟩, fun hb1 => ⟨Or.inr rfl, pm_eq1 ?_⟩, fun q => ⟨Or.inl rfl, pm_eq0 (no (fun z => by omega))⟩⟩⟩
    refine sp_settle hN24 hI hV (fun ld' sz' lo' hres => ⟨hx, ?_⟩)
    have hlo := pm_lv_bd hI hV hres a h1.1 h1.2
    have hv := hV.2.1
    have p0 : 0 ≤ 5 * rv 0 * b := Int.mul_nonneg (by omega) (by omega)
    have p1 : 5 * rv 0 * b ≤ 100 * 143 := Int.mul_le_mul (by omega) (by omega) (by omega) (by decide)
    refine sp_isNode hmn ha (fun _ => pm_eq1 ⟨hx, ⟨by omega, by omega⟩, pm_R1, fun q => by omega, fun q => ⟨hb, hx, ⟨by omega, by omega⟩, ?_⟩⟩) (fun q => absurd (by omega) q)
    refine sp_in hb pm_R0 ⟨by omega, by omega⟩ (fun z => pm_eq1 ?_) (fun q => absurd (by omega) q)
    refine sp_work hN24 hI hE hV (fun md' mz' mo' hres' => ⟨hx, ⟨by decide, by decide⟩, ?_⟩)
    have he := pm_res_eq (fun n n0 n1 => (hI.2 n n0 n1).2.1) hres hres' a h1.1 h1.2
    have e : mo' a - 5 * mv 0 * b = lo' a - 5 * rv 0 * b := by rw [he.2.2, hV.1 0 (by decide) (by decide)]
    rw [e]
    exact hK _ _ _ _ _ _ _ _ ⟨by omega, by omega⟩
  · refine sp_isNode (by omega) ha (fun q => absurd (by omega) h1) (fun _ => pm_eq0 ?_)
    exact hK _ _ _ _ _ _ _ _ ⟨by decide, by decide⟩
end PMP
