/-! what is told of one node -/
section PMO
variable {nc na ns nu ai rl rc mc ma ms mu mi mr mm : Int → Int} {mn : Int} {rv mv li ml : Int → Int} {N : Nat} {sz mz : Int → Int}
def pm_lg (na rl : Int → Int) (n : Int) : Int := if na n = -1 then 0 else (rl n - 1) * 50
theorem pm_lg_bd (hI : pm_NI nc na ns nu ai rl rc N) {n : Int} (h0 : 0 ≤ n) (h1 : n < N) : 0 ≤ pm_lg na rl n ∧ pm_lg na rl n ≤ 7150 := by
  unfold pm_lg
  split
  · omega
  · have := ((hI.2 n h0 h1).2.2.2.2.2.2.1 (by assumption)).1; omega
theorem pm_rl_bd (hI : pm_NI nc na ns nu ai rl rc N) {n : Int} (h0 : 0 ≤ n) (h1 : n < N) : 0 ≤ rl n ∧ rl n ≤ 144 := by
  have h5 := hI.2 n h0 h1
  by_cases z : na n = -1
  · have := h5.2.2.2.2.2.1 z; omega
  · have := (h5.2.2.2.2.2.2.1 z).1; omega
theorem sp_lengthOf (hI : pm_NI nc na ns nu ai rl rc N) {n : Int} {Q : Int → Prop} (h0 : 0 ≤ n) (h1 : n < N) (hQ : Q (pm_lg na rl n)) : N_lengthOf_wp na rl n Q := by
  have hn := hI.1
  have h5 := hI.2 n h0 h1
  unfold pm_lg at hQ
  refine ⟨by omega, ⟨by omega, by omega⟩, ⟨by decide, by decide⟩, fun hm => ⟨Or.inr rfl, pm_eq1 ?_⟩, fun hm => ⟨Or.inl rfl, pm_eq0 ⟨by omega, ?_⟩⟩⟩
  · rw [if_pos hm] at hQ; exact hQ
  · rw [if_neg hm] at hQ; exact hQ
theorem sp_lengthOfM (hI : pm_NI nc na ns nu ai rl rc N) (hE : pm_NE nc na ns nu ai rl rc N mn mc ma ms mu mi mr mm) {n : Int} {Q : Int → Prop} (h0 : 0 ≤ n) (h1 : n < N) (hQ : Q (pm_lg na rl n)) : M_lengthOf_wp mm n Q := by
  have hn := hI.1
  have h5 := hI.2 n h0 h1
  have e5 := hE.2 n h0 h1
  have hb := pm_rl_bd hI h0 h1
  unfold pm_lg at hQ
  have em := e5.2.2.2.2.2.1
  refine ⟨by omega, pm_R0, ⟨by omega, by omega⟩, fun hp => ⟨by omega, ?_⟩, fun hp => ?_⟩
  · rw [em, Int.mul_comm]
    by_cases z : na n = -1
    · have := h5.2.2.2.2.2.1 z; omega
    · rw [if_neg z] at hQ; exact hQ
  · by_cases z : na n = -1
    · rw [if_pos z] at hQ; exact hQ
    · have := (h5.2.2.2.2.2.2.1 z).1; omega
noncomputable def pm_tn (rl rc : Int → Int) (n : Int) : Int := pm_fo (fun a k => a + pm_b (¬ (rc (n * 144 + (k + 2)) - rc (n * 144 + (k + 1)) = rc (n * 144 + (k + 1)) - rc (n * 144 + k)))) 0 (rl n - 2).toNat
theorem pm_b_01 (P : Prop) : 0 ≤ pm_b P ∧ pm_b P ≤ 1 := by
  by_cases q : P
  · rw [pm_b_t q]; omega
  · rw [pm_b_f q]; omega
theorem pm_tn_bd (hI : pm_NI nc na ns nu ai rl rc N) {n : Int} (h0 : 0 ≤ n) (h1 : n < N) : 0 ≤ pm_tn rl rc n ∧ pm_tn rl rc n ≤ 142 := by
  have hb := pm_rl_bd hI h0 h1
  have h := pm_fo_bd (g := fun a k => a + pm_b (¬ (rc (n * 144 + (k + 2)) - rc (n * 144 + (k + 1)) = rc (n * 144 + (k + 1)) - rc (n * 144 + k)))) (a := 0) (c := 1) (n := (rl n - 2).toNat) (fun k b _ => by
    have := pm_b_01 (¬ (rc (n * 144 + ((k : Int) + 2)) - rc (n * 144 + ((k : Int) + 1)) = rc (n * 144 + ((k : Int) + 1)) - rc (n * 144 + (k : Int))))
    try dsimp only
    omega)
  unfold pm_tn
  omega
theorem sp_turnsOf (hI : pm_NI nc na ns nu ai rl rc N) {n : Int} {Q : Int → Prop} (h0 : 0 ≤ n) (h1 : n < N) (hQ : Q (pm_tn rl rc n)) : N_turnsOf_wp rl rc n Q := by
  have hn := hI.1
  have h5 := hI.2 n h0 h1
  have hb := pm_rl_bd hI h0 h1
  refine pm_l2 (fun (a i : Int) => ∃ k : Nat, i = (k : Int) + 2 ∧ (k = 0 ∨ (k : Int) + 2 ≤ rl n) ∧ a = pm_fo (fun a k => a + pm_b (¬ (rc (n * 144 + (k + 2)) - rc (n * 144 + (k + 1)) = rc (n * 144 + (k + 1)) - rc (n * 144 + k)))) 0 k) (fun (_ i : Int) => (144 - i).toNat) ?_ 0 2 ⟨0, by decide, Or.inl rfl, rfl⟩
  intro Kh a i ⟨k, hi, hk, ha⟩ hK
  subst hi
  refine ⟨by omega, ⟨by omega, by omega⟩, ⟨by omega, by omega⟩, fun hlt => ⟨by omega, ⟨by omega, fun d hd => ⟨by omega, ⟨by omega, ?_⟩⟩⟩⟩, fun hge => ?_⟩
  · have c0 := h5.2.2.2.2.2.2.2.1 k (by omega) (by omega)
    have c1 := h5.2.2.2.2.2.2.2.1 ((k : Int) + 1) (by omega) (by omega)
    have c2 := h5.2.2.2.2.2.2.2.1 ((k : Int) + 2) (by omega) (by omega)
    have x1 : (k : Int) + 2 - 1 = k + 1 := by omega
    have x2 : (k : Int) + 2 - 2 = k := by omega
    rw [x1, x2] at hd
    rw [x1]
    have st : ∀ a2 : Int, a2 = a + pm_b (¬ (rc (n * 144 + ((k : Int) + 2)) - rc (n * 144 + ((k : Int) + 1)) = rc (n * 144 + ((k : Int) + 1)) - rc (n * 144 + (k : Int)))) → ∀ y : Int, y = (k : Int) + 2 + 1 → Kh a2 y := by
      intro a2 ha2 y hy
      subst hy
      refine hK _ _ ⟨k + 1, by omega, Or.inr (by omega), ?_⟩ (by omega)
      rw [ha2, ha]; rfl
    refine ⟨⟨by omega, by omega⟩, ⟨by omega, by omega⟩, fun q => st a ?_, fun q => fun a2 ha2 => st a2 ?_⟩
    · rw [pm_b_f (fun z => z (by rw [← hd]; exact q))]; omega
    · rw [pm_b_t (fun z => q (by rw [hd]; exact z))]; exact ha2
  · have ek : k = (rl n - 2).toNat := by omega
    rw [ha, ek]
    exact hQ
theorem sp_turnsOfM (hI : pm_NI nc na ns nu ai rl rc N) (hE : pm_NE nc na ns nu ai rl rc N mn mc ma ms mu mi mr mm) {n : Int} {Q : Int → Prop} (h0 : 0 ≤ n) (h1 : n < N) (hQ : Q (pm_tn rl rc n)) : M_turnsOf_wp mr mm n Q := by
  have hn := hI.1
  have h5 := hI.2 n h0 h1
  have e5 := hE.2 n h0 h1
  have hb := pm_rl_bd hI h0 h1
  have em := e5.2.2.2.2.2.1
  refine pm_l2 (fun (a i : Int) => ∃ k : Nat, i = (k : Int) + 2 ∧ (k = 0 ∨ (k : Int) + 2 ≤ rl n) ∧ a = pm_fo (fun a k => a + pm_b (¬ (rc (n * 144 + (k + 2)) - rc (n * 144 + (k + 1)) = rc (n * 144 + (k + 1)) - rc (n * 144 + k)))) 0 k) (fun (_ i : Int) => (144 - i).toNat) ?_ 0 2 ⟨0, by decide, Or.inl rfl, rfl⟩
  intro Kh a i ⟨k, hi, hk, ha⟩ hK
  subst hi
  refine ⟨by omega, ⟨by omega, by omega⟩, ⟨by omega, by omega⟩, fun hlt => ⟨by omega, by omega, fun d hd => ⟨by omega, by omega, fun d2 hd2 => ?_⟩⟩, fun hge => ?_⟩
  · have c0 := h5.2.2.2.2.2.2.2.1 k (by omega) (by omega)
    have c1 := h5.2.2.2.2.2.2.2.1 ((k : Int) + 1) (by omega) (by omega)
    have c2 := h5.2.2.2.2.2.2.2.1 ((k : Int) + 2) (by omega) (by omega)
    have x1 : 144 * n + ((k : Int) + 2) - 1 = 144 * n + (k + 1) := by omega
    have x2 : 144 * n + ((k : Int) + 2) - 2 = 144 * n + k := by omega
    rw [x1, x2, e5.2.2.2.2.2.2 _ (by omega) (by omega), e5.2.2.2.2.2.2 _ (by omega) (by omega)] at hd
    rw [x1, e5.2.2.2.2.2.2 _ (by omega) (by omega), e5.2.2.2.2.2.2 _ (by omega) (by omega)] at hd2
    have st : ∀ a2 : Int, a2 = a + pm_b (¬ (rc (n * 144 + ((k : Int) + 2)) - rc (n * 144 + ((k : Int) + 1)) = rc (n * 144 + ((k : Int) + 1)) - rc (n * 144 + (k : Int)))) → ∀ y : Int, y = (k : Int) + 2 + 1 → Kh a2 y := by
      intro a2 ha2 y hy
      subst hy
      refine hK _ _ ⟨k + 1, by omega, Or.inr (by omega), ?_⟩ (by omega)
      rw [ha2, ha]; rfl
    refine ⟨⟨by omega, by omega⟩, ⟨by omega, by omega⟩, fun q => fun a2 ha2 => st a2 ?_, fun q => fun a2 ha2 => st a2 ?_⟩
    · rw [pm_b_f (fun z => z (by rw [← hd, ← hd2]; exact q.symm))]; exact ha2
    · rw [pm_b_t (fun z => q (by rw [hd, hd2]; exact z.symm))]; exact ha2
  · have ek : k = (rl n - 2).toNat := by omega
    rw [ha, ek]
    exact hQ
theorem sp_hasTrap (hI : pm_NI nc na ns nu ai rl rc N) {n : Int} {Q : Int → Prop} (h0 : 0 ≤ n) (h1 : n < N) (ht : (ns n = 0 ∧ 0 < nu n) → Q 1) (hf : ¬ (ns n = 0 ∧ 0 < nu n) → Q 0) : N_hasTrap_wp ns nu n Q := by
  have hn := hI.1
  have h5 := hI.2 n h0 h1
  refine ⟨by omega, ⟨by omega, by omega⟩, pm_R0, fun hs => ⟨Or.inr rfl, pm_eq1 ⟨by omega, pm_R0, ⟨by omega, by omega⟩, fun q => ⟨Or.inr rfl, ht ⟨hs, q⟩⟩, fun q => ⟨Or.inl rfl, hf (fun z => q z.2)⟩⟩⟩, fun hs => ⟨Or.inl rfl, pm_eq0 ⟨Or.inl rfl, hf (fun z => hs z.1)⟩⟩⟩
theorem sp_isTrap (hI : pm_NI nc na ns nu ai rl rc N) (hE : pm_NE nc na ns nu ai rl rc N mn mc ma ms mu mi mr mm) {n : Int} {Q : Int → Prop} (h0 : 0 ≤ n) (h1 : n < N) (ht : (ns n = 0 ∧ 0 < nu n) → Q 1) (hf : ¬ (ns n = 0 ∧ 0 < nu n) → Q 0) : M_isTrap_wp ms mu n Q := by
  have hn := hI.1
  have h5 := hI.2 n h0 h1
  have e5 := hE.2 n h0 h1
  have a1 := e5.2.2.1
  have a2 := e5.2.2.2.1
  refine ⟨by omega, ⟨by omega, by omega⟩, pm_R0, fun hs => ⟨by omega, pm_R0, ⟨by omega, by omega⟩, fun q => ⟨Or.inr rfl, ht ⟨by omega, by omega⟩⟩, fun q => ⟨Or.inl rfl, hf (fun z => by omega)⟩⟩, fun hs => ⟨Or.inl rfl, hf (fun z => by omega)⟩⟩
/-- from a node on to the first that is aired -/
def pm_la (na ai rl : Int → Int) : Nat → Int → Int
  | 0, _ => 0
  | f + 1, at' => if ai at' = 0 then pm_lg na rl at' + pm_la na ai rl f (na at') else 0
theorem sp_toAir (hI : pm_NI nc na ns nu ai rl rc N) {n : Int} {Q : Int → Prop} (h0 : 0 ≤ n) (h1 : n < N) (hs : ns n = 0) (hQ : 0 ≤ pm_la na ai rl 24 n ∧ pm_la na ai rl 24 n ≤ 171600 → Q (pm_la na ai rl 24 n)) : N_lengthToAir_wp na ai rl n Q := by
  have hn := hI.1
  refine pm_l3 (fun (x a k : Int) => (0 ≤ k ∧ a + k ≤ n) ∧ (0 ≤ a ∧ ns a = 0) ∧ (0 ≤ x ∧ x ≤ 7150 * k) ∧ x + pm_la na ai rl (24 - k).toNat a = pm_la na ai rl 24 n) (fun (_ _ k : Int) => (24 - k).toNat) ?_ 0 n 0 ⟨by omega, ⟨h0, hs⟩, by omega, by simp⟩
  intro Kh x a k ⟨hk, ha, hx, he⟩ hK
  have h5 := hI.2 a ha.1 (by omega)
  have hl := pm_lg_bd hI ha.1 (by omega)
  have ef : (24 - k).toNat = (24 - (k + 1)).toNat + 1 := by omega
  rw [ef] at he
  have e0 : pm_la na ai rl ((24 - (k + 1)).toNat + 1) a = if ai a = 0 then pm_lg na rl a + pm_la na ai rl (24 - (k + 1)).toNat (na a) else 0 := rfl
  refine ⟨⟨by omega, by omega⟩, ⟨by decide, by decide⟩, fun h24 => ⟨⟨by omega, by omega⟩, ⟨by decide, by decide⟩, fun q => by omega, fun _ => ⟨by omega, ⟨by omega, by omega⟩, pm_R0, fun hz => ?_, fun hz => ?_⟩⟩, fun h24 => by omega⟩
  · rw [e0, if_pos hz] at he
    have hm : na a ≠ -1 := fun q => by have := (h5.2.2.2.2.2.1 q).2 ha.2; omega
    have h6 := (h5.2.2.2.2.2.2.1 hm).2
    refine sp_lengthOf hI ha.1 (by omega) (fun y hy => ⟨by omega, fun b hb => fun z hz => ?_⟩)
    subst hb; subst hz
    refine hK _ _ _ ⟨by omega, ⟨by omega, by omega⟩, by omega, by omega⟩ (by omega)
  · rw [e0, if_neg hz] at he
    have ex : x = pm_la na ai rl 24 n := by omega
    rw [ex]
    exact hQ (by omega)
theorem sp_toAirM (hI : pm_NI nc na ns nu ai rl rc N) (hE : pm_NE nc na ns nu ai rl rc N mn mc ma ms mu mi mr mm) {n : Int} {Ke Q : Int → Prop} (h0 : 0 ≤ n) (h1 : n < N) (hs : ns n = 0) (hQ : 0 ≤ pm_la na ai rl 24 n ∧ pm_la na ai rl 24 n ≤ 171600 → Ke (pm_la na ai rl 24 n)) : ∃ kk, ph_it (fun _ _ => False) (M_isSafe_l25 ma ms mu mi mm mv mz n Ke Q) kk 0 n := by
  have hn := hI.1
  refine pm_l2 (fun (x a : Int) => ∃ k : Int, (0 ≤ k ∧ a + k ≤ n) ∧ (0 ≤ a ∧ ns a = 0) ∧ (0 ≤ x ∧ x ≤ 7150 * k) ∧ x + pm_la na ai rl (24 - k).toNat a = pm_la na ai rl 24 n) (fun (_ a : Int) => a.toNat) ?_ 0 n ⟨0, by omega, ⟨h0, hs⟩, by omega, by simp⟩
  intro Kh x a ⟨k, hk, ha, hx, he⟩ hK
  have h5 := hI.2 a ha.1 (by omega)
  have e5 := hE.2 a ha.1 (by omega)
  have hl := pm_lg_bd hI ha.1 (by omega)
  have ef : (24 - k).toNat = (24 - (k + 1)).toNat + 1 := by omega
  rw [ef] at he
  have e0 : pm_la na ai rl ((24 - (k + 1)).toNat + 1) a = if ai a = 0 then pm_lg na rl a + pm_la na ai rl (24 - (k + 1)).toNat (na a) else 0 := rfl
  have a1 := e5.2.2.2.2.1
  refine ⟨by omega, ⟨by omega, by omega⟩, pm_R0, fun hz => ?_, fun hz => ?_⟩
  · rw [e0, if_pos (by omega)] at he
    have hm : na a ≠ -1 := fun q => by have := (h5.2.2.2.2.2.1 q).2 ha.2; omega
    have h6 := (h5.2.2.2.2.2.2.1 hm).2
    refine sp_lengthOfM hI hE ha.1 (by omega) (fun y hy => ⟨by omega, fun b hb => ?_⟩)
    rw [e5.2.1] at hb
    subst hb
    refine hK _ _ ⟨k + 1, by omega, ⟨by omega, by omega⟩, by omega, by omega⟩ (by omega)
  · rw [e0, if_neg (by omega)] at he
    have ex : x = pm_la na ai rl 24 n := by omega
    rw [ex]
    exact hQ (by omega)
def pm_safe (na ns nu ai rl rv sz : Int → Int) (n : Int) : Prop := (ns n = 0 ∧ 0 < nu n) ∧ (na n = -1 ∨ (sz n ≠ -1 ∧ pm_la na ai rl 24 n ≤ rv 2 * (sz n + 1)))
theorem pm_reach (hV : pm_V rv mv li ml) {z : Int} (hz : -1 ≤ z ∧ z ≤ 5) : 0 ≤ rv 2 * (z + 1) ∧ rv 2 * (z + 1) ≤ 3000 := by
  have h := hV.2.2.2.1
  exact ⟨Int.mul_nonneg (by omega) (by omega), Int.mul_le_mul (c := 500) (d := 6) (by omega) (by omega) (by omega) (by decide)⟩
theorem sp_isSafe (hI : pm_NI nc na ns nu ai rl rc N) (hV : pm_V rv mv li ml) (hz : ∀ m, 0 ≤ m → m < (N : Int) → -1 ≤ sz m ∧ sz m ≤ 5) {n : Int} {Q : Int → Prop} (h0 : 0 ≤ n) (h1 : n < N) (ht : pm_safe na ns nu ai rl rv sz n → Q 1) (hf : ¬ pm_safe na ns nu ai rl rv sz n → Q 0) : K_isSafe_wp na ns nu ai rl rv sz n Q := by
  have hn := hI.1
  have h5 := hI.2 n h0 h1
  have hs := hz n h0 h1
  refine sp_hasTrap hI h0 h1 (fun htr => pm_eq1 ⟨by omega, ⟨by omega, by omega⟩, ⟨by decide, by decide⟩, fun hm => ⟨Or.inr rfl, pm_eq1 ⟨Or.inr rfl, ht ⟨htr, Or.inl hm⟩⟩⟩, fun hm => ⟨Or.inl rfl, pm_eq0 ⟨by omega, ⟨by omega, by omega⟩, ⟨by decide, by decide⟩, fun q => ⟨Or.inl rfl, hf (fun z => z.2.elim hm (fun y => y.1 q))⟩, fun q => ?_⟩⟩⟩) (fun htr => pm_eq0 ⟨Or.inl rfl, hf (fun z => htr z.1)⟩)
  have hr := pm_reach hV hs
  refine sp_toAir hI h0 h1 htr.1 (fun hb => ⟨by decide, by omega, ⟨by omega, by omega⟩, ⟨by omega, by omega⟩, fun z => ⟨Or.inl rfl, hf (fun y => y.2.elim hm (fun x => by have := x.2; omega))⟩, fun z => ⟨Or.inr rfl, ht ⟨htr, Or.inr ⟨q, by omega⟩⟩⟩⟩)
theorem sp_isSafeM (hI : pm_NI nc na ns nu ai rl rc N) (hE : pm_NE nc na ns nu ai rl rc N mn mc ma ms mu mi mr mm) (hV : pm_V rv mv li ml) (hz : ∀ m, 0 ≤ m → m < (N : Int) → -1 ≤ sz m ∧ sz m ≤ 5) (hmz : ∀ m, 0 ≤ m → m < (N : Int) → mz m = sz m) {n : Int} {Q : Int → Prop} (h0 : 0 ≤ n) (h1 : n < N) (ht : pm_safe na ns nu ai rl rv sz n → Q 1) (hf : ¬ pm_safe na ns nu ai rl rv sz n → Q 0) : M_isSafe_wp ma ms mu mi mm mv mz n Q := by
  have hn := hI.1
  have h5 := hI.2 n h0 h1
  have e5 := hE.2 n h0 h1
  have hs := hz n h0 h1
  have ez := hmz n h0 h1
  have a1 := e5.2.1
  refine sp_isTrap hI hE h0 h1 (fun htr => pm_eq1 ⟨by omega, ⟨by omega, by omega⟩, pm_R0, fun hm => ⟨Or.inr rfl, ht ⟨htr, Or.inl (by omega)⟩⟩, fun hm => ?_⟩) (fun htr => pm_eq0 ⟨Or.inl rfl, hf (fun z => htr z.1)⟩)
  have hr := pm_reach hV hs
  refine sp_toAirM hI hE h0 h1 htr.1 (fun hb => ⟨by omega, ?_⟩)
  rw [ez, hV.1 2 (by decide) (by decide)]
  refine ⟨⟨by omega, by omega⟩, pm_R0, fun q => ⟨Or.inl rfl, hf (fun y => y.2.elim (fun x => by omega) (fun x => by have := x.1; omega))⟩, fun q => ⟨by decide, by omega, ⟨by omega, by omega⟩, ⟨by omega, by omega⟩, fun z => ⟨Or.inl rfl, hf (fun y => y.2.elim (fun x => by omega) (fun x => by have := x.2; omega))⟩, fun z => ⟨Or.inr rfl, ht ⟨htr, Or.inr ⟨by omega, by omega⟩⟩⟩⟩⟩
/-- the drops from a node on to its main; -1 where a size is none -/
def pm_ds (na rl sz : Int → Int) : Nat → Int → Int → Int
  | 0, _, acc => acc
  | f + 1, at', acc => if na at' = -1 then acc else if sz at' = -1 then -1 else pm_ds na rl sz f (na at') (acc + pm_lg na rl at' * (sz at' + 1) * (sz at' + 1))
def pm_se (na ns nu rl sz : Int → Int) (n : Int) : Int := if na n = -1 ∨ ns n = 0 ∨ nu n = 0 then -1 else if pm_ds na rl sz 24 n 0 = -1 then -1 else pm_ds na rl sz 24 n 0 / (40 * nu n)
theorem pm_drop {l w : Int} (hl : 0 ≤ l ∧ l ≤ 7150) (hw : 0 ≤ w ∧ w ≤ 6) : 0 ≤ l * w * w ∧ l * w * w ≤ 257400 := by
  have h1 : 0 ≤ l * w ∧ l * w ≤ 42900 := ⟨Int.mul_nonneg hl.1 hw.1, Int.mul_le_mul (c := 7150) (d := 6) hl.2 hw.2 hw.1 (by decide)⟩
  exact ⟨Int.mul_nonneg h1.1 hw.1, Int.mul_le_mul (c := 42900) (d := 6) h1.2 hw.2 hw.1 (by decide)⟩
theorem sp_secondsOf (hI : pm_NI nc na ns nu ai rl rc N) (hz : ∀ m, 0 ≤ m → m < (N : Int) → -1 ≤ sz m ∧ sz m ≤ 5) {n : Int} {Q : Int → Prop} (h0 : 0 ≤ n) (h1 : n < N) (hQ : -1 ≤ pm_se na ns nu rl sz n ∧ pm_se na ns nu rl sz n ≤ 6177600 → Q (pm_se na ns nu rl sz n)) : K_secondsOf_wp na ns nu rl sz n Q := by
  have hn := hI.1
  have h5 := hI.2 n h0 h1
  unfold pm_se at hQ
  have no : (na n = -1 ∨ ns n = 0 ∨ nu n = 0) → Q (-1) := fun z => by rw [if_pos z] at hQ; exact hQ ⟨by decide, by decide⟩
  refine ⟨by omega, ⟨by omega, by omega⟩, ⟨by decide, by decide⟩, fun hm => ⟨Or.inr rfl, pm_eq1 (no (Or.inl hm))⟩, fun hm => ⟨Or.inl rfl, pm_eq0 ⟨by omega, ⟨by omega, by omega⟩, pm_R0, fun hs => ⟨Or.inr rfl, pm_eq1 (no (Or.inr (Or.inl hs)))⟩, fun hs => ⟨Or.inl rfl, pm_eq0 ⟨by omega, pm_R0, ⟨by omega, by omega⟩, fun hu => ?_, fun hu => no (Or.inr (Or.inr (by omega)))⟩⟩⟩⟩⟩
  rw [if_neg (fun z => by omega)] at hQ
  have fin : ∀ acc : Int, acc = pm_ds na rl sz 24 n 0 → (0 ≤ acc ∧ acc ≤ 6177600) → K_secondsOf_j103 na ns nu rl sz n acc Q := by
    intro acc ha hb
    rw [← ha, if_neg (by omega)] at hQ
    have hd : acc / (40 * nu n) ≤ acc := Int.ediv_le_self _ hb.1
    have hd0 : 0 ≤ acc / (40 * nu n) := Int.ediv_nonneg hb.1 (by omega)
    exact ⟨by omega, ⟨⟨hb.1, by omega, by omega⟩, ⟨by omega, by omega, by omega⟩⟩, hQ ⟨by omega, by omega⟩⟩
  refine pm_l3 (fun (acc a k : Int) => (0 ≤ k ∧ a + k ≤ n) ∧ 0 ≤ a ∧ (0 ≤ acc ∧ acc ≤ 257400 * k) ∧ pm_ds na rl sz (24 - k).toNat a acc = pm_ds na rl sz 24 n 0) (fun (_ _ k : Int) => (24 - k).toNat) ?_ 0 n 0 ⟨by omega, h0, by omega, by simp⟩
  intro Kh acc a k ⟨hk, ha, hx, he⟩ hK
  have h6 := hI.2 a ha (by omega)
  have hs6 := hz a ha (by omega)
  have hl := pm_lg_bd hI ha (by omega)
  have ef : (24 - k).toNat = (24 - (k + 1)).toNat + 1 := by omega
  rw [ef] at he
  have e0 : pm_ds na rl sz ((24 - (k + 1)).toNat + 1) a acc = if na a = -1 then acc else if sz a = -1 then -1 else pm_ds na rl sz (24 - (k + 1)).toNat (na a) (acc + pm_lg na rl a * (sz a + 1) * (sz a + 1)) := rfl
  rw [e0] at he
  refine ⟨⟨by omega, by omega⟩, ⟨by decide, by decide⟩, fun h24 => ⟨by omega, ⟨by omega, by omega⟩, ⟨by decide, by decide⟩, fun hm2 => ⟨Or.inr rfl, pm_eq1 ?_⟩, fun hm2 => ⟨Or.inl rfl, pm_eq0 ⟨by omega, ⟨by omega, by omega⟩, ⟨by decide, by decide⟩, fun hz2 => ?_, fun hz2 => ⟨by omega, fun w hw => ?_⟩⟩⟩⟩, fun h24 => by omega⟩
  · rw [if_pos hm2] at he
    exact fin acc he (by omega)
  · rw [if_neg hm2, if_pos hz2] at he
    rw [← he, if_pos rfl] at hQ
    exact hQ ⟨by decide, by decide⟩
  · rw [if_neg hm2, if_neg hz2] at he
    subst hw
    have hd := pm_drop hl (show 0 ≤ sz a + 1 ∧ sz a + 1 ≤ 6 by omega)
    refine sp_lengthOf hI ha (by omega) (fun y hy => ⟨by omega, fun z hz3 => ?_⟩)
    subst hy; subst hz3
    exact hK _ _ _ ⟨by omega, by omega, by omega, he⟩ (by omega)
theorem sp_secondsOfM (hI : pm_NI nc na ns nu ai rl rc N) (hE : pm_NE nc na ns nu ai rl rc N mn mc ma ms mu mi mr mm) (hz : ∀ m, 0 ≤ m → m < (N : Int) → -1 ≤ sz m ∧ sz m ≤ 5) (hmz : ∀ m, 0 ≤ m → m < (N : Int) → mz m = sz m) {n : Int} {Q : Int → Prop} (h0 : 0 ≤ n) (h1 : n < N) (hQ : -1 ≤ pm_se na ns nu rl sz n ∧ pm_se na ns nu rl sz n ≤ 6177600 → Q (pm_se na ns nu rl sz n)) : M_secondsOf_wp ma ms mu mm mz n Q := by
  have hn := hI.1
  have h5 := hI.2 n h0 h1
  have e5 := hE.2 n h0 h1
  have a1 := e5.2.1
  have a2 := e5.2.2.1
  have a3 := e5.2.2.2.1
  unfold pm_se at hQ
  have no : (na n = -1 ∨ ns n = 0 ∨ nu n = 0) → Q (-1) := fun z => by rw [if_pos z] at hQ; exact hQ ⟨by decide, by decide⟩
  refine ⟨by omega, ⟨by omega, by omega⟩, pm_R0, fun hs => no (Or.inr (Or.inl (by omega))), fun hs => ⟨by omega, ⟨by omega, by omega⟩, pm_R0, fun hm => no (Or.inl (by omega)), fun hm => ⟨by omega, ⟨by omega, by omega⟩, pm_R0, fun hu => no (Or.inr (Or.inr (by omega))), fun hu => ?_⟩⟩⟩
  rw [if_neg (fun z => by omega)] at hQ
  refine pm_l2 (fun (acc a : Int) => ∃ k : Int, (0 ≤ k ∧ a + k ≤ n) ∧ 0 ≤ a ∧ (0 ≤ acc ∧ acc ≤ 257400 * k) ∧ pm_ds na rl sz (24 - k).toNat a acc = pm_ds na rl sz 24 n 0) (fun (_ a : Int) => a.toNat) ?_ 0 n ⟨0, by omega, h0, by omega, by simp⟩
  intro Kh acc a ⟨k, hk, ha, hx, he⟩ hK
  have h6 := hI.2 a ha (by omega)
  have e6 := hE.2 a ha (by omega)
  have hs6 := hz a ha (by omega)
  have ez := hmz a ha (by omega)
  have hl := pm_lg_bd hI ha (by omega)
  have b1 := e6.2.1
  have ef : (24 - k).toNat = (24 - (k + 1)).toNat + 1 := by omega
  rw [ef] at he
  have e0 : pm_ds na rl sz ((24 - (k + 1)).toNat + 1) a acc = if na a = -1 then acc else if sz a = -1 then -1 else pm_ds na rl sz (24 - (k + 1)).toNat (na a) (acc + pm_lg na rl a * (sz a + 1) * (sz a + 1)) := rfl
  rw [e0] at he
  refine ⟨by omega, ⟨by omega, by omega⟩, pm_R0, fun hm2 => ⟨by omega, ?_⟩, fun hm2 => ⟨by omega, ?_⟩⟩
  · rw [if_pos (by omega)] at he
    rw [← he, if_neg (by omega)] at hQ
    have hd : acc / (40 * nu n) ≤ acc := Int.ediv_le_self _ hx.1
    have hd0 : 0 ≤ acc / (40 * nu n) := Int.ediv_nonneg hx.1 (by omega)
    rw [a3]
    exact ⟨⟨⟨hx.1, by omega, by omega⟩, ⟨by omega, by omega, by omega⟩⟩, hQ ⟨by omega, by omega⟩⟩
  · rw [ez]
    refine ⟨⟨by omega, by omega⟩, pm_R0, fun hz2 => ?_, fun hz2 => ?_⟩
    · rw [if_neg (by omega), if_pos (by omega)] at he
      rw [← he, if_pos rfl] at hQ
      exact hQ ⟨by decide, by decide⟩
    · rw [if_neg (by omega), if_neg (by omega)] at he
      have hd := pm_drop hl (show 0 ≤ sz a + 1 ∧ sz a + 1 ≤ 6 by omega)
      refine sp_lengthOfM hI hE ha (by omega) ⟨by omega, by omega, fun y hy => ⟨by omega, fun b hb => ?_⟩⟩
      rw [b1] at hb
      subst hb; subst hy
      exact hK _ _ ⟨k + 1, by omega, by omega, by omega, he⟩ (by omega)
end PMO
