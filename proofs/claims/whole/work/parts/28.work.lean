/-! loads, sizes, levels -/
def pm_sf (li : Int → Int) (load : Int) : Nat → Int → Int
  | 0, _ => -1
  | f + 1, s => if li s < load then pm_sf li load f (s + 1) else s
theorem pm_sf_in {li : Int → Int} {load : Int} : ∀ (f : Nat) (s : Int), 0 ≤ s → s + f = 6 → -1 ≤ pm_sf li load f s ∧ pm_sf li load f s ≤ 5
  | 0, s, _, _ => by show -1 ≤ (-1 : Int) ∧ (-1 : Int) ≤ 5; omega
  | f + 1, s, h0, h1 => by
    show -1 ≤ (if li s < load then pm_sf li load f (s + 1) else s) ∧ (if li s < load then pm_sf li load f (s + 1) else s) ≤ 5
    split
    · exact pm_sf_in f (s + 1) (by omega) (by omega)
    · omega
def pm_sz (li : Int → Int) (load least : Int) : Int := if least < 0 then -1 else pm_sf li load (6 - least).toNat least
theorem pm_sz_in {li : Int → Int} {load least : Int} (h : -1 ≤ least ∧ least ≤ 5) : -1 ≤ pm_sz li load least ∧ pm_sz li load least ≤ 5 := by
  unfold pm_sz
  split
  · omega
  · exact pm_sf_in _ _ (by omega) (by omega)
theorem sp_sizeFor {li : Int → Int} {load least : Int} {Q : Int → Prop} (hli : ∀ s, 0 ≤ s → s < 6 → ph_R (li s)) (hl : ph_R load) (hs : -1 ≤ least ∧ least ≤ 5) (hQ : Q (pm_sz li load least)) : V_sizeFor_wp li load least Q := by
  unfold pm_sz at hQ
  refine ⟨⟨by omega, by omega⟩, pm_R0, fun h => by rw [if_pos h] at hQ; exact hQ, fun h => ?_⟩
  rw [if_neg h] at hQ
  refine pm_l1 (fun s : Int => (0 ≤ s ∧ s ≤ 6) ∧ pm_sf li load (6 - least).toNat least = pm_sf li load (6 - s).toNat s) (fun s : Int => (6 - s).toNat) ?_ least ⟨by omega, rfl⟩
  intro Kh s ⟨h6, he⟩ hK
  refine ⟨⟨by omega, by omega⟩, ⟨by decide, by decide⟩, fun hlt => ⟨⟨h6.1, hlt⟩, hli s h6.1 hlt, hl, fun hc => fun y hy => ?_, fun hc => ?_⟩, fun hlt => ?_⟩
  · subst hy
    refine hK _ ⟨by omega, ?_⟩ (by omega)
    rw [he, show (6 - s).toNat = (6 - (s + 1)).toNat + 1 by omega]
    show (if li s < load then _ else _) = _
    rw [if_pos hc]
  · rw [he, show (6 - s).toNat = (6 - (s + 1)).toNat + 1 by omega] at hQ
    have e : pm_sf li load ((6 - (s + 1)).toNat + 1) s = s := by
      show (if li s < load then _ else _) = _
      rw [if_neg hc]
    rw [e] at hQ
    exact hQ
  · rw [he, show (6 - s).toNat = 0 by omega] at hQ
    exact hQ
theorem sp_sizeForM {li ml : Int → Int} {load least : Int} {Q : Int → Prop} (hml : ∀ s, 0 ≤ s → s < 6 → ml s = li s) (hli : ∀ s, 0 ≤ s → s < 6 → ph_R (li s)) (hl : ph_R load) (hs : 0 ≤ least ∧ least ≤ 5) (hQ : Q (pm_sz li load least)) : M_sizeFor_wp ml load least Q := by
  unfold pm_sz at hQ
  rw [if_neg (by omega)] at hQ
  refine pm_l1 (fun s : Int => (0 ≤ s ∧ s ≤ 6) ∧ pm_sf li load (6 - least).toNat least = pm_sf li load (6 - s).toNat s) (fun s : Int => (6 - s).toNat) ?_ least ⟨by omega, rfl⟩
  intro Kh s ⟨h6, he⟩ hK
  refine ⟨⟨by omega, by omega⟩, ⟨by decide, by decide⟩, fun hlt => ⟨⟨h6.1, hlt⟩, ?_⟩, fun hlt => ⟨⟨by omega, by omega⟩, ⟨by decide, by decide⟩, fun _ => ?_, fun q => by omega⟩⟩
  · rw [hml s h6.1 hlt]
    refine ⟨hli s h6.1 hlt, hl, fun hc => fun y hy => ?_, fun hc => ⟨⟨by omega, by omega⟩, ⟨by decide, by decide⟩, fun q => by omega, fun _ => ?_⟩⟩
    · subst hy
      refine hK _ ⟨by omega, ?_⟩ (by omega)
      rw [he, show (6 - s).toNat = (6 - (s + 1)).toNat + 1 by omega]
      show (if li s < load then _ else _) = _
      rw [if_pos hc]
    · rw [he, show (6 - s).toNat = (6 - (s + 1)).toNat + 1 by omega] at hQ
      have e : pm_sf li load ((6 - (s + 1)).toNat + 1) s = s := by
        show (if li s < load then _ else _) = _
        rw [if_neg hc]
      rw [e] at hQ
      exact hQ
  · rw [he, show (6 - s).toNat = 0 by omega] at hQ
    exact hQ
def pm_wd (a b : Int) : Int := if a = -1 then -1 else if b = -1 then -1 else max a b
theorem pm_wd_in {a b : Int} (ha : -1 ≤ a ∧ a ≤ 5) (hb : -1 ≤ b ∧ b ≤ 5) : -1 ≤ pm_wd a b ∧ pm_wd a b ≤ 5 := by
  unfold pm_wd
  split
  · omega
  · split
    · omega
    · omega
theorem sp_wider {a b : Int} {Q : Int → Prop} (ha : -1 ≤ a ∧ a ≤ 5) (hb : -1 ≤ b ∧ b ≤ 5) (hQ : Q (pm_wd a b)) : K_wider_wp a b Q := by
  unfold pm_wd at hQ
  refine ⟨⟨by omega, by omega⟩, ⟨by decide, by decide⟩, fun h => by rw [if_pos h] at hQ; exact hQ, fun h => ⟨⟨by omega, by omega⟩, ⟨by decide, by decide⟩, fun h2 => by rw [if_neg h, if_pos h2] at hQ; exact hQ, fun h2 => ⟨⟨⟨by omega, by omega⟩, ⟨by omega, by omega⟩⟩, by rw [if_neg h, if_neg h2] at hQ; exact hQ⟩⟩⟩
/-- one node's share, from the last to the first -/
def pm_stp (na li : Int → Int) (n : Int) (s : (Int → Int) × (Int → Int)) : (Int → Int) × (Int → Int) :=
  if na n = -1 then s else
    (ph_u s.1 (na n) (s.1 (na n) + s.1 n), ph_u (ph_u s.2 n (pm_sz li (s.1 n) (s.2 n))) (na n) (pm_wd (s.2 (na n)) (pm_sz li (s.1 n) (s.2 n))))
def pm_sq (na li : Int → Int) : Nat → (Int → Int) × (Int → Int) → (Int → Int) × (Int → Int)
  | 0, s => s
  | k + 1, s => pm_sq na li k (pm_stp na li k s)
/-- loads and sizes within their bounds, with k nodes to come -/
def pm_bd (nn : Int) (k : Nat) (s : (Int → Int) × (Int → Int)) : Prop := ∃ b : Int, 0 ≤ b ∧ b * 2 ^ k ≤ 838860800 ∧ ∀ m, 0 ≤ m → m < nn → (0 ≤ s.1 m ∧ s.1 m ≤ b) ∧ -1 ≤ s.2 m ∧ s.2 m ≤ 5
theorem pm_bd_le {b : Int} {k : Nat} (h0 : 0 ≤ b) (h : b * 2 ^ k ≤ 838860800) : b ≤ 838860800 := by
  have h1 : (1 : Int) ≤ 2 ^ k := by
    have : 0 < (2 : Int) ^ k := Int.pow_pos (by decide)
    omega
  have h2 : b * 1 ≤ b * 2 ^ k := Int.mul_le_mul_of_nonneg_left h1 h0
  omega
theorem pm_bd_stp {na li : Int → Int} {nn : Int} {k : Nat} {s : (Int → Int) × (Int → Int)} (hk : (k : Int) < nn) (hna : na k = -1 ∨ (0 ≤ na k ∧ na k < k)) (h : pm_bd nn (k + 1) s) : pm_bd nn k (pm_stp na li k s) := by
  obtain ⟨b, h0, h1, h2⟩ := h
  have e2 : (2 * b) * 2 ^ k = b * 2 ^ (k + 1) := by
    rw [Int.pow_succ, Int.mul_comm 2 b, Int.mul_assoc, Int.mul_comm 2 (2 ^ k)]
  refine ⟨2 * b, by omega, by rw [e2]; exact h1, fun m m0 m1 => ?_⟩
  have hm := h2 m m0 m1
  unfold pm_stp
  by_cases hu : na k = -1
  · rw [if_pos hu]; omega
  · rw [if_neg hu]
    have hkk := h2 k (by omega) hk
    have huu := h2 (na k) (by omega) (by omega)
    have z := pm_sz_in (li := li) (load := s.1 k) hkk.2
    have w := pm_wd_in huu.2 z
    dsimp only
    refine ⟨?_, ?_⟩
    · by_cases hmu : m = na k
      · rw [hmu, pm_us]; omega
      · rw [pm_un hmu]; omega
    · by_cases hmu : m = na k
      · rw [hmu, pm_us]; exact w
      · rw [pm_un hmu]
        by_cases hmk : m = k
        · rw [hmk, pm_us]; exact z
        · rw [pm_un hmk]; exact hm.2
section PMW
variable {nc na ns nu ai rl rc mc ma ms mu mi mr mm : Int → Int} {nn mn : Int} {rv mv li ml : Int → Int}
/-- what the class and the reference have worked out -/
def pm_res (na ns nu rl : Int → Int) (N : Nat) (rv li ld sz lo : Int → Int) : Prop :=
  (∀ m, 0 ≤ m → m < (N : Int) → ld m = (pm_sq na li N (nu, fun _ => 0)).1 m ∧ sz m = (pm_sq na li N (nu, fun _ => 0)).2 m ∧ (0 ≤ ld m ∧ ld m ≤ 838860800) ∧ -1 ≤ sz m ∧ sz m ≤ 5) ∧
  ∀ m, 0 ≤ m → m < (N : Int) → lo m = if na m ≠ -1 ∧ ns m = 0 then lo (na m) + 5 * rv 0 * (rl m - 1) else 0
theorem pm_bd0 {N : Nat} (hN : N ≤ 24) (hnu : ∀ m, 0 ≤ m → m < (N : Int) → 0 ≤ nu m ∧ nu m ≤ 50) : pm_bd N N (nu, fun _ => 0) := by
  refine ⟨50, by decide, ?_, fun m m0 m1 => ⟨hnu m m0 m1, (by decide : (-1 : Int) ≤ 0), (by decide : (0 : Int) ≤ 5)⟩⟩
  have : (2 : Int) ^ N ≤ 2 ^ 24 := by
    have h := Nat.pow_le_pow_right (n := 2) (by decide) hN
    exact_mod_cast h
  have e : (2 : Int) ^ 24 = 16777216 := by decide
  omega
theorem sp_settleSizes {ld sz : Int → Int} {N : Nat} {Q : (Int → Int) → (Int → Int) → Prop} (hN : N ≤ 24) (hna : ∀ n, 0 ≤ n → n < (N : Int) → na n = -1 ∨ (0 ≤ na n ∧ na n < n)) (hnu : ∀ m, 0 ≤ m → m < (N : Int) → 0 ≤ nu m ∧ nu m ≤ 50) (hli : ∀ s, 0 ≤ s → s < 6 → ph_R (li s))
    (hQ : ∀ ld' sz', (∀ m, 0 ≤ m → m < (N : Int) → ld' m = (pm_sq na li N (nu, fun _ => 0)).1 m ∧ sz' m = (pm_sq na li N (nu, fun _ => 0)).2 m ∧ (0 ≤ ld' m ∧ ld' m ≤ 838860800) ∧ -1 ≤ sz' m ∧ sz' m ≤ 5) → Q ld' sz') : K_settleSizes_wp na nu N li ld sz Q := by
  refine pm_l3 (fun (x : Int) (l z : Int → Int) => (0 ≤ x ∧ x ≤ N) ∧ ∀ m, 0 ≤ m → m < x → l m = nu m ∧ z m = 0) (fun (x : Int) _ _ => ((N : Int) - x).toNat) ?_ 0 ld sz ⟨by omega, fun m _ _ => by omega⟩
  intro Kh x l z ⟨hx, hlz⟩ hK
  refine ⟨⟨by omega, by omega⟩, ⟨by omega, by omega⟩, fun hlt => ⟨by omega, by omega, fun l2 hl2 => ⟨by omega, fun z2 hz2 => fun y hy => ?_⟩⟩, fun hge => fun k0 hk0 => ?_⟩
  · subst hy
    refine hK _ _ _ ⟨by omega, fun m m0 m1 => ?_⟩ (by omega)
    rw [hl2, hz2]
    by_cases hm : m = x
    · subst hm; rw [pm_us, pm_us]; exact ⟨rfl, rfl⟩
    · rw [pm_un hm, pm_un hm]; exact hlz m m0 (by omega)
  · have ex : x = N := by omega
    subst ex
    refine pm_l3 (fun (x : Int) (l z : Int → Int) => ∃ (k : Nat) (s : (Int → Int) × (Int → Int)), x = (k : Int) - 1 ∧ k ≤ N ∧ pm_bd N k s ∧ pm_sq na li k s = pm_sq na li N (nu, fun _ => 0) ∧ ∀ m, 0 ≤ m → m < (N : Int) → l m = s.1 m ∧ z m = s.2 m) (fun (x : Int) _ _ => (x + 1).toNat) ?_ k0 l z ⟨N, (nu, fun _ => 0), hk0, Nat.le_refl _, pm_bd0 hN hnu, rfl, hlz⟩
    intro Kh2 x2 l2 z2 ⟨k, s, e2, hk, hbd, hsq, hag⟩ hK2
    refine ⟨⟨by omega, by omega⟩, pm_R0, fun hneg => ?_, fun hpos => ?_⟩
    · have k0' : k = 0 := by omega
      subst k0'
      have es : s = pm_sq na li N (nu, fun _ => 0) := hsq
      obtain ⟨b, b0, b1, b2⟩ := hbd
      have hb := pm_bd_le b0 b1
      refine hQ l2 z2 (fun m m0 m1 => ?_)
      have h5 := hag m m0 m1
      have h6 := b2 m m0 m1
      rw [← es]
      exact ⟨h5.1, h5.2, by omega, by omega, by omega⟩
    · obtain ⟨j, rfl⟩ : ∃ j, k = j + 1 := ⟨k - 1, by omega⟩
      have ej : x2 = (j : Int) := by omega
      subst ej
      have hj : (j : Int) < N := by omega
      have hnj := hna j (by omega) hj
      have hb2 := pm_bd_stp (li := li) hj hnj hbd
      have hagj := hag j (by omega) hj
      obtain ⟨b, b0, b1, b2⟩ := hbd
      have hb := pm_bd_le b0 b1
      have hbj := b2 j (by omega) hj
      refine ⟨by omega, ⟨by omega, by omega⟩, ⟨by decide, by decide⟩, fun hm => fun y hy => ?_, fun hm => ?_⟩
      · subst hy
        have e : pm_stp na li j s = s := by unfold pm_stp; rw [if_pos hm]
        rw [e] at hb2
        exact hK2 _ _ _ ⟨j, s, by omega, by omega, hb2, by rw [← hsq]; show _ = pm_sq na li j (pm_stp na li j s); rw [e], hag⟩ (by omega)
      · have hup : 0 ≤ na j ∧ na j < j := by omega
        have hagu := hag (na j) hup.1 (by omega)
        have hbu := b2 (na j) hup.1 (by omega)
        have hz := pm_sz_in (li := li) (load := s.1 j) hbj.2
        refine ⟨by omega, by omega, ?_⟩
        rw [hagj.1, hagj.2]
        refine sp_sizeFor hli ⟨by omega, by omega⟩ hbj.2 ⟨by omega, fun z3 hz3 => ⟨by omega, by omega, by omega, fun l3 hl3 => ⟨by omega, by omega, ?_⟩⟩⟩
        have w1 : z3 (na j) = s.2 (na j) := by rw [hz3, pm_un (by omega)]; exact hagu.2
        have w2 : z3 j = pm_sz li (s.1 j) (s.2 j) := by rw [hz3, pm_us]
        rw [w1, w2]
        refine sp_wider hbu.2 hz ⟨by omega, fun z4 hz4 => fun y hy => ?_⟩
        subst hy
        refine hK2 _ _ _ ⟨j, pm_stp na li j s, by omega, by omega, hb2, hsq, fun m m0 m1 => ?_⟩ (by omega)
        have hm5 := hag m m0 m1
        unfold pm_stp
        rw [if_neg hm, hl3, hz4, hz3]
        dsimp only
        constructor
        · by_cases hmu : m = na j
          · rw [hmu, pm_us, pm_us, hagu.1]
          · rw [pm_un hmu, pm_un hmu]; exact hm5.1
        · by_cases hmu : m = na j
          · rw [hmu, pm_us, pm_us]
          · rw [pm_un hmu, pm_un hmu]
            by_cases hmj : m = j
            · rw [hmj, pm_us, pm_us]
            · rw [pm_un hmj, pm_un hmj]; exact hm5.2
theorem sp_settleLevels {lo : Int → Int} {ri : Int} {N : Nat} {Q : (Int → Int) → Int → Prop} (hN : N ≤ 24) (hna : ∀ n, 0 ≤ n → n < (N : Int) → na n = -1 ∨ (0 ≤ na n ∧ na n < n)) (hns : ∀ n, 0 ≤ n → n < (N : Int) → ns n = 0 ∨ ns n = 1)
    (hQ : ∀ lo', (∀ m, 0 ≤ m → m < (N : Int) → lo' m = if na m ≠ -1 ∧ ns m = 0 then lo' (na m) + 5 * rv 0 * (rl m - 1) else 0) → Q lo' (5 * rv 0)) : K_settleLevels_wp na ns rl N rv lo ri Q := by
  refine ⟨by decide, fun r hr => ?_⟩
  subst hr
  refine pm_l2 (fun (x : Int) (l : Int → Int) => (0 ≤ x ∧ x ≤ N) ∧ ∀ m, 0 ≤ m → m < x → l m = if na m ≠ -1 ∧ ns m = 0 then l (na m) + 5 * rv 0 * (rl m - 1) else 0) (fun (x : Int) _ => ((N : Int) - x).toNat) ?_ 0 lo ⟨by omega, fun m _ _ => by omega⟩
  intro Kh x l ⟨hx, hl⟩ hK
  refine ⟨⟨by omega, by omega⟩, ⟨by omega, by omega⟩, fun hlt => ?_, fun hge => ?_⟩
  · have h24 : 0 ≤ x ∧ x < 24 := by omega
    have hn := hna x hx.1 hlt
    have fin : ∀ v : Int, (v = if na x ≠ -1 ∧ ns x = 0 then l (na x) + 5 * rv 0 * (rl x - 1) else 0) → K_settleLevels_j68 na ns rl N rv l (5 * rv 0) x x v Q Kh := by
      intro v hv
      refine ⟨h24, fun l2 hl2 => fun y hy => ?_⟩
      subst hy
      refine hK _ _ ⟨by omega, fun m m0 m1 => ?_⟩ (by omega)
      have hm := hna m m0 (by omega)
      by_cases hmx : m = x
      · subst hmx
        rw [hl2, pm_us, hv]
        by_cases hc : na m ≠ -1 ∧ ns m = 0
        · rw [if_pos hc, if_pos hc, pm_un (by omega)]
        · rw [if_neg hc, if_neg hc]
      · rw [hl2, pm_un hmx, hl m m0 (by omega)]
        by_cases hc : na m ≠ -1 ∧ ns m = 0
        · rw [if_pos hc, if_pos hc, pm_un (by omega)]
        · rw [if_neg hc, if_neg hc]
    refine ⟨h24, ⟨by omega, by omega⟩, ⟨by decide, by decide⟩, fun hm => fin 0 (by rw [if_neg (fun q => q.1 hm)]), fun hm => ⟨h24, ⟨by have := hns x hx.1 hlt; omega, by have := hns x hx.1 hlt; omega⟩, pm_R0, fun hs => ⟨Or.inr rfl, pm_eq1 ⟨by omega, ⟨h24, ⟨by omega, by omega⟩, ⟨by decide, by decide⟩, fun q => absurd q hm, fun _ => ⟨Or.inl rfl, pm_eq0 ⟨h24, fin _ (by rw [if_pos ⟨hm, hs⟩])⟩⟩⟩⟩⟩, fun hs => ⟨Or.inl rfl, pm_eq0 (fin 0 (by rw [if_neg (fun q => hs q.2)]))⟩⟩⟩
  · have ex : x = N := by omega
    subst ex
    exact hQ l hl
theorem sp_settle {ld sz lo : Int → Int} {ri : Int} {N : Nat} {Q : (Int → Int) → (Int → Int) → (Int → Int) → Int → Prop} (hN : N ≤ 24) (hI : pm_NI nc na ns nu ai rl rc N) (hV : pm_V rv mv li ml) (hQ : ∀ ld' sz' lo', pm_res na ns nu rl N rv li ld' sz' lo' → Q ld' sz' lo' (5 * rv 0)) : K_settle_wp na ns nu rl N rv li ld sz lo ri Q := by
  have hna := fun n n0 n1 => (hI.2 n n0 n1).2.1
  refine sp_settleSizes hN hna (fun m m0 m1 => (hI.2 m m0 m1).2.2.2.1) (fun s s0 s1 => by have := hV.2.2.2.2.2 s s0 s1; exact ⟨by omega, by omega⟩) (fun ld' sz' h1 => ?_)
  exact sp_settleLevels hN hna (fun n n0 n1 => (hI.2 n n0 n1).2.2.1) (fun lo' h2 => hQ ld' sz' lo' ⟨h1, h2⟩)
theorem sp_work {md mz mo : Int → Int} {N : Nat} {Q : (Int → Int) → (Int → Int) → (Int → Int) → Prop} (hN : N ≤ 24) (hI : pm_NI nc na ns nu ai rl rc N) (hE : pm_NE nc na ns nu ai rl rc N mn mc ma ms mu mi mr mm) (hV : pm_V rv mv li ml) (hQ : ∀ md' mz' mo', pm_res na ns nu rl N rv li md' mz' mo' → Q md' mz' mo') : M_work_wp mn ma ms mu mm mv ml md mz mo Q := by
  obtain ⟨em, hE⟩ := hE
  subst em
  have hna := fun n n0 n1 => (hI.2 n n0 n1).2.1
  have hli : ∀ s, 0 ≤ s → s < 6 → ph_R (li s) := fun s s0 s1 => by have := hV.2.2.2.2.2 s s0 s1; exact ⟨by omega, by omega⟩
  have hml : ∀ s, 0 ≤ s → s < 6 → ml s = li s := fun s s0 s1 => (hV.2.2.2.2.2 s s0 s1).1
  refine pm_l3 (fun (x : Int) (l z : Int → Int) => (0 ≤ x ∧ x ≤ N) ∧ ∀ m, 0 ≤ m → m < x → l m = nu m ∧ z m = 0) (fun (x : Int) _ _ => ((N : Int) - x).toNat) ?_ 0 md mz ⟨by omega, fun m _ _ => by omega⟩
  intro Kh x l z ⟨hx, hlz⟩ hK
  refine ⟨⟨by omega, by omega⟩, ⟨by omega, by omega⟩, fun hlt => ⟨by omega, by omega, fun l2 hl2 => ⟨by omega, fun z2 hz2 => fun y hy => ?_⟩⟩, fun hge => fun k0 hk0 => ?_⟩
  · subst hy
    refine hK _ _ _ ⟨by omega, fun m m0 m1 => ?_⟩ (by omega)
    rw [hl2, hz2]
    by_cases hm : m = x
    · subst hm; rw [pm_us, pm_us]; exact ⟨(hE m hx.1 hlt).2.2.2.1, rfl⟩
    · rw [pm_un hm, pm_un hm]; exact hlz m m0 (by omega)
  · have ex : x = N := by omega
    subst ex
    refine pm_l3 (fun (x : Int) (l z : Int → Int) => ∃ (k : Nat) (s : (Int → Int) × (Int → Int)), x = (k : Int) - 1 ∧ k ≤ N ∧ pm_bd N k s ∧ pm_sq na li k s = pm_sq na li N (nu, fun _ => 0) ∧ ∀ m, 0 ≤ m → m < (N : Int) → l m = s.1 m ∧ z m = s.2 m) (fun (x : Int) _ _ => (x + 1).toNat) ?_ k0 l z ⟨N, (nu, fun _ => 0), hk0, Nat.le_refl _, pm_bd0 hN (fun m m0 m1 => (hI.2 m m0 m1).2.2.2.1), rfl, hlz⟩
    intro Kh2 x2 l2 z2 ⟨k, s, e2, hk, hbd, hsq, hag⟩ hK2
    refine ⟨⟨by omega, by omega⟩, pm_R0, fun hneg => ?_, fun hpos => ?_⟩
    · have k0' : k = 0 := by omega
      subst k0'
      have es : s = pm_sq na li N (nu, fun _ => 0) := hsq
      obtain ⟨b, b0, b1, b2⟩ := hbd
      have hb := pm_bd_le b0 b1
      -- the levels
      refine pm_l2 (fun (x : Int) (l : Int → Int) => (0 ≤ x ∧ x ≤ N) ∧ ∀ m, 0 ≤ m → m < x → l m = if na m ≠ -1 ∧ ns m = 0 then l (na m) + 5 * rv 0 * (rl m - 1) else 0) (fun (x : Int) _ => ((N : Int) - x).toNat) ?_ 0 mo ⟨by omega, fun m _ _ => by omega⟩
      intro Kh3 x3 l3 ⟨hx3, hl3⟩ hK3
      refine ⟨⟨by omega, by omega⟩, ⟨by omega, by omega⟩, fun hlt => ?_, fun hge => ?_⟩
      · have h24 : 0 ≤ x3 ∧ x3 < 24 := by omega
        have hn := hna x3 hx3.1 hlt
        have e5 := hE x3 hx3.1 hlt
        have i5 := (hI.2 x3 hx3.1 hlt).2.2.1
        have fin : ∀ v : Int, (v = if na x3 ≠ -1 ∧ ns x3 = 0 then l3 (na x3) + 5 * rv 0 * (rl x3 - 1) else 0) → M_work_j247 N ma ms mu mm mv ml l2 z2 l3 x3 x3 v Q Kh3 := by
          intro v hv
          refine ⟨h24, fun l4 hl4 => fun y hy => ?_⟩
          subst hy
          refine hK3 _ _ ⟨by omega, fun m m0 m1 => ?_⟩ (by omega)
          have hm := hna m m0 (by omega)
          by_cases hmx : m = x3
          · subst hmx
            rw [hl4, pm_us, hv]
            by_cases hc : na m ≠ -1 ∧ ns m = 0
            · rw [if_pos hc, if_pos hc, pm_un (by omega)]
            · rw [if_neg hc, if_neg hc]
          · rw [hl4, pm_un hmx, hl3 m m0 (by omega)]
            by_cases hc : na m ≠ -1 ∧ ns m = 0
            · rw [if_pos hc, if_pos hc, pm_un (by omega)]
            · rw [if_neg hc, if_neg hc]
        refine ⟨h24, by rw [e5.2.1]; exact ⟨by omega, by omega⟩, pm_R0, fun hm => ?_, fun hm => ⟨h24, by rw [e5.2.2.1]; exact ⟨by omega, by omega⟩, pm_R0, fun hs => ?_, fun hs => ?_⟩⟩
        · rw [e5.2.1] at hm
          exact ⟨pm_R0, pm_R0, fun _ => fin 0 (by rw [if_neg (fun q => by omega)]), fun q => absurd rfl q⟩
        · rw [e5.2.1] at hm
          rw [e5.2.2.1] at hs
          refine ⟨pm_R1, pm_R0, fun q => absurd q (by decide), fun _ => ⟨h24, by rw [e5.2.1]; omega, by decide, h24, fin _ ?_⟩⟩
          rw [if_pos ⟨by omega, hs⟩, e5.2.1, e5.2.2.2.2.2.1, hV.1 0 (by decide) (by decide)]
        · rw [e5.2.2.1] at hs
          exact ⟨pm_R0, pm_R0, fun _ => fin 0 (by rw [if_neg (fun q => hs q.2)]), fun q => absurd rfl q⟩
      · have ex : x3 = N := by omega
        subst ex
        refine hQ l2 z2 l3 ⟨fun m m0 m1 => ?_, hl3⟩
        have h5 := hag m m0 m1
        have h6 := b2 m m0 m1
        rw [← es]
        exact ⟨h5.1, h5.2, by omega, by omega, by omega⟩
    · obtain ⟨j, rfl⟩ : ∃ j, k = j + 1 := ⟨k - 1, by omega⟩
      have ej : x2 = (j : Int) := by omega
      subst ej
      have hj : (j : Int) < N := by omega
      have hnj := hna j (by omega) hj
      have e5 := hE j (by omega) hj
      have hb2 := pm_bd_stp (li := li) hj hnj hbd
      have hagj := hag j (by omega) hj
      obtain ⟨b, b0, b1, b2⟩ := hbd
      have hb := pm_bd_le b0 b1
      have hbj := b2 j (by omega) hj
      refine ⟨by omega, fun up hup => ?_⟩
      rw [e5.2.1] at hup
      subst hup
      refine ⟨⟨by omega, by omega⟩, pm_R0, fun hm => fun y hy => ?_, fun hm => ?_⟩
      · subst hy
        have e : pm_stp na li j s = s := by unfold pm_stp; rw [if_pos (by omega)]
        rw [e] at hb2
        exact hK2 _ _ _ ⟨j, s, by omega, by omega, hb2, by rw [← hsq]; show _ = pm_sq na li j (pm_stp na li j s); rw [e], hag⟩ (by omega)
      · have hup : 0 ≤ na j ∧ na j < j := by omega
        have hagu := hag (na j) hup.1 (by omega)
        have hbu := b2 (na j) hup.1 (by omega)
        have hz := pm_sz_in (li := li) (load := s.1 j) hbj.2
        have fin : ∀ v, v = pm_sz li (s.1 j) (s.2 j) → M_work_j91 N ma ms mu mm mv ml l2 z2 mo j (na j) j v Q Kh2 := by
          intro v hv
          subst hv
          refine ⟨by omega, fun z3 hz3 => ⟨by omega, by omega, by omega, fun l3 hl3 => ⟨by omega, ?_⟩⟩⟩
          have w1 : z3 (na j) = s.2 (na j) := by rw [hz3, pm_un (by omega)]; exact hagu.2
          have w2 : z3 j = pm_sz li (s.1 j) (s.2 j) := by rw [hz3, pm_us]
          have last : ∀ v, v = pm_wd (s.2 (na j)) (pm_sz li (s.1 j) (s.2 j)) → M_work_j164 N ma ms mu mm mv ml l3 z3 mo j (na j) v Q Kh2 := by
            intro v hv
            refine ⟨by omega, fun z4 hz4 => fun y hy => ?_⟩
            subst hy
            refine hK2 _ _ _ ⟨j, pm_stp na li j s, by omega, by omega, hb2, hsq, fun m m0 m1 => ?_⟩ (by omega)
            have hm5 := hag m m0 m1
            unfold pm_stp
            rw [if_neg (by omega), hl3, hz4, hz3, hv]
            dsimp only
            constructor
            · by_cases hmu : m = na j
              · rw [hmu, pm_us, pm_us, hagu.1, hagj.1]
              · rw [pm_un hmu, pm_un hmu]; exact hm5.1
            · by_cases hmu : m = na j
              · rw [hmu, pm_us, pm_us]
              · rw [pm_un hmu, pm_un hmu]
                by_cases hmj : m = j
                · rw [hmj, pm_us, pm_us]
                · rw [pm_un hmj, pm_un hmj]; exact hm5.2
          rw [w1]
          refine ⟨⟨by omega, by omega⟩, pm_R0, fun q1 => last _ (by unfold pm_wd; rw [if_pos (by omega)]), fun q1 => ⟨by omega, ?_⟩⟩
          rw [w2]
          refine ⟨⟨by omega, by omega⟩, pm_R0, fun q2 => last _ (by unfold pm_wd; rw [if_neg (by omega), if_pos (by omega)]), fun q2 => ⟨by omega, by omega, ⟨by omega, by omega⟩, ⟨by omega, by omega⟩, fun q3 => ⟨by omega, last _ ?_⟩, fun q3 => ⟨by omega, last _ ?_⟩⟩⟩
          · unfold pm_wd; rw [if_neg (by omega), if_neg (by omega)]; omega
          · unfold pm_wd; rw [if_neg (by omega), if_neg (by omega)]; omega
        refine ⟨by omega, ?_⟩
        rw [hagj.2]
        refine ⟨⟨by omega, by omega⟩, pm_R0, fun q => fin (-1) (by unfold pm_sz; rw [if_pos q]), fun q => ⟨by omega, by omega, ?_⟩⟩
        rw [hagj.1]
        exact sp_sizeForM hml hli ⟨by omega, by omega⟩ ⟨by omega, hbj.2.2⟩ (fin _ rfl)
/-- the two results are one -/
theorem pm_res_eq {N : Nat} {ld sz lo md mz mo : Int → Int} (hna : ∀ n, 0 ≤ n → n < (N : Int) → na n = -1 ∨ (0 ≤ na n ∧ na n < n)) (h : pm_res na ns nu rl N rv li ld sz lo) (h' : pm_res na ns nu rl N rv li md mz mo) : ∀ m, 0 ≤ m → m < (N : Int) → md m = ld m ∧ mz m = sz m ∧ mo m = lo m := by
  have lv : ∀ (k : Nat) (m : Int), 0 ≤ m → m < (N : Int) → m < k → mo m = lo m := by
    intro k
    induction k with
    | zero => intro m m0 _ m2; omega
    | succ k ih =>
      intro m m0 m1 m2
      rw [h.2 m m0 m1, h'.2 m m0 m1]
      by_cases hc : na m ≠ -1 ∧ ns m = 0
      · have := hna m m0 m1
        rw [if_pos hc, if_pos hc, ih (na m) (by omega) (by omega) (by omega)]
      · rw [if_neg hc, if_neg hc]
  intro m m0 m1
  have a1 := h.1 m m0 m1
  have a2 := h'.1 m m0 m1
  exact ⟨by rw [a1.1, a2.1], by rw [a1.2.1, a2.2.1], lv N m m0 m1 m1⟩
theorem pm_lv_bd {N : Nat} {ld sz lo : Int → Int} (hI : pm_NI nc na ns nu ai rl rc N) (hV : pm_V rv mv li ml) (h : pm_res na ns nu rl N rv li ld sz lo) : ∀ m, 0 ≤ m → m < (N : Int) → 0 ≤ lo m ∧ lo m ≤ 14300 * (m + 1) := by
  have lv : ∀ (k : Nat) (m : Int), 0 ≤ m → m < (N : Int) → m < k → 0 ≤ lo m ∧ lo m ≤ 14300 * (m + 1) := by
    intro k
    induction k with
    | zero => intro m m0 _ m2; omega
    | succ k ih =>
      intro m m0 m1 m2
      have hm := hI.2 m m0 m1
      rw [h.2 m m0 m1]
      by_cases hc : na m ≠ -1 ∧ ns m = 0
      · rw [if_pos hc]
        have h1 := ih (na m) (by omega) (by omega) (by omega)
        have h2 := (hm.2.2.2.2.2.2.1 hc.1).1
        have h3 := hV.2.1
        have h4 : 0 ≤ 5 * rv 0 * (rl m - 1) := Int.mul_nonneg (by omega) (by omega)
        have h5 : 5 * rv 0 * (rl m - 1) ≤ 100 * 143 := Int.mul_le_mul (by omega) (by omega) (by omega) (by decide)
        omega
      · rw [if_neg hc]; omega
  exact fun m m0 m1 => lv N m m0 m1 m1
end PMW
