/-! bars -/
section PNA
def pm_gw (bar l w : Int) : Int := if bar < l then w + l / bar else w
def pm_gr (bar l : Int) : Int := if bar < l then l % bar else l
def pm_gs (bar l : Int) (s : (Int → Int) × Int × Int × Int) : (Int → Int) × Int × Int × Int := if pm_gr bar l = 0 then (s.1, s.2.1, pm_gw bar l s.2.2.1, s.2.2.2) else (ph_u s.1 s.2.1 (pm_gr bar l), s.2.1 + 1, pm_gw bar l s.2.2.1, s.2.2.2 + pm_gr bar l)
def pm_g3 (na rl sz : Int → Int) (sq bar : Int) : Nat → (Int → Int) × Int × Int × Int
  | 0 => (fun _ => 0, 0, 0, 0)
  | k + 1 => if na k ≠ -1 ∧ sz k = sq then pm_gs bar (pm_lg na rl k) (pm_g3 na rl sz sq bar k) else pm_g3 na rl sz sq bar k
def pm_ro (bar : Int) (k : Int) (s : (Int → Int) × Int × Int × Int) : Prop := (0 ≤ s.2.1 ∧ s.2.1 ≤ k) ∧ (0 ≤ s.2.2.1 ∧ s.2.2.1 ≤ 7150 * k) ∧ (0 ≤ s.2.2.2 ∧ s.2.2.2 ≤ 7150 * k) ∧ ∀ i : Nat, (i : Int) < s.2.1 → 1 ≤ s.1 i ∧ s.1 i ≤ bar
def pm_rd (s : (Int → Int) × Int × Int × Int) (pi : Int → Int) (ps wb lp : Int) : Prop := ps = s.2.1 ∧ wb = s.2.2.1 ∧ lp = s.2.2.2 ∧ ∀ i : Nat, i < 12 → (i : Int) < s.2.1 → pi i = s.1 i
def pm_rm (bar : Int) (s : (Int → Int) × Int × Int × Int) (mq : Int → Int) (mt x4 x5 : Int) : Prop := mt = s.2.1 ∧ x4 = s.2.2.1 ∧ x5 = s.2.2.1 * bar + s.2.2.2 ∧ ∀ i : Nat, (i : Int) < s.2.1 → mq i = s.1 i
theorem pm_g_in {bar l : Int} (hbar : 50 ≤ bar ∧ bar ≤ 2000) (hl : 0 ≤ l ∧ l ≤ 7150) : (0 ≤ pm_gr bar l ∧ pm_gr bar l ≤ bar ∧ pm_gr bar l ≤ 7150) ∧ (∀ w, w ≤ pm_gw bar l w ∧ pm_gw bar l w ≤ w + 7150) ∧ ∀ w, pm_gw bar l w * bar + pm_gr bar l = w * bar + l := by
  have h1 : 0 ≤ l / bar := Int.ediv_nonneg hl.1 (by omega)
  have h2 : l / bar ≤ l := Int.ediv_le_self _ hl.1
  have h3 := Int.emod_nonneg l (show bar ≠ 0 by omega)
  have h4 := Int.emod_lt_of_pos l (show 0 < bar by omega)
  have h5 := Int.mul_ediv_add_emod l bar
  unfold pm_gr pm_gw
  by_cases c : bar < l
  · simp only [if_pos c]
    refine ⟨by omega, fun w => by omega, fun w => ?_⟩
    rw [Int.add_mul, Int.mul_comm (l / bar) bar]
    omega
  · simp only [if_neg c]
    exact ⟨by omega, fun w => by omega, fun w => trivial⟩
theorem pm_gs_ok {bar l k : Int} {s : (Int → Int) × Int × Int × Int} (hbar : 50 ≤ bar ∧ bar ≤ 2000) (hl : 0 ≤ l ∧ l ≤ 7150) (h : pm_ro bar k s) : pm_ro bar (k + 1) (pm_gs bar l s) := by
  obtain ⟨h1, h2, h3, h4⟩ := h
  obtain ⟨g1, g2, g3⟩ := pm_g_in hbar hl
  have g4 := g2 s.2.2.1
  unfold pm_gs
  by_cases c : pm_gr bar l = 0
  · rw [if_pos c]
    exact ⟨by show 0 ≤ s.2.1 ∧ s.2.1 ≤ k + 1; omega, by show 0 ≤ pm_gw bar l s.2.2.1 ∧ pm_gw bar l s.2.2.1 ≤ 7150 * (k + 1); omega, by show 0 ≤ s.2.2.2 ∧ s.2.2.2 ≤ 7150 * (k + 1); omega, h4⟩
  · rw [if_neg c]
    refine ⟨by show 0 ≤ s.2.1 + 1 ∧ s.2.1 + 1 ≤ k + 1; omega, by show 0 ≤ pm_gw bar l s.2.2.1 ∧ pm_gw bar l s.2.2.1 ≤ 7150 * (k + 1); omega, by show 0 ≤ s.2.2.2 + pm_gr bar l ∧ s.2.2.2 + pm_gr bar l ≤ 7150 * (k + 1); omega, fun i hi => ?_⟩
    have hi2 : (i : Int) < s.2.1 + 1 := hi
    show 1 ≤ ph_u s.1 s.2.1 (pm_gr bar l) i ∧ ph_u s.1 s.2.1 (pm_gr bar l) i ≤ bar
    by_cases e : (i : Int) = s.2.1
    · rw [e, pm_us]; omega
    · rw [pm_un e]; exact h4 i (by omega)
variable {nc na ns nu ai rl rc mc ma ms mu mi mr mm : Int → Int} {nn mn : Int} {rv mv li ml : Int → Int}
theorem pm_g3_ok {N : Nat} {sz : Int → Int} {sq bar : Int} (hI : pm_NI nc na ns nu ai rl rc N) (hbar : 50 ≤ bar ∧ bar ≤ 2000) : ∀ k : Nat, k ≤ N → pm_ro bar k (pm_g3 na rl sz sq bar k)
  | 0, _ => ⟨by show (0 : Int) ≤ 0 ∧ (0 : Int) ≤ 0; omega, by show (0 : Int) ≤ 0 ∧ (0 : Int) ≤ 7150 * 0; omega, by show (0 : Int) ≤ 0 ∧ (0 : Int) ≤ 7150 * 0; omega, fun i hi => by have h2 : (i : Int) < 0 := hi; omega⟩
  | k + 1, hk => by
    have ih := pm_g3_ok (sz := sz) (sq := sq) hI hbar k (by omega)
    have hl := pm_lg_bd hI (n := (k : Int)) (by omega) (by omega)
    have e : (((k + 1 : Nat) : Int)) = (k : Int) + 1 := by omega
    rw [e]
    show pm_ro bar ((k : Int) + 1) (if na k ≠ -1 ∧ sz k = sq then pm_gs bar (pm_lg na rl k) (pm_g3 na rl sz sq bar k) else pm_g3 na rl sz sq bar k)
    split
    · exact pm_gs_ok hbar hl ih
    · exact ⟨by have := ih.1; omega, by have := ih.2.1; omega, by have := ih.2.2.1; omega, ih.2.2.2⟩
theorem sp_takeS {bar l k : Int} {s : (Int → Int) × Int × Int × Int} {pi : Int → Int} {ps wb lp : Int} {Q : (Int → Int) → Int → Int → Int → Prop} (hbar : 50 ≤ bar ∧ bar ≤ 2000) (hl : 0 ≤ l ∧ l ≤ 7150) (hk : 0 ≤ k ∧ k ≤ 24) (ho : pm_ro bar k s) (h : pm_rd s pi ps wb lp) (hQ : ∀ pi' ps' wb' lp', pm_rd (pm_gs bar l s) pi' ps' wb' lp' → Q pi' ps' wb' lp') : S_take_wp pi ps wb lp bar l Q := by
  obtain ⟨h1, h2, h3, h4⟩ := h
  obtain ⟨o1, o2, o3, o4⟩ := ho
  obtain ⟨⟨g1, g2, g3⟩, g4, g5⟩ := pm_g_in hbar hl
  subst h1; subst h2; subst h3
  have last : ∀ w r, w = pm_gw bar l s.2.2.1 → r = pm_gr bar l → S_take_j39 pi s.2.1 w s.2.2.2 bar r Q := by
    intro w r hw hr
    subst hw; subst hr
    refine ⟨⟨by omega, by omega⟩, pm_R0, fun c => hQ _ _ _ _ ?_, fun c => ⟨⟨by omega, by omega⟩, ⟨by decide, by decide⟩, fun f => ⟨by omega, fun p2 hp2 => fun l2 hl2 => fun t2 ht2 => hQ _ _ _ _ ?_⟩, fun f => fun l2 hl2 => fun t2 ht2 => hQ _ _ _ _ ?_⟩⟩
    · unfold pm_gs; rw [if_pos c]; exact ⟨rfl, rfl, rfl, h4⟩
    · unfold pm_gs; rw [if_neg c]
      refine ⟨ht2, rfl, hl2, fun i i12 hi => ?_⟩
      have hi2 : (i : Int) < s.2.1 + 1 := hi
      show p2 i = ph_u s.1 s.2.1 (pm_gr bar l) i
      rw [hp2]
      by_cases e : (i : Int) = s.2.1
      · rw [e, pm_us, pm_us]
      · rw [pm_un e, pm_un e]; exact h4 i i12 (by omega)
    · unfold pm_gs; rw [if_neg c]
      refine ⟨ht2, rfl, hl2, fun i i12 hi => ?_⟩
      show pi i = ph_u s.1 s.2.1 (pm_gr bar l) i
      rw [pm_un (by omega)]; exact h4 i i12 (by omega)
  refine ⟨pm_R0, ⟨by omega, by omega⟩, fun _ => ⟨⟨by omega, by omega⟩, ⟨by omega, by omega⟩, fun c => ?_, fun c => ?_⟩, fun z => by omega⟩
  · have dv : (0 ≤ l ∧ ph_R l) ∧ 0 < bar ∧ ph_R bar := ⟨⟨hl.1, by omega, by omega⟩, by omega, by omega, by omega⟩
    refine ⟨dv, fun w hw => ⟨dv, fun r hr => last w r ?_ ?_⟩⟩
    · unfold pm_gw; rw [if_pos c]; exact hw
    · unfold pm_gr; rw [if_pos c]; exact hr
  · refine last _ _ ?_ ?_
    · unfold pm_gw; rw [if_neg c]
    · unfold pm_gr; rw [if_neg c]
theorem sp_gather {N : Nat} {sz : Int → Int} {sq bar : Int} {pi : Int → Int} {ps wb lp ba : Int} {Q : (Int → Int) → Int → Int → Int → Int → Prop} (hI : pm_NI nc na ns nu ai rl rc N) (hs : ph_R sq) (hz : ∀ m, 0 ≤ m → m < (N : Int) → -1 ≤ sz m ∧ sz m ≤ 5) (hbar : 50 ≤ bar ∧ bar ≤ 2000) (hQ : ∀ pi' ps' wb' lp', pm_rd (pm_g3 na rl sz sq bar N) pi' ps' wb' lp' → Q pi' ps' wb' lp' bar) : S_gather_wp na rl N sz pi ps wb lp ba sq bar Q := by
  have hn := hI.1
  refine pm_l5 (fun (x : Int) (pi : Int → Int) (ps wb lp : Int) => ∃ k : Nat, (x = (k : Int) ∧ k ≤ N) ∧ pm_rd (pm_g3 na rl sz sq bar k) pi ps wb lp) (fun (x : Int) _ _ _ _ => ((N : Int) - x).toNat) ?_ 0 pi 0 0 0 ⟨0, ⟨rfl, Nat.zero_le _⟩, rfl, rfl, rfl, fun i _ hi => by have h2 : (i : Int) < 0 := hi; omega⟩
  intro Kh x pi ps wb lp ⟨k, ⟨ex, hk⟩, hr⟩ hK
  subst ex
  refine ⟨⟨by omega, by omega⟩, ⟨by omega, by omega⟩, fun hlt => ?_, fun hge => ?_⟩
  · have h5 := hI.2 k (by omega) (by omega)
    have h6 := hz k (by omega) (by omega)
    have hl := pm_lg_bd hI (n := (k : Int)) (by omega) (by omega)
    have hx : 0 ≤ (k : Int) ∧ (k : Int) < 24 := by omega
    have e : pm_g3 na rl sz sq bar (k + 1) = if na k ≠ -1 ∧ sz k = sq then pm_gs bar (pm_lg na rl k) (pm_g3 na rl sz sq bar k) else pm_g3 na rl sz sq bar k := rfl
    have skip : ¬ (na k ≠ -1 ∧ sz k = sq) → ∀ y, y = (k : Int) + 1 → Kh y pi ps wb lp := by
      intro c y hy
      subst hy
      rw [if_neg c] at e
      exact hK _ _ _ _ _ ⟨k + 1, ⟨by omega, by omega⟩, by rw [e]; exact hr⟩ (by omega)
    refine ⟨hx, ⟨by omega, by omega⟩, ⟨by decide, by decide⟩, fun q => ⟨Or.inr rfl, pm_eq1 (skip (fun z => z.1 q))⟩, fun q => ⟨Or.inl rfl, pm_eq0 ⟨hx, ⟨by omega, by omega⟩, hs, fun q2 => ?_, fun q2 => skip (fun z => q2 z.2)⟩⟩⟩
    rw [if_pos ⟨q, q2⟩] at e
    refine sp_lengthOf hI (by omega) (by omega) (sp_takeS hbar hl (show 0 ≤ (k : Int) ∧ (k : Int) ≤ 24 by omega) (pm_g3_ok hI hbar k hk) hr (fun pi' ps' wb' lp' hr' => fun y hy => ?_))
    subst hy
    exact hK _ _ _ _ _ ⟨k + 1, ⟨by omega, by omega⟩, by rw [e]; exact hr'⟩ (by omega)
  · have ek : k = N := by omega
    rw [ek] at hr
    exact hQ pi ps wb lp hr
theorem sp_gatherM {N : Nat} {sz md mz mo me mx mq : Int → Int} {sq bar x2 : Int} {Ke : Int → Int → Int → (Int → Int) → Int → Prop} {Q : Int → (Int → Int) → (Int → Int) → (Int → Int) → (Int → Int) → Int → (Int → Int) → (Int → Int) → Prop} (hI : pm_NI nc na ns nu ai rl rc N) (hE : pm_NE nc na ns nu ai rl rc N mn mc ma ms mu mi mr mm) (hs : ph_R sq) (hz : ∀ m, 0 ≤ m → m < (N : Int) → -1 ≤ sz m ∧ sz m ≤ 5) (hmz : ∀ m, 0 ≤ m → m < (N : Int) → mz m = sz m) (hbar : 50 ≤ bar ∧ bar ≤ 2000) (hQ : ∀ x4 x5 mq' mt', pm_rm bar (pm_g3 na rl sz sq bar N) mq' mt' x4 x5 → Ke x4 x5 (pm_fo (fun a k => a + pm_b (na k ≠ -1 ∧ sz k = sq)) 0 N) mq' mt') : ∃ kk, ph_it (fun _ _ _ _ _ _ => False) (M_bars_l56 mn ma ms mu mm mv ml md mz mo me mx sq x2 bar Ke Q) kk 0 0 0 0 mq 0 := by
  have hn := hI.1
  have em := hE.1
  refine pm_l6 (fun (x4 x5 x6 x : Int) (mq : Int → Int) (mt : Int) => ∃ k : Nat, (x = (k : Int) ∧ k ≤ N) ∧ x6 = pm_fo (fun a k => a + pm_b (na k ≠ -1 ∧ sz k = sq)) 0 k ∧ pm_rm bar (pm_g3 na rl sz sq bar k) mq mt x4 x5) (fun (_ _ _ x : Int) _ _ => ((N : Int) - x).toNat) ?_ 0 0 0 0 mq 0 ⟨0, ⟨rfl, Nat.zero_le _⟩, rfl, rfl, rfl, by show (0 : Int) = 0 * bar + 0; omega, fun i hi => by have h2 : (i : Int) < 0 := hi; omega⟩
  intro Kh x4 x5 x6 x mq mt ⟨k, ⟨ex, hk⟩, e6, hr⟩ hK
  subst ex
  refine ⟨⟨by omega, by omega⟩, ⟨by omega, by omega⟩, fun hlt => ?_, fun hge => ?_⟩
  · have h5 := hI.2 k (by omega) (by omega)
    have e5 := hE.2 k (by omega) (by omega)
    have h6 := hz k (by omega) (by omega)
    have ez := hmz k (by omega) (by omega)
    have hl := pm_lg_bd hI (n := (k : Int)) (by omega) (by omega)
    have a1 := e5.2.1
    have hx : 0 ≤ (k : Int) ∧ (k : Int) < 24 := by omega
    have e : pm_g3 na rl sz sq bar (k + 1) = if na k ≠ -1 ∧ sz k = sq then pm_gs bar (pm_lg na rl k) (pm_g3 na rl sz sq bar k) else pm_g3 na rl sz sq bar k := rfl
    have ef : pm_fo (fun a k => a + pm_b (na k ≠ -1 ∧ sz k = sq)) 0 (k + 1) = pm_fo (fun a k => a + pm_b (na k ≠ -1 ∧ sz k = sq)) 0 k + pm_b (na k ≠ -1 ∧ sz k = sq) := rfl
    have skip : ¬ (na k ≠ -1 ∧ sz k = sq) → ∀ y, y = (k : Int) + 1 → Kh x4 x5 x6 y mq mt := by
      intro c y hy
      subst hy
      rw [if_neg c] at e
      rw [pm_b_f c] at ef
      exact hK _ _ _ _ _ _ ⟨k + 1, ⟨by omega, by omega⟩, by omega, by rw [e]; exact hr⟩ (by omega)
    refine ⟨hx, ⟨by omega, by omega⟩, pm_R0, fun q => skip (fun z => z.1 (by omega)), fun q => ⟨hx, ⟨by omega, by omega⟩, hs, fun q2 => ?_, fun q2 => skip (fun z => q2 (by omega))⟩⟩
    have cc : na k ≠ -1 ∧ sz k = sq := ⟨by omega, by omega⟩
    rw [if_pos cc] at e
    rw [pm_b_t cc] at ef
    obtain ⟨r1, r2, r3, r4⟩ := hr
    obtain ⟨o1, o2, o3, o4⟩ := pm_g3_ok (sz := sz) (sq := sq) hI hbar k hk
    obtain ⟨⟨g1, g2, g3⟩, g4, g5⟩ := pm_g_in hbar hl
    refine sp_lengthOfM hI hE (by omega) (by omega) (fun x6' h6' => fun x5' h5' => ?_)
    have last : ∀ w r, w = pm_gw bar (pm_lg na rl k) (pm_g3 na rl sz sq bar k).2.2.1 → r = pm_gr bar (pm_lg na rl k) → M_bars_j129 mn ma ms mu mm mv ml md mz mo mq mt me mx sq x2 bar w x5' x6' k r Q Kh := by
      intro w r hw hr
      have g6 := g5 (pm_g3 na rl sz sq bar k).2.2.1
      rw [← hw, ← hr] at g6
      have e5' : x5' = w * bar + ((pm_g3 na rl sz sq bar k).2.2.2 + r) := by omega
      refine ⟨pm_R0, ⟨by omega, by omega⟩, fun c => ⟨by omega, fun m2 hm2 => fun t2 ht2 => fun y hy => ?_⟩, fun c => fun y hy => ?_⟩
      · subst hy
        refine hK _ _ _ _ _ _ ⟨k + 1, ⟨by omega, by omega⟩, by omega, ?_⟩ (by omega)
        rw [e]; unfold pm_gs; rw [if_neg (by omega)]
        refine ⟨by show t2 = _ + 1; omega, hw, ?_, fun i hi => ?_⟩
        · show x5' = pm_gw bar (pm_lg na rl k) (pm_g3 na rl sz sq bar k).2.2.1 * bar + ((pm_g3 na rl sz sq bar k).2.2.2 + pm_gr bar (pm_lg na rl k))
          rw [← hw, ← hr]; exact e5'
        · have hi2 : (i : Int) < (pm_g3 na rl sz sq bar k).2.1 + 1 := hi
          show m2 i = ph_u (pm_g3 na rl sz sq bar k).1 (pm_g3 na rl sz sq bar k).2.1 (pm_gr bar (pm_lg na rl k)) i
          rw [hm2, r1, hr]
          by_cases ei : (i : Int) = (pm_g3 na rl sz sq bar k).2.1
          · rw [ei, pm_us, pm_us]
          · rw [pm_un ei, pm_un ei]; exact r4 i (by omega)
      · subst hy
        refine hK _ _ _ _ _ _ ⟨k + 1, ⟨by omega, by omega⟩, by omega, ?_⟩ (by omega)
        rw [e]; unfold pm_gs; rw [if_pos (by omega)]
        refine ⟨r1, hw, ?_, r4⟩
        show x5' = pm_gw bar (pm_lg na rl k) (pm_g3 na rl sz sq bar k).2.2.1 * bar + (pm_g3 na rl sz sq bar k).2.2.2
        rw [← hw]; omega
    refine ⟨⟨by omega, by omega⟩, ⟨by omega, by omega⟩, fun c => ?_, fun c => last _ _ ?_ ?_⟩
    · have dv : (0 ≤ pm_lg na rl k ∧ ph_R (pm_lg na rl k)) ∧ 0 < bar ∧ ph_R bar := ⟨⟨hl.1, by omega, by omega⟩, by omega, by omega, by omega⟩
      refine ⟨dv, fun w hw => ⟨dv, fun r hr => last w r ?_ ?_⟩⟩
      · unfold pm_gw; rw [if_pos c]; omega
      · unfold pm_gr; rw [if_pos c]; exact hr
    · unfold pm_gw; rw [if_neg c]; omega
    · unfold pm_gr; rw [if_neg c]
  · have ek : k = N := by omega
    rw [ek] at hr e6
    rw [e6]
    exact hQ x4 x5 mq mt hr
theorem pm_bars {ld sz lo pi be md mz mo mq me mx : Int → Int} {ri ps wb lp ba mt a b : Int} {K : Int → Int → (Int → Int) → (Int → Int) → (Int → Int) → Int → (Int → Int) → (Int → Int) → Int → Int → Int → Int → (Int → Int) → (Int → Int) → (Int → Int) → (Int → Int) → Int → (Int → Int) → (Int → Int) → Prop} (hN : pm_N nc na ns nu ai rl rc nn mn mc ma ms mu mi mr mm) (hV : pm_V rv mv li ml) (ha : ph_R a) (hb : ph_R b)
    (hK : ∀ r ld' sz' lo' ri' pi' be' ps' wb' lp' ba' md' mz' mo' mq' mt' me' mx', ph_R r → K r r ld' sz' lo' ri' pi' be' ps' wb' lp' ba' md' mz' mo' mq' mt' me' mx') :
    H_bars_wp na ns nu rl nn rv li ld sz lo ri pi be ps wb lp ba a b (fun r ld' sz' lo' ri' pi' be' ps' wb' lp' ba' => M_bars_wp mn ma ms mu mm mv ml md mz mo mq mt me mx a b (fun r' md' mz' mo' mq' mt' me' mx' => K r r' ld' sz' lo' ri' pi' be' ps' wb' lp' ba' md' mz' mo' mq' mt' me' mx')) := by
  obtain ⟨hI, hE⟩ := hN
  have hnn := hI.1
  obtain ⟨N, rfl⟩ : ∃ N : Nat, nn = (N : Int) := ⟨nn.toNat, by omega⟩
  have hN24 : N ≤ 24 := by omega
  have em := hE.1
  have hbar := hV.2.2.2.2.1
  have no : ph_R (-1002) := ⟨by decide, by decide⟩
  have no3 : ph_R (-1003) := ⟨by decide, by decide⟩
  have R3 : ph_R 3 := ⟨by decide, by decide⟩
  refine sp_isOut ha ⟨by decide, by decide⟩ (fun h1 => pm_eq0 (sp_isOut hb ⟨by decide, by decide⟩ (fun h2 => pm_eq0 ?_) (fun h2 => pm_eq1 ?_))) (fun h1 => pm_eq1 ?_)
  · refine sp_settle hN24 hI hV (fun ld' sz' lo' hres => ?_)
    have hsz : ∀ m, 0 ≤ m → m < (N : Int) → -1 ≤ sz' m ∧ sz' m ≤ 5 := fun m m0 m1 => (hres.1 m m0 m1).2.2.2
    have hcb := pm_fo_bd (g := fun a2 k => a2 + pm_b (na k ≠ -1 ∧ sz' k = a)) (a := 0) (c := 1) (n := N) (fun k a2 hk => by
      have := pm_b_01 (na (k : Int) ≠ -1 ∧ sz' (k : Int) = a)
      try dsimp only
      omega)
    have top : ∀ (v : Int) (pi' be' : Int → Int) (ps' wb' lp' ba' : Int), (∀ md' mz' mo' x4 x5 mq' mt', pm_rm (rv 3) (pm_g3 na rl sz' a (rv 3) N) mq' mt' x4 x5 → ph_eq b 0 (M_bars_j170 mn ma ms mu mm mv ml md' mz' mo' mq' mt' me mx b (pm_fo (fun a2 k => a2 + pm_b (na k ≠ -1 ∧ sz' k = a)) 0 N) (fun r' md' mz' mo' mq' mt' me' mx' => K v r' ld' sz' lo' (5 * rv 0) pi' be' ps' wb' lp' ba' md' mz' mo' mq' mt' me' mx')) (ph_eq b 3 (M_bars_j170 mn ma ms mu mm mv ml md' mz' mo' mq' mt' me mx b (pm_fo (fun a2 k => a2 + pm_b (na k ≠ -1 ∧ sz' k = a)) 0 N) (fun r' md' mz' mo' mq' mt' me' mx' => K v r' ld' sz' lo' (5 * rv 0) pi' be' ps' wb' lp' ba' md' mz' mo' mq' mt' me' mx')) (ph_lt 12 mt' (K v (-1003) ld' sz' lo' (5 * rv 0) pi' be' ps' wb' lp' ba' md' mz' mo' mq' mt' me mx) (M_fewestBars_wp mv mq' mt' me mx (fun r_200 me_200 mx_200 => ph_nm (x4 + r_200) (fun x7_204 => ph_eq b 1 (K v x7_204 ld' sz' lo' (5 * rv 0) pi' be' ps' wb' lp' ba' md' mz' mo' mq' mt' me_200 mx_200) (K v ((x7_204 * rv 3) - x5) ld' sz' lo' (5 * rv 0) pi' be' ps' wb' lp' ba' md' mz' mo' mq' mt' me_200 mx_200))))))) → M_bars_wp mn ma ms mu mm mv ml md mz mo mq mt me mx a b (fun r' md' mz' mo' mq' mt' me' mx' => K v r' ld' sz' lo' (5 * rv 0) pi' be' ps' wb' lp' ba' md' mz' mo' mq' mt' me' mx') := by
      intro v pi' be' ps' wb' lp' ba' hh
      refine ⟨ha, sp_in ha pm_R0 ⟨by decide, by decide⟩ (fun _ => pm_eq1 ⟨hb, sp_in hb pm_R0 R3 (fun _ => pm_eq1 ?_) (fun q => absurd h2 q)⟩) (fun q => absurd h1 q)⟩
      refine sp_work hN24 hI hE hV (fun md' mz' mo' hres' => ⟨by decide, fun x3 h3 => ?_⟩)
      have h3s := (h3.trans (hV.1 3 (by decide) (by decide))).symm
      subst h3s
      have he := pm_res_eq (fun n n0 n1 => (hI.2 n n0 n1).2.1) hres hres'
      exact sp_gatherM hI hE ha hsz (fun m m0 m1 => (he m m0 m1).2.1) hbar (fun x4 x5 mq' mt' hr => hh md' mz' mo' x4 x5 mq' mt' hr)
    have ho := pm_g3_ok (sz := sz') (sq := a) hI hbar N (Nat.le_refl _)
    refine ⟨hb, R3, fun b3 => ?_, fun b3 => ⟨by decide, ?_⟩⟩
    · refine sp_noSize hI ha hsz (fun n => pm_b (na n ≠ -1 ∧ sz' n = a)) (fun _ => rfl) ?_
      refine top _ _ _ _ _ _ _ (fun md' mz' mo' x4 x5 mq' mt' hr => ⟨hb, pm_R0, fun z => by omega, fun _ => ⟨hb, R3, fun _ => ⟨hb, pm_R0, fun z => by omega, fun _ => ?_⟩, fun z => absurd b3 z⟩⟩)
      exact hK _ _ _ _ _ _ _ _ _ _ _ _ _ _ _ _ _ _ ⟨by omega, by omega⟩
    · refine sp_gather hI ha hsz hbar (fun pi' ps' wb' lp' hr => ?_)
      obtain ⟨r1, r2, r3, r4⟩ := hr
      obtain ⟨o1, o2, o3, o4⟩ := ho
      refine ⟨hb, pm_R0, fun b0 => ?_, fun b0 => ⟨⟨by decide, by decide⟩, ⟨by omega, by omega⟩, fun big => ⟨Or.inr rfl, pm_eq1 ?_⟩, fun big => ⟨Or.inl rfl, pm_eq0 ?_⟩⟩⟩
      · refine top _ _ _ _ _ _ _ (fun md' mz' mo' x4 x5 mq' mt' hr => ⟨hb, pm_R0, fun _ => ⟨hb, pm_R0, fun _ => ?_, fun z => absurd b0 z⟩, fun z => absurd b0 z⟩)
        rw [hr.1, r1]
        exact hK _ _ _ _ _ _ _ _ _ _ _ _ _ _ _ _ _ _ ⟨by omega, by omega⟩
      · refine top _ _ _ _ _ _ _ (fun md' mz' mo' x4 x5 mq' mt' hr => ⟨hb, pm_R0, fun z => absurd z b0, fun _ => ⟨hb, R3, fun z => absurd z b3, fun _ => ⟨⟨by decide, by decide⟩, ⟨by rw [hr.1]; omega, by rw [hr.1]; omega⟩, fun _ => ?_, fun z => absurd (by rw [hr.1, ← r1]; exact big) z⟩⟩⟩)
        exact hK _ _ _ _ _ _ _ _ _ _ _ _ _ _ _ _ _ _ no3
      · obtain ⟨t, et⟩ : ∃ t : Nat, ps' = (t : Int) := ⟨ps'.toNat, by omega⟩
        have ht : t ≤ 12 := by omega
        have hpi : ∀ i : Nat, i < t → pi' i = (pm_g3 na rl sz' a (rv 3) N).1 i := fun i hi => r4 i (by omega) (by omega)
        have hq : ∀ i : Nat, i < t → 1 ≤ (pm_g3 na rl sz' a (rv 3) N).1 i ∧ (pm_g3 na rl sz' a (rv 3) N).1 i ≤ rv 3 := fun i hi => o4 i (by omega)
        have hpw := pm_pow_bd ht
        -- the model's answer
        have fin : ∀ (be' : Int → Int) (v : Int), pm_dp (pm_g3 na rl sz' a (rv 3) N).1 (rv 3) t (2 ^ t) be' → (0 ≤ be' ((2 ^ t - 1 : Nat) : Int) ∧ be' ((2 ^ t - 1 : Nat) : Int) ≤ 53248) → (b = 1 → v = wb' + be' ((2 ^ t - 1 : Nat) : Int) / 4096) → (b = 2 → v = be' ((2 ^ t - 1 : Nat) : Int) / 4096 * rv 3 - lp') → M_bars_wp mn ma ms mu mm mv ml md mz mo mq mt me mx a b (fun r' md' mz' mo' mq' mt' me' mx' => K v r' ld' sz' lo' (5 * rv 0) pi' be' ps' wb' lp' (rv 3) md' mz' mo' mq' mt' me' mx') := by
          intro be' v hd hbd v1 v2
          refine top _ _ _ _ _ _ _ (fun md' mz' mo' x4 x5 mq' mt' hr => ⟨hb, pm_R0, fun z => absurd z b0, fun _ => ⟨hb, R3, fun z => absurd z b3, fun _ => ?_⟩⟩)
          obtain ⟨w1, w2, w3, w4⟩ := hr
          have emt : mt' = (t : Int) := by omega
          subst emt
          refine ⟨⟨by decide, by decide⟩, ⟨by omega, by omega⟩, fun z => by omega, fun _ => ?_⟩
          refine sp_fewest ht (fun i hi => w4 i (by omega)) hq hbar (hV.1 3 (by decide) (by decide)) (fun me' mx' hd' hok => fun x7 h7 => ?_)
          have eu := pm_dp_un hd hd' (2 ^ t - 1) (by omega)
          unfold pm_E at eu
          obtain ⟨⟨k1, k2⟩, k3, k4⟩ := hok
          have k5 := pm_pc_le 12 (2 ^ t - 1)
          have ev : be' ((2 ^ t - 1 : Nat) : Int) / 4096 = me' ((2 ^ t - 1 : Nat) : Int) := by rw [eu]; omega
          rw [ev] at v1 v2
          have m0 : 0 ≤ me' ((2 ^ t - 1 : Nat) : Int) * rv 3 := Int.mul_nonneg k1 (by omega)
          have m1 : me' ((2 ^ t - 1 : Nat) : Int) * rv 3 ≤ 12 * 2000 := Int.mul_le_mul (by omega) (by omega) (by omega) (by decide)
          refine ⟨hb, pm_R1, fun b1 => ?_, fun b1 => ?_⟩
          · have e : x7 = v := by rw [v1 b1]; omega
            rw [e]
            exact hK _ _ _ _ _ _ _ _ _ _ _ _ _ _ _ _ _ _ ⟨by rw [v1 b1]; omega, by rw [v1 b1]; omega⟩
          · have e : x7 * rv 3 - x5 = v := by
              rw [v2 (by omega), h7, w3, Int.add_mul, w2, r3]; omega
            rw [e]
            exact hK _ _ _ _ _ _ _ _ _ _ _ _ _ _ _ _ _ _ ⟨by rw [v2 (by omega)]; omega, by rw [v2 (by omega)]; omega⟩
        subst et
        refine ⟨hb, pm_R1, fun b1 => ?_, fun b1 => ?_⟩
        · exact sp_barsFor ht hpi hq hbar (fun be' hd hbd => fin be' _ hd hbd (fun _ => rfl) (fun z => by omega))
        · exact sp_barsFor ht hpi hq hbar (fun be' hd hbd => fin be' _ hd hbd (fun z => absurd z b1) (fun _ => rfl))
  · exact ⟨ha, sp_in ha pm_R0 ⟨by decide, by decide⟩ (fun _ => pm_eq1 ⟨hb, sp_in hb pm_R0 R3 (fun q => absurd q h2) (fun _ => pm_eq0 (hK _ _ _ _ _ _ _ _ _ _ _ _ _ _ _ _ _ _ no))⟩) (fun q => absurd h1 q)⟩
  · exact ⟨ha, sp_in ha pm_R0 ⟨by decide, by decide⟩ (fun q => absurd q h1) (fun _ => pm_eq0 (hK _ _ _ _ _ _ _ _ _ _ _ _ _ _ _ _ _ _ no))⟩
end PNA
