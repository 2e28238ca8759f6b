/-! runs that meet, as the model tells them -/
section PMX
variable {nc na ns nu ai rl rc mc ma ms mu mi mr mm lo mo mv : Int → Int} {mn : Int} {ri cv : Int} {N : Nat}
theorem pm_cc_R (hI : pm_NI nc na ns nu ai rl rc N) {a b : Int} (h : 0 ≤ a ∧ a < (N : Int)) {x : Int} (hx : pm_lz (pm_TA rl rc lo ri cv a b) (fun j => rc (a * 144 + j)) (rl a) x) : -1 ≤ x ∧ x < 144 :=
  pm_lz_R (fun k k0 k1 => (hI.2 a h.1 h.2).2.2.2.2.2.2.2.1 k k0 k1) hx
theorem sp_placeIn (hI : pm_NI nc na ns nu ai rl rc N) (hE : pm_NE nc na ns nu ai rl rc N mn mc ma ms mu mi mr mm) {b c : Int} {Q : Int → Prop} (h : 0 ≤ b ∧ b < (N : Int)) (hc : 0 ≤ c ∧ c < 144) (hQ : ∀ r, (r = -1 ∧ ∀ k, 0 ≤ k → k < rl b → rc (b * 144 + k) ≠ c) ∨ ((0 ≤ r ∧ r < rl b) ∧ rc (b * 144 + r) = c) → Q r) : M_placeIn_wp mr mm b c Q := by
  have hn := hI.1
  have h5 := hI.2 b h.1 h.2
  have e5 := hE.2 b h.1 h.2
  have hb := pm_rl_bd hI h.1 h.2
  have em := e5.2.2.2.2.2.1
  have hx : 0 ≤ b ∧ b < 24 := by omega
  refine pm_l2 (fun (v x : Int) => (0 ≤ x ∧ x ≤ rl b) ∧ ((v = -1 ∧ ∀ k, 0 ≤ k → k < x → rc (b * 144 + k) ≠ c) ∨ ((0 ≤ v ∧ v < rl b) ∧ rc (b * 144 + v) = c))) (fun (_ x : Int) => (rl b - x).toNat) ?_ (-1) 0 ⟨by omega, Or.inl ⟨rfl, fun k k0 k1 => by omega⟩⟩
  intro Kh v x ⟨hx1, hm⟩ hK
  refine ⟨hx, ⟨by omega, by omega⟩, ⟨by omega, by omega⟩, fun hlt => ?_, fun hge => ?_⟩
  · have hc2 := h5.2.2.2.2.2.2.2.1 x hx1.1 (by omega)
    have er := e5.2.2.2.2.2.2 x hx1.1 (by omega)
    refine ⟨by omega, by rw [er]; exact ⟨by omega, by omega⟩, ⟨by omega, by omega⟩, fun q => fun y hy => ?_, fun q => fun y hy => ?_⟩
    · rw [er] at q
      subst hy
      exact hK _ _ ⟨by omega, Or.inr ⟨by omega, q⟩⟩ (by omega)
    · rw [er] at q
      subst hy
      refine hK _ _ ⟨by omega, ?_⟩ (by omega)
      rcases hm with ⟨e, n⟩ | w
      · refine Or.inl ⟨e, fun k k0 k1 => ?_⟩
        by_cases ek : k = x
        · subst ek; exact q
        · exact n k k0 (by omega)
      · exact Or.inr w
  · have e : x = rl b := by omega
    rw [e] at hm
    exact hQ v hm
theorem sp_clashCell (hI : pm_NI nc na ns nu ai rl rc N) (hE : pm_NE nc na ns nu ai rl rc N mn mc ma ms mu mi mr mm) (hL : pm_LV na ns rl lo N ri) (hcv : 0 ≤ cv ∧ cv ≤ 2000) (hmo : ∀ m, 0 ≤ m → m < (N : Int) → mo m = lo m) (hv0 : 5 * mv 0 = ri) (hv1 : mv 1 = cv) {a b : Int} {Q : Int → Prop} (h : 0 ≤ a ∧ a < (N : Int)) (h' : 0 ≤ b ∧ b < (N : Int)) (hQ : -1 ≤ pm_pp na ns rl rc lo ri cv a b ∧ pm_pp na ns rl rc lo ri cv a b < 144 → Q (pm_pp na ns rl rc lo ri cv a b)) : M_clashCell_wp ma ms mr mm mv mo a b Q := by
  have hn := hI.1
  have h5 := hI.2 a h.1 h.2
  have e5 := hE.2 a h.1 h.2
  have h6 := hI.2 b h'.1 h'.2
  have e6 := hE.2 b h'.1 h'.2
  have hb := pm_rl_bd hI h.1 h.2
  have em := e5.2.2.2.2.2.1
  have hx : 0 ≤ a ∧ a < 24 := by omega
  have hy : 0 ≤ b ∧ b < 24 := by omega
  have aa := e5.2.1
  have ab := e6.2.1
  have sa := e5.2.2.1
  have sb := e6.2.2.1
  have J0 : ¬ ((ns a = 0 ∧ na a ≠ -1) ∧ (ns b = 0 ∧ na b ≠ -1) ∧ ¬ (na a = b ∨ na b = a ∨ na a = na b)) → M_clashCell_j76 ma ms mr mm mv mo a b 0 Q := by
    intro no
    have q1 : Q (-1) := by
      unfold pm_pp at hQ
      rw [if_neg no] at hQ
      exact hQ ⟨by decide, by decide⟩
    refine pm_l2 (fun (v x : Int) => v = -1 ∧ x = 0) (fun (_ x : Int) => 0) ?_ (-1) 0 ⟨rfl, rfl⟩
    intro Kh v x ⟨e1, e2⟩ hK
    subst e1; subst e2
    exact ⟨hx, pm_R0, ⟨by omega, by omega⟩, fun _ => pm_eq0 q1, fun _ => q1⟩
  have J1 : (ns a = 0 ∧ na a ≠ -1) → (ns b = 0 ∧ na b ≠ -1) → ¬ (na a = b ∨ na b = a ∨ na a = na b) → M_clashCell_j76 ma ms mr mm mv mo a b 1 Q := by
    intro da db jn
    refine pm_l2 (fun (v x : Int) => (0 ≤ x ∧ x ≤ rl a) ∧ pm_lz (pm_TA rl rc lo ri cv a b) (fun j => rc (a * 144 + j)) x v) (fun (_ x : Int) => (rl a - x).toNat) ?_ (-1) 0 ⟨by omega, pm_lz_0⟩
    intro Kh v x ⟨hx1, hm⟩ hK
    refine ⟨hx, ⟨by omega, by omega⟩, ⟨by omega, by omega⟩, fun hlt => pm_eq1 ?_, fun hge => ?_⟩
    · have hlt2 : x < rl a := by omega
      have hc := h5.2.2.2.2.2.2.2.1 x hx1.1 hlt2
      have er := e5.2.2.2.2.2.2 x hx1.1 hlt2
      have hv := pm_lz_R (fun k k0 k1 => h5.2.2.2.2.2.2.2.1 k k0 (by omega)) hm
      refine ⟨by omega, fun x6 hx6 => ?_⟩
      rw [er] at hx6
      have T0 : ∀ x8 : Int, ∀ r : Int, ¬ pm_TA rl rc lo ri cv a b x → M_clashCell_j184 ma ms mr mm mv mo a b 1 v x x6 0 Q Kh := by
        intro _ _ q
        refine pm_eq0 (fun y hy => ?_)
        subst hy
        exact hK _ _ ⟨by omega, pm_lz_no hm q⟩ (by omega)
      have T1 : pm_TA rl rc lo ri cv a b x → M_clashCell_j184 ma ms mr mm mv mo a b 1 v x x6 1 Q Kh := by
        intro q
        have nw : (v = -1 ∨ x6 < v) → ∀ y, y = x + 1 → Kh x6 y := by
          intro z y hy
          subst hy
          rw [hx6] at z ⊢
          exact hK _ _ ⟨by omega, pm_lz_new (g := fun k => rc (a * 144 + k)) hx1.1 hm q hc.1 z⟩ (by omega)
        refine pm_eq1 ⟨⟨by omega, by omega⟩, pm_R0, fun z => nw (Or.inl (by omega)), fun z => ⟨⟨by omega, by omega⟩, ⟨by omega, by omega⟩, fun w => nw (Or.inr w), fun w => fun y hy => ?_⟩⟩
        subst hy
        exact hK _ _ ⟨by omega, pm_lz_old hm ⟨by omega, by omega⟩⟩ (by omega)
      refine sp_placeIn hI hE h' (by omega) (fun r hr => ⟨hx, hy, ⟨by decide, by decide⟩, fun x8 hx8 => ?_⟩)
      have hla := hL a x h.1 h.2 da.1 da.2 hx1.1 hlt2
      rcases hr with ⟨er1, nr⟩ | ⟨r01, rr⟩
      · refine ⟨⟨by omega, by omega⟩, pm_R0, fun _ => T0 0 0 ?_, fun z => by omega⟩
        intro ⟨k, k0, k1, w1, _⟩
        exact nr k k0 k1 (by rw [← w1, ← hx6])
      · have hlb := hL b r h'.1 h'.2 db.1 db.2 r01.1 r01.2
        have e8 : x8 = lo a - ri * x - (lo b - ri * r) := by
          rw [hx8, hv0, hmo a h.1 h.2, hmo b h'.1 h'.2, Int.mul_sub]
          omega
        have hb2 := pm_rl_bd hI h'.1 h'.2
        refine ⟨⟨by omega, by omega⟩, pm_R0, fun z => by omega, fun z => ?_⟩
        have eW : ∀ y, y = ph_ab x8 → (pm_TA rl rc lo ri cv a b x ↔ y < cv) := by
          intro y hy2
          rw [hy2, e8]
          constructor
          · intro ⟨k, k0, k1, w1, w2⟩
            have ek : k = r := by
              have w3 : rc (b * 144 + k) = rc (b * 144 + r) := by rw [← w1, rr, hx6]
              rcases Int.lt_trichotomy k r with q | q | q
              · exact absurd w3 (h6.2.2.2.2.2.2.2.2 k r k0 q r01.2)
              · exact q
              · exact absurd w3.symm (h6.2.2.2.2.2.2.2.2 r k r01.1 q k1)
            rw [ek] at w2
            exact w2
          · exact fun q => ⟨r, r01.1, r01.2, by rw [rr, hx6], q⟩
        have go : ∀ s0, s0 = ph_ab x8 → (0 ≤ s0 ∧ s0 ≤ 800000) → M_clashCell_j170 ma ms mr mm mv mo a b 1 v x x6 s0 Q Kh := by
          intro s0 es hs
          have := eW s0 es
          refine ⟨by decide, ⟨by omega, by omega⟩, by rw [hv1]; exact ⟨by omega, by omega⟩, fun q => T1 (this.2 (by rw [← hv1]; exact q)), fun q => T0 0 0 (fun t => q (by rw [hv1]; exact this.1 t))⟩
        refine ⟨⟨by omega, by omega⟩, pm_R0, fun w => go _ ?_ (by omega), fun w => go _ ?_ (by omega)⟩
        · unfold ph_ab; rw [if_neg (by omega)]; omega
        · unfold ph_ab; rw [if_pos (by omega)]
    · have e : x = rl a := by omega
      rw [e] at hm
      unfold pm_pp at hQ
      rw [if_pos ⟨da, db, jn⟩, pm_cc_sw hm] at hQ
      exact hQ (pm_cc_R hI h hm)
  refine ⟨hx, ⟨by omega, by omega⟩, pm_R0, fun s1 => ⟨hy, ⟨by omega, by omega⟩, pm_R0, fun s2 => ⟨hx, ⟨by omega, by omega⟩, pm_R0, fun m1 => J0 (by omega), fun m1 => ⟨hy, ⟨by omega, by omega⟩, pm_R0, fun m2 => J0 (by omega), fun m2 => ⟨hx, ⟨by omega, by omega⟩, ⟨by omega, by omega⟩, fun j1 => J0 (by omega), fun j1 => ⟨hy, ⟨by omega, by omega⟩, ⟨by omega, by omega⟩, fun j2 => J0 (by omega), fun j2 => ⟨hx, hy, ⟨by omega, by omega⟩, ⟨by omega, by omega⟩, fun j3 => J0 (by omega), fun j3 => J1 (by omega) (by omega) (by omega)⟩⟩⟩⟩⟩, fun s2 => J0 (by omega)⟩, fun s1 => J0 (by omega)⟩
theorem sp_clashesM (hI : pm_NI nc na ns nu ai rl rc N) (hE : pm_NE nc na ns nu ai rl rc N mn mc ma ms mu mi mr mm) (hL : pm_LV na ns rl lo N ri) (hcv : 0 ≤ cv ∧ cv ≤ 2000) (hmo : ∀ m, 0 ≤ m → m < (N : Int) → mo m = lo m) (hv0 : 5 * mv 0 = ri) (hv1 : mv 1 = cv) {Q : Int → Prop} (hQ : Q (pm_rb (pm_pp na ns rl rc lo ri cv) N N 0 (0, -1, -1, -1)).1) : M_clashes_wp mn ma ms mr mm mv mo Q := by
  have hn := hI.1
  have em := hE.1
  refine pm_l2 (fun (v x : Int) => (0 ≤ x ∧ x ≤ N) ∧ ∃ s : Int × Int × Int × Int, (s.1 = v ∧ 0 ≤ s.1) ∧ pm_rb (pm_pp na ns rl rc lo ri cv) N ((N : Int) - x).toNat x s = pm_rb (pm_pp na ns rl rc lo ri cv) N N 0 (0, -1, -1, -1)) (fun (_ x : Int) => ((N : Int) - x).toNat) ?_ 0 0 ⟨by omega, (0, -1, -1, -1), ⟨rfl, by decide⟩, by simp⟩
  intro Kh v x ⟨hx, s, hs, he⟩ hK
  refine ⟨⟨by omega, by omega⟩, ⟨by omega, by omega⟩, fun hlt => fun z hz => ?_, fun hge => ?_⟩
  · subst hz
    rw [pm_rb_st (by omega)] at he
    refine pm_l2 (fun (w y : Int) => (x < y ∧ y ≤ N) ∧ ∃ t : Int × Int × Int × Int, (t.1 = w ∧ 0 ≤ t.1) ∧ pm_ra (pm_pp na ns rl rc lo ri cv) ((N : Int) - y).toNat x y t = pm_ra (pm_pp na ns rl rc lo ri cv) ((N : Int) - (x + 1)).toNat x (x + 1) s) (fun (_ y : Int) => ((N : Int) - y).toNat) ?_ v (x + 1) ⟨by omega, s, hs, rfl⟩
    intro Kh2 w y ⟨hy, t, ht, hf⟩ hK2
    refine ⟨⟨by omega, by omega⟩, ⟨by omega, by omega⟩, fun hlt2 => ?_, fun hge2 => fun y2 hy2 => ?_⟩
    · rw [pm_ra_st (by omega)] at hf
      refine sp_clashCell hI hE hL hcv hmo hv0 hv1 (show 0 ≤ x ∧ x < (N : Int) by omega) (show 0 ≤ y ∧ y < (N : Int) by omega) (fun hp => ⟨⟨by omega, by omega⟩, pm_R0, fun q => fun w2 hw2 => fun y2 hy2 => ?_, fun q => fun w2 hw2 => fun y2 hy2 => ?_⟩)
      · subst hy2; subst hw2
        refine hK2 _ _ ⟨by omega, t, by omega, ?_⟩ (by omega)
        unfold pm_nx4 at hf
        rw [if_pos (by omega)] at hf
        exact hf
      · subst hy2; subst hw2
        unfold pm_nx4 at hf
        rw [if_neg (by omega)] at hf
        by_cases t0 : t.1 = 0
        · rw [if_pos t0] at hf
          exact hK2 _ _ ⟨by omega, _, ⟨by show (1 : Int) = w + 1; omega, by show (0 : Int) ≤ 1; omega⟩, hf⟩ (by omega)
        · rw [if_neg t0] at hf
          exact hK2 _ _ ⟨by omega, _, ⟨by show t.1 + 1 = w + 1; omega, by show 0 ≤ t.1 + 1; omega⟩, hf⟩ (by omega)
    · subst hy2
      rw [pm_ra_end (by omega)] at hf
      refine hK _ _ ⟨by omega, t, ht, ?_⟩ (by omega)
      rw [hf]; exact he
  · rw [pm_rb_end (by omega)] at he
    rw [← he, hs.1] at hQ
    exact hQ
theorem sp_clashM {mm2 : Int → Int} (hI : pm_NI nc na ns nu ai rl rc N) (hE : pm_NE nc na ns nu ai rl rc N mn mc ma ms mu mi mr mm) (hL : pm_LV na ns rl lo N ri) (hcv : 0 ≤ cv ∧ cv ≤ 2000) (hmo : ∀ m, 0 ≤ m → m < (N : Int) → mo m = lo m) (hv0 : 5 * mv 0 = ri) (hv1 : mv 1 = cv) {x1 : Int} {ml md mz : Int → Int} {Ke : Int → Int → Int → Prop} {Q : Int → (Int → Int) → (Int → Int) → (Int → Int) → Prop} {cp c1 c2 c3 : Int} (hF : (cp, c1, c2, c3) = pm_rb (pm_pp na ns rl rc lo ri cv) N N 0 (0, -1, -1, -1)) (h0 : c1 = -1 ∧ c2 = -1 ∧ c3 = -1 → Q (-1) md mz mo) (h1 : Ke c1 c2 c3) : ∃ kk, ph_it (fun _ => False) (M_clash_l22 mn ma ms mu mr mm mv ml md mz mo x1 Ke Q) kk 0 := by
  have hn := hI.1
  have em := hE.1
  refine pm_l1 (fun (x : Int) => (0 ≤ x ∧ x ≤ N) ∧ pm_rb (pm_pp na ns rl rc lo ri cv) N ((N : Int) - x).toNat x (0, -1, -1, -1) = (cp, c1, c2, c3)) (fun (x : Int) => ((N : Int) - x).toNat) ?_ 0 ⟨by omega, by rw [hF]; simp⟩
  intro Kh x ⟨hx, he⟩ hK
  refine ⟨⟨by omega, by omega⟩, ⟨by omega, by omega⟩, fun hlt => fun z hz => ?_, fun hge => ?_⟩
  · subst hz
    rw [pm_rb_st (by omega)] at he
    refine pm_l1 (fun (y : Int) => (x < y ∧ y ≤ N) ∧ pm_ra (pm_pp na ns rl rc lo ri cv) ((N : Int) - y).toNat x y (0, -1, -1, -1) = pm_ra (pm_pp na ns rl rc lo ri cv) ((N : Int) - (x + 1)).toNat x (x + 1) (0, -1, -1, -1)) (fun (y : Int) => ((N : Int) - y).toNat) ?_ (x + 1) ⟨by omega, rfl⟩
    intro Kh2 y ⟨hy, hf⟩ hK2
    refine ⟨⟨by omega, by omega⟩, ⟨by omega, by omega⟩, fun hlt2 => ?_, fun hge2 => fun y2 hy2 => ?_⟩
    · rw [pm_ra_st (by omega)] at hf
      refine sp_clashCell hI hE hL hcv hmo hv0 hv1 (show 0 ≤ x ∧ x < (N : Int) by omega) (show 0 ≤ y ∧ y < (N : Int) by omega) (fun hp => ⟨⟨by omega, by omega⟩, pm_R0, fun q => fun y2 hy2 => ?_, fun q => ?_⟩)
      · subst hy2
        refine hK2 _ ⟨by omega, ?_⟩ (by omega)
        unfold pm_nx4 at hf
        rw [if_pos (by omega)] at hf
        exact hf
      · unfold pm_nx4 at hf
        rw [if_neg (by omega), if_pos rfl] at hf
        have k1 := pm_ra_keep (p := pm_pp na ns rl rc lo ri cv) (a := x) ((N : Int) - (y + 1)).toNat (y + 1) (1, x, y, pm_pp na ns rl rc lo ri cv x y) (by show (0 : Int) < 1; omega)
        rw [hf] at k1
        have k2 := pm_rb_keep (p := pm_pp na ns rl rc lo ri cv) (N := N) ((N : Int) - (x + 1)).toNat (x + 1) (pm_ra (pm_pp na ns rl rc lo ri cv) ((N : Int) - (x + 1)).toNat x (x + 1) (0, -1, -1, -1)) k1.1
        rw [he] at k2
        have k3 := k2.2.trans k1.2
        injection k3 with k4 k5
        injection k5 with k6 k7
        rw [k4, k6, k7] at h1
        exact h1
    · subst hy2
      rw [pm_ra_end (by omega)] at hf
      refine hK _ ⟨by omega, ?_⟩ (by omega)
      rw [hf]; exact he
  · rw [pm_rb_end (by omega)] at he
    injection he with k0 k1
    injection k1 with k2 k3
    injection k3 with k4 k5
    exact h0 ⟨k2.symm, k4.symm, k5.symm⟩
end PMX
