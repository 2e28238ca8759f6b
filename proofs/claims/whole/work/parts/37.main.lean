/-! the law's loop keeps what the two hold alike -/
theorem pm_ixe {i n : Int} (h : 0 ≤ i ∧ i < n) (A : Prop) : ph_ix i n A = A := propext ⟨fun z => z.2, fun z => ⟨h, z⟩⟩
theorem pm_eqe {a : Int} (h : ph_R a) (z : a = 0) (A B : Prop) : ph_eq a 0 A B = A := propext ⟨fun q => q.2.2.1 z, fun q => ⟨h, pm_R0, fun _ => q, fun w => absurd z w⟩⟩
theorem pm_nee {a : Int} (h : ph_R a) (z : ¬ a = 0) (A B : Prop) : ph_eq a 0 A B = B := propext ⟨fun q => q.2.2.2 z, fun q => ⟨h, pm_R0, fun w => absurd w z, fun _ => q⟩⟩
theorem pm_same {r : Int} {A B : Prop} (h : ph_R r) (a : A) : ph_eq r r A B := ⟨h, h, fun _ => a, fun q => absurd rfl q⟩
set_option maxHeartbeats 4000000 in
theorem pm_law_step {L : Nat} (hL : L ≤ 2048) {xs : Int → Int} (hxs : ∀ i, ph_R (xs i)) {Kh : Int → (Int → Int) → (Int → Int) → (Int → Int) → (Int → Int) → (Int → Int) → (Int) → (Int) → (Int) → (Int → Int) → (Int → Int) → (Int → Int) → (Int → Int) → (Int → Int) → (Int → Int) → (Int → Int) → (Int) → (Int → Int) → (Int → Int) → (Int → Int) → (Int → Int) → (Int → Int) → (Int) → (Int → Int) → (Int) → (Int) → (Int) → (Int) → (Int → Int) → (Int → Int) → (Int) → (Int) → (Int) → (Int) → (Int → Int) → (Int) → (Int → Int) → (Int → Int) → (Int → Int) → (Int → Int) → (Int → Int) → (Int → Int) → (Int → Int) → (Int → Int) → (Int → Int) → (Int → Int) → (Int → Int) → (Int) → (Int → Int) → (Int → Int) → (Int → Int) → (Int → Int) → (Int) → (Int → Int) → (Int → Int) → Prop} {x3 : Int} {pr : Int → Int} {lf : Int → Int} {rg : Int → Int} {nx : Int → Int} {fd : Int → Int} {wt : Int} {fl : Int} {fp : Int} {nc : Int → Int} {na : Int → Int} {ns : Int → Int} {nu : Int → Int} {ai : Int → Int} {rl : Int → Int} {rc : Int → Int} {nn : Int} {rv : Int → Int} {li : Int → Int} {ld : Int → Int} {sz : Int → Int} {lo : Int → Int} {ri : Int} {lc : Int → Int} {cp : Int} {c1 : Int} {c2 : Int} {c3 : Int} {pi : Int → Int} {be : Int → Int} {ps : Int} {wb : Int} {lp : Int} {ba : Int} {mp : Int → Int} {mn : Int} {mc : Int → Int} {ma : Int → Int} {ms : Int → Int} {mu : Int → Int} {mi : Int → Int} {mr : Int → Int} {mm : Int → Int} {mv : Int → Int} {ml : Int → Int} {mf : Int → Int} {mw : Int → Int} {mk : Int} {md : Int → Int} {mz : Int → Int} {mo : Int → Int} {mq : Int → Int} {mt : Int} {me : Int → Int} {mx : Int → Int} (h3 : 0 ≤ x3 ∧ x3 ≤ L) (hF : pm_F pr mp) (hN : pm_N nc na ns nu ai rl rc nn mn mc ma ms mu mi mr mm) (hV : pm_V rv mv li ml) (hlc : ∀ c, 0 ≤ c → c < 144 → lc c = -1) (hK : x3 + 4 ≤ L → ∀ (pr : Int → Int) (lf : Int → Int) (rg : Int → Int) (nx : Int → Int) (fd : Int → Int) (wt : Int) (fl : Int) (fp : Int) (nc : Int → Int) (na : Int → Int) (ns : Int → Int) (nu : Int → Int) (ai : Int → Int) (rl : Int → Int) (rc : Int → Int) (nn : Int) (rv : Int → Int) (li : Int → Int) (ld : Int → Int) (sz : Int → Int) (lo : Int → Int) (ri : Int) (lc : Int → Int) (cp : Int) (c1 : Int) (c2 : Int) (c3 : Int) (pi : Int → Int) (be : Int → Int) (ps : Int) (wb : Int) (lp : Int) (ba : Int) (mp : Int → Int) (mn : Int) (mc : Int → Int) (ma : Int → Int) (ms : Int → Int) (mu : Int → Int) (mi : Int → Int) (mr : Int → Int) (mm : Int → Int) (mv : Int → Int) (ml : Int → Int) (mf : Int → Int) (mw : Int → Int) (mk : Int) (md : Int → Int) (mz : Int → Int) (mo : Int → Int) (mq : Int → Int) (mt : Int) (me : Int → Int) (mx : Int → Int), pm_F pr mp → pm_N nc na ns nu ai rl rc nn mn mc ma ms mu mi mr mm → pm_V rv mv li ml → (∀ c, 0 ≤ c → c < 144 → lc c = -1) → Kh (x3 + 4) pr lf rg nx fd wt fl fp nc na ns nu ai rl rc nn rv li ld sz lo ri lc cp c1 c2 c3 pi be ps wb lp ba mp mn mc ma ms mu mi mr mm mv ml mf mw mk md mz mo mq mt me mx) : L_law_l18 L xs (fun _ => True) Kh x3 pr lf rg nx fd wt fl fp nc na ns nu ai rl rc nn rv li ld sz lo ri lc cp c1 c2 c3 pi be ps wb lp ba mp mn mc ma ms mu mi mr mm mv ml mf mw mk md mz mo mq mt me mx := by
  refine ⟨⟨by omega, by omega⟩, ⟨by omega, by omega⟩, fun _ => rfl, fun hge => ⟨by omega, ph_R_of _, fun q => ?c0, fun n0 => ⟨fun q => ?c1, fun n1 => ⟨fun q => ?c2, fun n2 => ⟨fun q => ?c3, fun n3 => ⟨fun q => ?c4, fun n4 => ⟨fun q => ?c5, fun n5 => ⟨fun q => ?c6, fun n6 => ⟨fun q => ?c7, fun n7 => ⟨fun q => ?c8, fun n8 => ⟨fun q => ?c9, fun n9 => ⟨fun q => ?c10, fun n10 => ⟨fun q => ?c11, fun n11 => ⟨fun q => ?c12, fun n12 => ⟨fun q => ?c13, fun n13 => ⟨fun q => ?c14, fun n14 => ⟨fun q => ?c15, fun n15 => ⟨fun q => ?c16, fun n16 => ?c17⟩⟩⟩⟩⟩⟩⟩⟩⟩⟩⟩⟩⟩⟩⟩⟩⟩⟩
  case c0 =>
    have h4 : x3 + 4 ≤ L := by omega
    have i1 := pm_ixe (show 0 ≤ x3 + 1 ∧ x3 + 1 < (L : Int) by omega)
    have i2 := pm_ixe (show 0 ≤ x3 + 2 ∧ x3 + 2 < (L : Int) by omega)
    have i3 := pm_ixe (show 0 ≤ x3 + 3 ∧ x3 + 3 < (L : Int) by omega)
    simp only [i1, i2]
    exact pm_price hF (hxs (x3 + 1)) (hxs (x3 + 2)) (fun r _ _ hr h => pm_same hr (fun y hy => by subst hy; exact hK h4 _ _ _ _ _ _ _ _ _ _ _ _ _ _ _ _ _ _ _ _ _ _ _ _ _ _ _ _ _ _ _ _ _ _ _ _ _ _ _ _ _ _ _ _ _ _ _ _ _ _ _ _ _ _ h hN hV hlc))
  case c1 =>
    have h4 : x3 + 4 ≤ L := by omega
    have i1 := pm_ixe (show 0 ≤ x3 + 1 ∧ x3 + 1 < (L : Int) by omega)
    have i2 := pm_ixe (show 0 ≤ x3 + 2 ∧ x3 + 2 < (L : Int) by omega)
    have i3 := pm_ixe (show 0 ≤ x3 + 3 ∧ x3 + 3 < (L : Int) by omega)
    simp only [i1, i2]
    exact pm_cheapest hF (hxs (x3 + 1)) (hxs (x3 + 2)) (fun r _ _ _ _ _ _ _ _ hr => pm_same hr (fun y hy => by subst hy; exact hK h4 _ _ _ _ _ _ _ _ _ _ _ _ _ _ _ _ _ _ _ _ _ _ _ _ _ _ _ _ _ _ _ _ _ _ _ _ _ _ _ _ _ _ _ _ _ _ _ _ _ _ _ _ _ _ hF hN hV hlc))
  case c2 =>
    have h4 : x3 + 4 ≤ L := by omega
    have i1 := pm_ixe (show 0 ≤ x3 + 1 ∧ x3 + 1 < (L : Int) by omega)
    have i2 := pm_ixe (show 0 ≤ x3 + 2 ∧ x3 + 2 < (L : Int) by omega)
    have i3 := pm_ixe (show 0 ≤ x3 + 3 ∧ x3 + 3 < (L : Int) by omega)
    simp only [i1, i2, i3]
    exact pm_way hF (hxs (x3 + 1)) (hxs (x3 + 2)) (hxs (x3 + 3)) (fun r _ _ _ _ _ _ _ _ _ _ hr => pm_same hr (fun y hy => by subst hy; exact hK h4 _ _ _ _ _ _ _ _ _ _ _ _ _ _ _ _ _ _ _ _ _ _ _ _ _ _ _ _ _ _ _ _ _ _ _ _ _ _ _ _ _ _ _ _ _ _ _ _ _ _ _ _ _ _ hF hN hV hlc))
  case c3 =>
    have h4 : x3 + 4 ≤ L := by omega
    have i1 := pm_ixe (show 0 ≤ x3 + 1 ∧ x3 + 1 < (L : Int) by omega)
    have i2 := pm_ixe (show 0 ≤ x3 + 2 ∧ x3 + 2 < (L : Int) by omega)
    have i3 := pm_ixe (show 0 ≤ x3 + 3 ∧ x3 + 3 < (L : Int) by omega)
    simp only [i1, i2]
    exact pm_main0 hN (hxs (x3 + 1)) (hxs (x3 + 2)) (fun r _ _ _ _ _ _ _ _ _ _ _ _ _ _ hr h => pm_same hr (fun y hy => by subst hy; exact hK h4 _ _ _ _ _ _ _ _ _ _ _ _ _ _ _ _ _ _ _ _ _ _ _ _ _ _ _ _ _ _ _ _ _ _ _ _ _ _ _ _ _ _ _ _ _ _ _ _ _ _ _ _ _ _ hF h hV hlc))
  case c4 =>
    have h4 : x3 + 4 ≤ L := by omega
    have i1 := pm_ixe (show 0 ≤ x3 + 1 ∧ x3 + 1 < (L : Int) by omega)
    have i2 := pm_ixe (show 0 ≤ x3 + 2 ∧ x3 + 2 < (L : Int) by omega)
    have i3 := pm_ixe (show 0 ≤ x3 + 3 ∧ x3 + 3 < (L : Int) by omega)
    simp only [i1, i2, i3]
    exact pm_hang hF hN (hxs (x3 + 1)) (hxs (x3 + 2)) (hxs (x3 + 3)) (fun r _ _ _ _ _ _ _ _ _ _ _ _ _ _ _ _ _ _ _ _ _ _ _ _ _ _ hr h => pm_same hr (fun y hy => by subst hy; exact hK h4 _ _ _ _ _ _ _ _ _ _ _ _ _ _ _ _ _ _ _ _ _ _ _ _ _ _ _ _ _ _ _ _ _ _ _ _ _ _ _ _ _ _ _ _ _ _ _ _ _ _ _ _ _ _ hF h hV hlc))
  case c5 =>
    have h4 : x3 + 4 ≤ L := by omega
    have i1 := pm_ixe (show 0 ≤ x3 + 1 ∧ x3 + 1 < (L : Int) by omega)
    have i2 := pm_ixe (show 0 ≤ x3 + 2 ∧ x3 + 2 < (L : Int) by omega)
    have i3 := pm_ixe (show 0 ≤ x3 + 3 ∧ x3 + 3 < (L : Int) by omega)
    simp only [i1, i2]
    exact pm_units hN (hxs (x3 + 1)) (hxs (x3 + 2)) (fun r _ _ hr h => pm_same hr (fun y hy => by subst hy; exact hK h4 _ _ _ _ _ _ _ _ _ _ _ _ _ _ _ _ _ _ _ _ _ _ _ _ _ _ _ _ _ _ _ _ _ _ _ _ _ _ _ _ _ _ _ _ _ _ _ _ _ _ _ _ _ _ hF h hV hlc))
  case c6 =>
    have h4 : x3 + 4 ≤ L := by omega
    have i1 := pm_ixe (show 0 ≤ x3 + 1 ∧ x3 + 1 < (L : Int) by omega)
    have i2 := pm_ixe (show 0 ≤ x3 + 2 ∧ x3 + 2 < (L : Int) by omega)
    have i3 := pm_ixe (show 0 ≤ x3 + 3 ∧ x3 + 3 < (L : Int) by omega)
    have hw := hxs (x3 + 2)
    simp only [i1, i2]
    by_cases z : xs (x3 + 2) = 0
    · rw [pm_eqe hw z]
      unfold L_law_j353 L_law_j375
      simp only [i1, i2, pm_eqe hw z]
      exact pm_air hN (hxs (x3 + 1)) (Or.inl rfl) (fun r _ _ hr h => pm_same hr (fun y hy => by subst hy; exact hK h4 _ _ _ _ _ _ _ _ _ _ _ _ _ _ _ _ _ _ _ _ _ _ _ _ _ _ _ _ _ _ _ _ _ _ _ _ _ _ _ _ _ _ _ _ _ _ _ _ _ _ _ _ _ _ hF h hV hlc))
    · rw [pm_nee hw z]
      unfold L_law_j353 L_law_j375
      simp only [i1, i2, pm_nee hw z]
      exact pm_air hN (hxs (x3 + 1)) (Or.inr rfl) (fun r _ _ hr h => pm_same hr (fun y hy => by subst hy; exact hK h4 _ _ _ _ _ _ _ _ _ _ _ _ _ _ _ _ _ _ _ _ _ _ _ _ _ _ _ _ _ _ _ _ _ _ _ _ _ _ _ _ _ _ _ _ _ _ _ _ _ _ _ _ _ _ hF h hV hlc))
  case c7 =>
    have h4 : x3 + 4 ≤ L := by omega
    have i1 := pm_ixe (show 0 ≤ x3 + 1 ∧ x3 + 1 < (L : Int) by omega)
    have i2 := pm_ixe (show 0 ≤ x3 + 2 ∧ x3 + 2 < (L : Int) by omega)
    have i3 := pm_ixe (show 0 ≤ x3 + 3 ∧ x3 + 3 < (L : Int) by omega)
    simp only [i1]
    exact pm_cut hN (hxs (x3 + 1)) (fun r _ _ hr h => pm_same hr (fun y hy => by subst hy; exact hK h4 _ _ _ _ _ _ _ _ _ _ _ _ _ _ _ _ _ _ _ _ _ _ _ _ _ _ _ _ _ _ _ _ _ _ _ _ _ _ _ _ _ _ _ _ _ _ _ _ _ _ _ _ _ _ hF h hV hlc))
  case c8 =>
    have h4 : x3 + 4 ≤ L := by omega
    have i1 := pm_ixe (show 0 ≤ x3 + 1 ∧ x3 + 1 < (L : Int) by omega)
    have i2 := pm_ixe (show 0 ≤ x3 + 2 ∧ x3 + 2 < (L : Int) by omega)
    have i3 := pm_ixe (show 0 ≤ x3 + 3 ∧ x3 + 3 < (L : Int) by omega)
    exact pm_lay hF hN (fun r _ _ _ _ _ _ _ _ _ _ _ _ _ _ hr h => pm_same hr (fun y hy => by subst hy; exact hK h4 _ _ _ _ _ _ _ _ _ _ _ _ _ _ _ _ _ _ _ _ _ _ _ _ _ _ _ _ _ _ _ _ _ _ _ _ _ _ _ _ _ _ _ _ _ _ _ _ _ _ _ _ _ _ hF h hV hlc))
  case c9 =>
    have h4 : x3 + 4 ≤ L := by omega
    have i1 := pm_ixe (show 0 ≤ x3 + 1 ∧ x3 + 1 < (L : Int) by omega)
    have i2 := pm_ixe (show 0 ≤ x3 + 2 ∧ x3 + 2 < (L : Int) by omega)
    have i3 := pm_ixe (show 0 ≤ x3 + 3 ∧ x3 + 3 < (L : Int) by omega)
    simp only [i1, i2]
    exact pm_rule hV (hxs (x3 + 1)) (hxs (x3 + 2)) (fun r _ _ hr h => pm_same hr (fun y hy => by subst hy; exact hK h4 _ _ _ _ _ _ _ _ _ _ _ _ _ _ _ _ _ _ _ _ _ _ _ _ _ _ _ _ _ _ _ _ _ _ _ _ _ _ _ _ _ _ _ _ _ _ _ _ _ _ _ _ _ _ hF hN h hlc))
  case c10 =>
    have h4 : x3 + 4 ≤ L := by omega
    have i1 := pm_ixe (show 0 ≤ x3 + 1 ∧ x3 + 1 < (L : Int) by omega)
    have i2 := pm_ixe (show 0 ≤ x3 + 2 ∧ x3 + 2 < (L : Int) by omega)
    have i3 := pm_ixe (show 0 ≤ x3 + 3 ∧ x3 + 3 < (L : Int) by omega)
    simp only [i1, i2]
    exact pm_limit hV (hxs (x3 + 1)) (hxs (x3 + 2)) (fun r _ _ hr h => pm_same hr (fun y hy => by subst hy; exact hK h4 _ _ _ _ _ _ _ _ _ _ _ _ _ _ _ _ _ _ _ _ _ _ _ _ _ _ _ _ _ _ _ _ _ _ _ _ _ _ _ _ _ _ _ _ _ _ _ _ _ _ _ _ _ _ hF hN h hlc))
  case c11 =>
    have h4 : x3 + 4 ≤ L := by omega
    have i1 := pm_ixe (show 0 ≤ x3 + 1 ∧ x3 + 1 < (L : Int) by omega)
    have i2 := pm_ixe (show 0 ≤ x3 + 2 ∧ x3 + 2 < (L : Int) by omega)
    have i3 := pm_ixe (show 0 ≤ x3 + 3 ∧ x3 + 3 < (L : Int) by omega)
    simp only [i1, i2]
    exact pm_node hN hV (hxs (x3 + 1)) (hxs (x3 + 2)) (fun r _ _ _ _ _ _ _ hr => pm_same hr (fun y hy => by subst hy; exact hK h4 _ _ _ _ _ _ _ _ _ _ _ _ _ _ _ _ _ _ _ _ _ _ _ _ _ _ _ _ _ _ _ _ _ _ _ _ _ _ _ _ _ _ _ _ _ _ _ _ _ _ _ _ _ _ hF hN hV hlc))
  case c12 =>
    have h4 : x3 + 4 ≤ L := by omega
    have i1 := pm_ixe (show 0 ≤ x3 + 1 ∧ x3 + 1 < (L : Int) by omega)
    have i2 := pm_ixe (show 0 ≤ x3 + 2 ∧ x3 + 2 < (L : Int) by omega)
    have i3 := pm_ixe (show 0 ≤ x3 + 3 ∧ x3 + 3 < (L : Int) by omega)
    simp only [i1, i2]
    exact pm_run hN (hxs (x3 + 1)) (hxs (x3 + 2)) (fun r  hr => pm_same hr (fun y hy => by subst hy; exact hK h4 _ _ _ _ _ _ _ _ _ _ _ _ _ _ _ _ _ _ _ _ _ _ _ _ _ _ _ _ _ _ _ _ _ _ _ _ _ _ _ _ _ _ _ _ _ _ _ _ _ _ _ _ _ _ hF hN hV hlc))
  case c13 =>
    have h4 : x3 + 4 ≤ L := by omega
    have i1 := pm_ixe (show 0 ≤ x3 + 1 ∧ x3 + 1 < (L : Int) by omega)
    have i2 := pm_ixe (show 0 ≤ x3 + 2 ∧ x3 + 2 < (L : Int) by omega)
    have i3 := pm_ixe (show 0 ≤ x3 + 3 ∧ x3 + 3 < (L : Int) by omega)
    simp only [i1, i2]
    exact pm_level hN hV (hxs (x3 + 1)) (hxs (x3 + 2)) (fun r _ _ _ _ _ _ _ hr => pm_same hr (fun y hy => by subst hy; exact hK h4 _ _ _ _ _ _ _ _ _ _ _ _ _ _ _ _ _ _ _ _ _ _ _ _ _ _ _ _ _ _ _ _ _ _ _ _ _ _ _ _ _ _ _ _ _ _ _ _ _ _ _ _ _ _ hF hN hV hlc))
  case c14 =>
    have h4 : x3 + 4 ≤ L := by omega
    have i1 := pm_ixe (show 0 ≤ x3 + 1 ∧ x3 + 1 < (L : Int) by omega)
    have i2 := pm_ixe (show 0 ≤ x3 + 2 ∧ x3 + 2 < (L : Int) by omega)
    have i3 := pm_ixe (show 0 ≤ x3 + 3 ∧ x3 + 3 < (L : Int) by omega)
    simp only [i1]
    exact pm_clash hN hV hlc (hxs (x3 + 1)) (fun r _ _ _ _ _ _ _ _ _ _ _ _ hr h => pm_same hr (fun y hy => by subst hy; exact hK h4 _ _ _ _ _ _ _ _ _ _ _ _ _ _ _ _ _ _ _ _ _ _ _ _ _ _ _ _ _ _ _ _ _ _ _ _ _ _ _ _ _ _ _ _ _ _ _ _ _ _ _ _ _ _ hF hN hV h))
  case c15 =>
    have h4 : x3 + 4 ≤ L := by omega
    have i1 := pm_ixe (show 0 ≤ x3 + 1 ∧ x3 + 1 < (L : Int) by omega)
    have i2 := pm_ixe (show 0 ≤ x3 + 2 ∧ x3 + 2 < (L : Int) by omega)
    have i3 := pm_ixe (show 0 ≤ x3 + 3 ∧ x3 + 3 < (L : Int) by omega)
    simp only [i1]
    exact pm_count hN hV hlc (hxs (x3 + 1)) (fun r _ _ _ _ _ _ _ _ _ _ _ _ hr h => pm_same hr (fun y hy => by subst hy; exact hK h4 _ _ _ _ _ _ _ _ _ _ _ _ _ _ _ _ _ _ _ _ _ _ _ _ _ _ _ _ _ _ _ _ _ _ _ _ _ _ _ _ _ _ _ _ _ _ _ _ _ _ _ _ _ _ hF hN hV h))
  case c16 =>
    have h4 : x3 + 4 ≤ L := by omega
    have i1 := pm_ixe (show 0 ≤ x3 + 1 ∧ x3 + 1 < (L : Int) by omega)
    have i2 := pm_ixe (show 0 ≤ x3 + 2 ∧ x3 + 2 < (L : Int) by omega)
    have i3 := pm_ixe (show 0 ≤ x3 + 3 ∧ x3 + 3 < (L : Int) by omega)
    simp only [i1, i2]
    exact pm_bars hN hV (hxs (x3 + 1)) (hxs (x3 + 2)) (fun r _ _ _ _ _ _ _ _ _ _ _ _ _ _ _ _ _ hr => pm_same hr (fun y hy => by subst hy; exact hK h4 _ _ _ _ _ _ _ _ _ _ _ _ _ _ _ _ _ _ _ _ _ _ _ _ _ _ _ _ _ _ _ _ _ _ _ _ _ _ _ _ _ _ _ _ _ _ _ _ _ _ _ _ _ _ hF hN hV hlc))
  case c17 =>
    have h4 : x3 + 4 ≤ L := by omega
    intro y hy
    subst hy
    exact hK h4 _ _ _ _ _ _ _ _ _ _ _ _ _ _ _ _ _ _ _ _ _ _ _ _ _ _ _ _ _ _ _ _ _ _ _ _ _ _ _ _ _ _ _ _ _ _ _ _ _ _ _ _ _ _ hF hN hV hlc
theorem pm_law_loop {L : Nat} (hL : L ≤ 2048) {xs : Int → Int} (hxs : ∀ i, ph_R (xs i)) : ∀ (n : Nat) (x3 : Int) (pr : Int → Int) (lf : Int → Int) (rg : Int → Int) (nx : Int → Int) (fd : Int → Int) (wt : Int) (fl : Int) (fp : Int) (nc : Int → Int) (na : Int → Int) (ns : Int → Int) (nu : Int → Int) (ai : Int → Int) (rl : Int → Int) (rc : Int → Int) (nn : Int) (rv : Int → Int) (li : Int → Int) (ld : Int → Int) (sz : Int → Int) (lo : Int → Int) (ri : Int) (lc : Int → Int) (cp : Int) (c1 : Int) (c2 : Int) (c3 : Int) (pi : Int → Int) (be : Int → Int) (ps : Int) (wb : Int) (lp : Int) (ba : Int) (mp : Int → Int) (mn : Int) (mc : Int → Int) (ma : Int → Int) (ms : Int → Int) (mu : Int → Int) (mi : Int → Int) (mr : Int → Int) (mm : Int → Int) (mv : Int → Int) (ml : Int → Int) (mf : Int → Int) (mw : Int → Int) (mk : Int) (md : Int → Int) (mz : Int → Int) (mo : Int → Int) (mq : Int → Int) (mt : Int) (me : Int → Int) (mx : Int → Int), ((L : Int) - x3).toNat < n → (0 ≤ x3 ∧ x3 ≤ L) → pm_F pr mp → pm_N nc na ns nu ai rl rc nn mn mc ma ms mu mi mr mm → pm_V rv mv li ml → (∀ c, 0 ≤ c → c < 144 → lc c = -1) → ph_it (fun _ _ _ _ _ _ _ _ _ _ _ _ _ _ _ _ _ _ _ _ _ _ _ _ _ _ _ _ _ _ _ _ _ _ _ _ _ _ _ _ _ _ _ _ _ _ _ _ _ _ _ _ _ _ _ => False) (L_law_l18 L xs (fun _ => True)) n x3 pr lf rg nx fd wt fl fp nc na ns nu ai rl rc nn rv li ld sz lo ri lc cp c1 c2 c3 pi be ps wb lp ba mp mn mc ma ms mu mi mr mm mv ml mf mw mk md mz mo mq mt me mx := by
  intro n
  induction n with
  | zero => intro x3 pr lf rg nx fd wt fl fp nc na ns nu ai rl rc nn rv li ld sz lo ri lc cp c1 c2 c3 pi be ps wb lp ba mp mn mc ma ms mu mi mr mm mv ml mf mw mk md mz mo mq mt me mx hn _ _ _ _ _; exact absurd hn (Nat.not_lt_zero _)
  | succ n ih =>
    intro x3 pr lf rg nx fd wt fl fp nc na ns nu ai rl rc nn rv li ld sz lo ri lc cp c1 c2 c3 pi be ps wb lp ba mp mn mc ma ms mu mi mr mm mv ml mf mw mk md mz mo mq mt me mx hn h3 hF hN hV hlc
    exact pm_law_step hL hxs h3 hF hN hV hlc (fun h4 pr lf rg nx fd wt fl fp nc na ns nu ai rl rc nn rv li ld sz lo ri lc cp c1 c2 c3 pi be ps wb lp ba mp mn mc ma ms mu mi mr mm mv ml mf mw mk md mz mo mq mt me mx hF hN hV hlc => ih (x3 + 4) _ _ _ _ _ _ _ _ _ _ _ _ _ _ _ _ _ _ _ _ _ _ _ _ _ _ _ _ _ _ _ _ _ _ _ _ _ _ _ _ _ _ _ _ _ _ _ _ _ _ _ _ _ _ (by omega) ⟨by omega, by omega⟩ hF hN hV hlc)
theorem pm_V_0 : pm_V (ph_u (ph_u (ph_u (ph_u (fun _ => 0) 0 10) 1 500) 2 150) 3 600) (ph_u (ph_u (ph_u (ph_u (fun _ => 0) 0 10) 1 500) 2 150) 3 600) (ph_u (ph_u (ph_u (ph_u (ph_u (ph_u (fun _ => 0) 0 2) 1 6) 2 12) 3 24) 4 60) 5 200) (ph_u (ph_u (ph_u (ph_u (ph_u (ph_u (fun _ => 0) 0 2) 1 6) 2 12) 3 24) 4 60) 5 200) := by
  refine ⟨fun k _ _ => rfl, by decide, by decide, by decide, by decide, fun s s0 s1 => ⟨rfl, ?_⟩⟩
  have h : s = 0 ∨ s = 1 ∨ s = 2 ∨ s = 3 ∨ s = 4 ∨ s = 5 := by omega
  rcases h with e | e | e | e | e | e <;> subst e <;> decide
theorem pm_main : ∀ (L : Nat), L ≤ 2048 → ∀ (xs : Int → Int), (∀ i, ph_R (xs i)) → L_main L xs := by
  intro L hL xs hxs
  unfold L_main H_init_wp F_init_wp N_init_wp V_init_wp K_init_wp C_init_wp S_init_wp
  refine sp_fill ⟨by decide, by decide⟩ (fun pr hpr => ?_)
  refine ⟨by decide, fun rv1 e1 => ⟨by decide, fun rv2 e2 => ⟨by decide, fun rv3 e3 => ⟨by decide, fun rv4 e4 => ⟨by decide, fun li1 f1 => ⟨by decide, fun li2 f2 => ⟨by decide, fun li3 f3 => ⟨by decide, fun li4 f4 => ⟨by decide, fun li5 f5 => ⟨by decide, fun li6 f6 => ?_⟩⟩⟩⟩⟩⟩⟩⟩⟩⟩
  subst e1; subst e2; subst e3; subst e4; subst f1; subst f2; subst f3; subst f4; subst f5; subst f6
  refine sp_fill ⟨by decide, by decide⟩ (fun lc hlc => ?_)
  refine pm_l2 (fun (x : Int) (p : Int → Int) => (0 ≤ x ∧ x ≤ 144) ∧ ∀ c, 0 ≤ c → c < x → p c = 1) (fun (x : Int) _ => (144 - x).toNat) ?_ 0 (fun _ => 0) ⟨by decide, fun c c0 c1 => by omega⟩
  intro Kh x p ⟨hx, hp⟩ hK
  refine ⟨⟨by omega, by omega⟩, ⟨by decide, by decide⟩, fun hlt => ⟨by omega, fun p2 hp2 => fun y hy => ?_⟩, fun hge => ?_⟩
  · subst hy
    refine hK _ _ ⟨by omega, fun c c0 c1 => ?_⟩ (by omega)
    rw [hp2]
    by_cases e : c = x
    · rw [e, pm_us]
    · rw [pm_un e]; exact hp c c0 (by omega)
  · refine ⟨by decide, fun rv1 e1 => ⟨by decide, fun rv2 e2 => ⟨by decide, fun rv3 e3 => ⟨by decide, fun rv4 e4 => ⟨by decide, fun li1 f1 => ⟨by decide, fun li2 f2 => ⟨by decide, fun li3 f3 => ⟨by decide, fun li4 f4 => ⟨by decide, fun li5 f5 => ⟨by decide, fun li6 f6 => ?_⟩⟩⟩⟩⟩⟩⟩⟩⟩⟩
    subst e1; subst e2; subst e3; subst e4; subst f1; subst f2; subst f3; subst f4; subst f5; subst f6
    refine ⟨L + 1, pm_law_loop hL hxs (L + 1) 0 _ _ _ _ _ _ _ _ _ _ _ _ _ _ _ _ _ _ _ _ _ _ _ _ _ _ _ _ _ _ _ _ _ _ _ _ _ _ _ _ _ _ _ _ _ _ _ _ _ _ _ _ _ _ (by omega) ⟨by decide, by omega⟩ (fun c c0 c1 => ?_) ⟨⟨⟨by decide, by decide⟩, fun n n0 n1 => by omega⟩, rfl, fun n n0 n1 => by omega⟩ pm_V_0 hlc⟩
    have a1 := hpr c c0 c1
    have a2 := hp c c0 (by omega)
    omega
