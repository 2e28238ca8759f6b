/-! the class's search: cells by the sum at which they are worked off -/
theorem sp_fill {n : Int} {zz : Int → Int} {v : Int} {Q : (Int → Int) → Prop} (hn : 0 ≤ n ∧ n ≤ 4096) (hQ : ∀ z, (∀ i, 0 ≤ i → i < n → z i = v) → Q z) : A_fill_wp n zz v Q := by
  intro x hx
  subst hx
  refine pm_l2 (fun (k : Int) (z : Int → Int) => (0 ≤ k ∧ k ≤ x) ∧ ∀ i, 0 ≤ i → i < k → z i = v) (fun (k : Int) _ => (x - k).toNat) ?_ 0 zz ⟨by omega, fun i _ _ => by omega⟩
  intro Kh k z ⟨hk, hz⟩ hK
  refine ⟨⟨by omega, by omega⟩, ⟨by omega, by omega⟩, fun h => ⟨⟨hk.1, h⟩, fun z2 hz2 => fun y hy => ?_⟩, fun h => hQ z (fun i h0 h1 => hz i h0 (by omega))⟩
  subst hy
  refine hK _ _ ⟨by omega, fun i h0 h1 => ?_⟩ (by omega)
  rw [hz2]
  by_cases hi : i = k
  · subst hi; rw [pm_us]
  · rw [pm_un hi]; exact hz i h0 (by omega)
def pm_ch (nx : Int → Int) : Int → List Int → Prop
  | h, [] => h = -1
  | h, x :: l => h = x ∧ pm_ch nx (nx x) l
theorem pm_ch_up {nx : Int → Int} {i v : Int} : ∀ {l : List Int} {h : Int}, i ∉ l → pm_ch nx h l → pm_ch (ph_u nx i v) h l
  | [], _, _, hc => hc
  | x :: l, h, hi, hc => by
    refine ⟨hc.1, ?_⟩
    rw [pm_un (fun q => hi (by rw [q]; exact List.mem_cons_self))]
    exact pm_ch_up (fun q => hi (List.mem_cons_of_mem _ q)) hc.2
theorem pm_ct_0 : ∀ n, pm_ct (fun _ => false) n = 0
  | 0 => rfl
  | n + 1 => by
    show pm_ct (fun _ => false) n + _ = 0
    rw [pm_ct_0 n]; rfl
def pm_ub (f : Int → Bool) (i : Int) (b : Bool) : Int → Bool := fun x => if x = i then b else f x
theorem pm_bs1 {f : Int → Bool} {i : Int} {b : Bool} : pm_ub f i b i = b := by simp [pm_ub]
theorem pm_bn {f : Int → Bool} {i x : Int} {b : Bool} (h : x ≠ i) : pm_ub f i b x = f x := by simp [pm_ub, h]
def pm_ul (f : Int → List Int) (i : Int) (b : List Int) : Int → List Int := fun x => if x = i then b else f x
theorem pm_ls {f : Int → List Int} {i : Int} {b : List Int} : pm_ul f i b i = b := by simp [pm_ul]
theorem pm_ln {f : Int → List Int} {i x : Int} {b : List Int} (h : x ≠ i) : pm_ul f i b x = f x := by simp [pm_ul, h]
/-- S: the sum in work; cur: the cell in work, its sides below j done; rest: the cells of this sum still to come; dn, wa: done, waiting; LL: the lists of the ring -/
def pm_W (p : Int → Int) (g S cur j hd : Int) (rest : List Int) (lf rg nx : Int → Int) (wt : Int) (dn wa : Int → Bool) (LL : Int → List Int) : Prop :=
  (lf g = 0 ∧ ∀ c, 0 ≤ c → c < 144 → 0 ≤ lf c ∧ lf c ≤ 1073741824) ∧
  (∀ c, 0 ≤ c → c < 144 → c ≠ g → lf c < 1073741824 → ∃ n, pm_nb c n ∧ dn n = true ∧ lf c = lf n + 256 * p n + 1) ∧
  (∀ n, 0 ≤ n → n < 144 → dn n = true → 0 < p n ∧ lf n < 1073741824 ∧ lf n / 256 + p n ≤ S ∧ ∀ k, 0 ≤ k → k < 4 → pm_bs n k ≠ -1 → (n = cur → k < j) → lf (pm_bs n k) ≤ lf n + 256 * p n + 1) ∧
  (∀ c, 0 ≤ c → c < 144 → wa c = true → 0 < p c ∧ lf c < 1073741824 ∧ S ≤ lf c / 256 + p c ∧ dn c = false) ∧
  (∀ c, 0 ≤ c → c < 144 → 0 < p c → lf c < 1073741824 → wa c = true ∨ dn c = true) ∧
  (∀ s, 0 ≤ s → s < 10 → pm_ch nx (rg s) (LL s) ∧ (LL s).Nodup ∧ ∀ x, x ∈ LL s ↔ (0 ≤ x ∧ x < 144) ∧ wa x = true ∧ lf x / 256 + p x ≠ S ∧ (lf x / 256 + p x) % 10 = s) ∧
  (rest.Nodup ∧ pm_ch nx hd rest ∧ ∀ x, x ∈ rest ↔ (0 ≤ x ∧ x < 144) ∧ wa x = true ∧ lf x / 256 + p x = S) ∧
  wt = (pm_ct wa 144 : Nat)
theorem pm_W_ct {p : Int → Int} {g S cur j hd : Int} {rest : List Int} {lf rg nx : Int → Int} {wt : Int} {dn wa : Int → Bool} {LL : Int → List Int} (hp : pm_P p) (h : pm_W p g S cur j hd rest lf rg nx wt dn wa LL) : ∀ c, 0 ≤ c → c < 144 → lf c < 1073741824 → lf c % 256 ≤ 143 ∧ lf c / 256 ≤ 9 * (lf c % 256) := by
  refine pm_CT (fun c h1 h2 => (h.1.2 c h1 h2).1) h.1.1 (fun c h1 h2 h3 h4 => ?_)
  obtain ⟨n, hn, hd, he⟩ := h.2.1 c h1 h2 h3 h4
  have h5 := h.2.2.1 n hn.2.1.1 hn.2.1.2 hd
  exact ⟨n, p n, hn.2.1, h5.2.1, hp n hn.2.1.1 hn.2.1.2, he⟩
/-- a reached cell's price: that of a sum worked off -/
theorem pm_W_P {p : Int → Int} {g S cur j hd : Int} {rest : List Int} {lf rg nx : Int → Int} {wt : Int} {dn wa : Int → Bool} {LL : Int → List Int} (hp : pm_P p) (h : pm_W p g S cur j hd rest lf rg nx wt dn wa LL) : ∀ c, 0 ≤ c → c < 144 → lf c < 1073741824 → c = g ∨ lf c / 256 ≤ S := by
  intro c h1 h2 h3
  by_cases hc : c = g
  · exact Or.inl hc
  · right
    obtain ⟨n, hn, hd, he⟩ := h.2.1 c h1 h2 hc h3
    have h5 := h.2.2.1 n hn.2.1.1 hn.2.1.2 hd
    have h6 := pm_W_ct hp h n hn.2.1.1 hn.2.1.2 h5.2.1
    obtain ⟨e1, e2⟩ := pm_dm (a := lf c) (j := lf n / 256 + p n) (r := lf n % 256 + 1) (by omega) (by omega) (by omega)
    rw [e1]; exact h5.2.2.1
theorem sp_waitFor {rg nx : Int → Int} {wt x s : Int} {Q : (Int → Int) → (Int → Int) → Int → Prop} (hx : 0 ≤ x ∧ x < 144) (hs : 0 ≤ s ∧ s ≤ 4096) (hQ : Q (ph_u rg (s % 10) x) (ph_u nx x (rg (s % 10))) (wt + 1)) : F_waitFor_wp rg nx wt x s Q := by
  refine ⟨⟨⟨hs.1, by omega, by omega⟩, ⟨by decide, by decide, by decide⟩⟩, fun y hy => ⟨by omega, hx, fun n2 hn2 => ⟨by omega, fun r2 hr2 => fun w2 hw2 => ?_⟩⟩⟩
  subst hy; subst hn2; subst hr2; subst hw2
  exact hQ
/-- one side of the cell in work -/
theorem pm_side {p : Int → Int} {g S n j hd : Int} {rest : List Int} {lf rg nx : Int → Int} {wt : Int} {dn wa : Int → Bool} {LL : Int → List Int} (hp : pm_P p) (h : pm_W p g S n j hd rest lf rg nx wt dn wa LL) (hj : 0 ≤ j ∧ j < 4) (hn : 0 ≤ n ∧ n < 144) (hdn : dn n = true) (hkey : lf n / 256 + p n = S) (to : Int) (hto : pm_bs n j = to) (hm : to ≠ -1) (hlt : lf n + 256 * p n + 1 < lf to) (hd0 : ∀ c, 0 ≤ c → c < 144 → lf c < 1073741824 → lf c % 256 ≤ 143 ∧ lf c / 256 ≤ 9 * (lf c % 256)) :
    (lf to = 1073741824 → 0 < p to → pm_W p g S n (j + 1) hd rest (ph_u lf to (lf n + 256 * p n + 1)) (ph_u rg ((S + p to) % 10) to) (ph_u nx to (rg ((S + p to) % 10))) (wt + 1) dn (pm_ub wa to true) (pm_ul LL ((S + p to) % 10) (to :: LL ((S + p to) % 10)))) ∧
    (¬ (lf to = 1073741824 ∧ 0 < p to) → pm_W p g S n (j + 1) hd rest (ph_u lf to (lf n + 256 * p n + 1)) rg nx wt dn wa LL) := by
  have hnb : pm_nb n to := by rw [← hto]; exact pm_bs_nb hn (by rw [hto]; exact hm)
  have htc := hnb.2.1
  have hne : to ≠ n := by have := hnb.2.2; omega
  have hpt := hp to htc.1 htc.2
  have hpn := hp n hn.1 hn.2
  obtain ⟨ha, hb, hc, hwd, hf, hg, hr, ht⟩ := h
  have hcn := hc n hn.1 hn.2 hdn
  have hctn := hd0 n hn.1 hn.2 hcn.2.1
  have hlfn := ha.2 n hn.1 hn.2
  obtain ⟨e1, e2⟩ := pm_dm (a := lf n + 256 * p n + 1) (j := S) (r := lf n % 256 + 1) (by omega) (by omega) (by omega)
  have hnd : dn to = false := by
    cases hq : dn to with
    | false => rfl
    | true => have := hc to htc.1 htc.2 hq; omega
  have hng : to ≠ g := fun q => by rw [q, ha.1] at hlt; omega
  have hP : lf to < 1073741824 → lf to / 256 = S := by
    intro hfin
    obtain ⟨m, hmn, hmd, hme⟩ := hb to htc.1 htc.2 hng hfin
    have h5 := hc m hmn.2.1.1 hmn.2.1.2 hmd
    have h6 := hd0 m hmn.2.1.1 hmn.2.1.2 h5.2.1
    obtain ⟨e3, e4⟩ := pm_dm (a := lf to) (j := lf m / 256 + p m) (r := lf m % 256 + 1) (by omega) (by omega) (by omega)
    omega
  have hlow : lf n + 256 * p n + 1 < 1073741824 := by omega
  -- what holds of the numbers, whichever way
  have A1 : ph_u lf to (lf n + 256 * p n + 1) g = 0 ∧ ∀ c, 0 ≤ c → c < 144 → 0 ≤ ph_u lf to (lf n + 256 * p n + 1) c ∧ ph_u lf to (lf n + 256 * p n + 1) c ≤ 1073741824 := by
    refine ⟨by rw [pm_un (Ne.symm hng)]; exact ha.1, fun c h1 h2 => ?_⟩
    by_cases hct : c = to
    · subst hct; rw [pm_us]; omega
    · rw [pm_un hct]; exact ha.2 c h1 h2
  have A2 : ∀ c, 0 ≤ c → c < 144 → c ≠ g → ph_u lf to (lf n + 256 * p n + 1) c < 1073741824 → ∃ m, pm_nb c m ∧ dn m = true ∧ ph_u lf to (lf n + 256 * p n + 1) c = ph_u lf to (lf n + 256 * p n + 1) m + 256 * p m + 1 := by
    intro c h1 h2 h3 h4
    by_cases hct : c = to
    · subst hct
      exact ⟨n, pm_nb_sym hnb, hdn, by rw [pm_us, pm_un (Ne.symm hne)]⟩
    · rw [pm_un hct] at h4 ⊢
      obtain ⟨m, hmn, hmd, hme⟩ := hb c h1 h2 h3 h4
      refine ⟨m, hmn, hmd, ?_⟩
      rw [pm_un (fun q => by rw [q, hnd] at hmd; cases hmd)]
      exact hme
  have A3 : ∀ m, 0 ≤ m → m < 144 → dn m = true → 0 < p m ∧ ph_u lf to (lf n + 256 * p n + 1) m < 1073741824 ∧ ph_u lf to (lf n + 256 * p n + 1) m / 256 + p m ≤ S ∧ ∀ k, 0 ≤ k → k < 4 → pm_bs m k ≠ -1 → (m = n → k < j + 1) → ph_u lf to (lf n + 256 * p n + 1) (pm_bs m k) ≤ ph_u lf to (lf n + 256 * p n + 1) m + 256 * p m + 1 := by
    intro m h1 h2 h3
    have hmt : m ≠ to := fun q => by rw [q, hnd] at h3; cases h3
    have h5 := hc m h1 h2 h3
    rw [pm_un hmt]
    refine ⟨h5.1, h5.2.1, h5.2.2.1, fun k k0 k1 k2 k3 => ?_⟩
    by_cases hbt : pm_bs m k = to
    · rw [hbt, pm_us]
      by_cases hmn : m = n
      · subst hmn; omega
      · have := h5.2.2.2 k k0 k1 k2 (fun q => absurd q hmn)
        rw [hbt] at this
        omega
    · rw [pm_un hbt]
      refine h5.2.2.2 k k0 k1 k2 (fun q => ?_)
      have := k3 q
      rcases (show k < j ∨ k = j by omega) with z | z
      · exact z
      · subst z; subst q; exact absurd hto hbt
  have hrt : to ∉ rest := fun q => by
    have := (hr.2.2 to).mp q
    have h7 := hwd to htc.1 htc.2 this.2.1
    omega
  have hrk : ∀ x, x ≠ to → ph_u lf to (lf n + 256 * p n + 1) x = lf x := fun x hx => pm_un hx
  constructor
  · intro hFar hpos
    have hwt : wa to = false := by
      cases hq : wa to with
      | false => rfl
      | true => have := hwd to htc.1 htc.2 hq; omega
    refine ⟨A1, A2, A3, ?_, ?_, ?_, ?_, ?_⟩
    · intro c h1 h2 h3
      by_cases hct : c = to
      · subst hct; rw [pm_us, e1]; exact ⟨hpos, hlow, by omega, hnd⟩
      · rw [pm_bn hct] at h3; rw [pm_un hct]; exact hwd c h1 h2 h3
    · intro c h1 h2 h3 h4
      by_cases hct : c = to
      · subst hct; left; rw [pm_bs1]
      · rw [pm_un hct] at h4; rw [pm_bn hct]; exact hf c h1 h2 h3 h4
    · intro s h1 h2
      obtain ⟨g1, g2, g3⟩ := hg s h1 h2
      have hts : to ∉ LL s := fun q => by have := (g3 to).mp q; rw [hwt] at this; exact absurd this.2.1 (by decide)
      by_cases hs : s = (S + p to) % 10
      · subst hs
        rw [pm_us, pm_ls]
        refine ⟨⟨rfl, ?_⟩, List.nodup_cons.mpr ⟨hts, g2⟩, fun x => ?_⟩
        · rw [pm_us]; exact pm_ch_up hts g1
        · rw [List.mem_cons]
          by_cases hx : x = to
          · subst hx
            rw [pm_us, e1, pm_bs1]
            exact ⟨fun _ => ⟨htc, rfl, by omega, rfl⟩, fun _ => Or.inl rfl⟩
          · rw [hrk x hx, pm_bn hx, ← g3 x]
            exact ⟨fun q => q.resolve_left hx, fun q => Or.inr q⟩
      · rw [pm_un hs, pm_ln hs]
        refine ⟨pm_ch_up hts g1, g2, fun x => ?_⟩
        by_cases hx : x = to
        · subst hx
          rw [pm_us, e1, pm_bs1]
          exact ⟨fun q => absurd q hts, fun q => absurd q.2.2.2.symm hs⟩
        · rw [hrk x hx, pm_bn hx]; exact g3 x
    · refine ⟨hr.1, pm_ch_up hrt hr.2.1, fun x => ?_⟩
      by_cases hx : x = to
      · subst hx
        rw [pm_us, e1, pm_bs1]
        exact ⟨fun q => absurd q hrt, fun q => by omega⟩
      · rw [hrk x hx, pm_bn hx]; exact hr.2.2 x
    · rw [pm_ct_up (p := wa) (q := pm_ub wa to true) (i := to) (n := 144) htc.1 htc.2 hwt pm_bs1 (fun k _ _ hk => (pm_bn hk).symm), ht]
      omega
  · intro hno
    refine ⟨A1, A2, A3, ?_, ?_, ?_, ?_, ht⟩
    · intro c h1 h2 h3
      by_cases hct : c = to
      · subst hct
        have h7 := hwd c h1 h2 h3
        rw [pm_us, e1]
        exact ⟨h7.1, hlow, by omega, hnd⟩
      · rw [pm_un hct]; exact hwd c h1 h2 h3
    · intro c h1 h2 h3 h4
      by_cases hct : c = to
      · subst hct
        have h8 := ha.2 c h1 h2
        exact hf c h1 h2 h3 (by omega)
      · rw [pm_un hct] at h4; exact hf c h1 h2 h3 h4
    · intro s h1 h2
      obtain ⟨g1, g2, g3⟩ := hg s h1 h2
      refine ⟨g1, g2, fun x => ?_⟩
      by_cases hx : x = to
      · subst hx
        rw [g3 x, pm_us, e1]
        constructor
        · intro q
          have h7 := hwd x htc.1 htc.2 q.2.1
          have h9 := hP h7.2.1
          rw [h9] at q
          exact q
        · intro q
          have h7 := hwd x htc.1 htc.2 q.2.1
          rw [hP h7.2.1]
          exact q
      · rw [hrk x hx]; exact g3 x
    · refine ⟨hr.1, hr.2.1, fun x => ?_⟩
      by_cases hx : x = to
      · subst hx
        rw [pm_us, e1]
        refine ⟨fun q => absurd q hrt, fun q => ?_⟩
        have h7 := hwd x htc.1 htc.2 q.2.1
        omega
      · rw [hrk x hx]; exact hr.2.2 x
theorem sp_reachFrom {p : Int → Int} {g S n hd : Int} {rest : List Int} {lf rg nx : Int → Int} {wt : Int} {dn wa : Int → Bool} {LL : Int → List Int} {Q : (Int → Int) → (Int → Int) → (Int → Int) → Int → Prop} (hp : pm_P p) (hS : 0 ≤ S ∧ S ≤ 1296) (h : pm_W p g S n 0 hd rest lf rg nx wt dn wa LL) (hn : 0 ≤ n ∧ n < 144) (hdn : dn n = true) (hkey : lf n / 256 + p n = S) (hnx : nx n = hd) (hQ : ∀ lf' rg' nx' wt' wa' LL', pm_W p g S n 4 hd rest lf' rg' nx' wt' dn wa' LL' → nx' n = hd → Q lf' rg' nx' wt') : F_reachFrom_wp p lf rg nx wt n S Q := by
  refine ⟨hn, hn, fun th hth => ?_⟩
  refine pm_l5 (fun (j : Int) (lf2 rg2 nx2 : Int → Int) (wt2 : Int) => (0 ≤ j ∧ j ≤ 4) ∧ lf2 n = lf n ∧ nx2 n = hd ∧ ∃ wa2 LL2, pm_W p g S n j hd rest lf2 rg2 nx2 wt2 dn wa2 LL2) (fun (j : Int) _ _ _ _ => (4 - j).toNat) ?_ 0 lf rg nx wt ⟨⟨by decide, by decide⟩, rfl, hnx, wa, LL, h⟩
  intro Kh j lf2 rg2 nx2 wt2 ⟨hj, hlf, hnx2, wa2, LL2, hW⟩ hK
  have hct := pm_W_ct hp hW
  have hcn := hW.2.2.1 n hn.1 hn.2 hdn
  have hpn := hp n hn.1 hn.2
  have hctn := hct n hn.1 hn.2 hcn.2.1
  have hln := hW.1.2 n hn.1 hn.2
  refine ⟨⟨by omega, by omega⟩, ⟨by decide, by decide⟩, fun h4 => ?_, fun h4 => ?_⟩
  · refine sp_Fbeside hn ⟨hj.1, h4⟩ ?_
    have skip : ∀ (_ : pm_bs n j = -1 ∨ lf2 (pm_bs n j) ≤ lf2 n + 256 * p n + 1) (y : Int), y = j + 1 → Kh y lf2 rg2 nx2 wt2 := by
      intro hs y hy
      subst hy
      refine hK _ _ _ _ _ ⟨by omega, hlf, hnx2, wa2, LL2, hW.1, hW.2.1, fun m h1 h2 h3 => ?_, hW.2.2.2⟩ (by omega)
      have h5 := hW.2.2.1 m h1 h2 h3
      refine ⟨h5.1, h5.2.1, h5.2.2.1, fun k k0 k1 k2 k3 => ?_⟩
      by_cases hmn : m = n
      · subst hmn
        rcases (show k < j ∨ k = j by have := k3 rfl; omega) with z | z
        · exact h5.2.2.2 k k0 k1 k2 (fun _ => z)
        · subst z; exact hs.resolve_left k2
      · exact h5.2.2.2 k k0 k1 k2 (fun q => absurd q hmn)
    by_cases hm : pm_bs n j = -1
    · rw [hm]
      exact ⟨⟨by decide, by decide⟩, ⟨by decide, by decide⟩, fun _ => skip (Or.inl hm), fun q => absurd rfl q⟩
    · have hnb := pm_bs_nb hn hm
      have htc := hnb.2.1
      have hpt := hp _ htc.1 htc.2
      have hlt := hW.1.2 _ htc.1 htc.2
      have hkey2 : lf2 n / 256 + p n = S := by rw [hlf]; exact hkey
      have eth : th = lf2 n + 256 * p n + 1 := by rw [hth, hlf]; omega
      refine ⟨⟨by omega, by omega⟩, ⟨by decide, by decide⟩, fun q => absurd q hm, fun _ => ⟨htc, ⟨by omega, by omega⟩, ⟨by omega, by omega⟩, fun hlt2 => ?_, fun hlt2 => skip (Or.inr (by omega))⟩⟩
      have hs := pm_side hp hW ⟨hj.1, h4⟩ hn hdn hkey2 (pm_bs n j) rfl hm (by omega) hct
      have hne : pm_bs n j ≠ n := by have := hnb.2.2; omega
      have done0 : ¬ (lf2 (pm_bs n j) = 1073741824 ∧ 0 < p (pm_bs n j)) → F_reachFrom_j94 p lf2 rg2 nx2 wt2 n S th j (pm_bs n j) Q Kh := by
        intro hno
        refine ⟨htc, fun l2 hl2 => fun y hy => ?_⟩
        subst hy
        subst hl2
        refine hK _ _ _ _ _ ⟨by omega, ?_, hnx2, wa2, LL2, ?_⟩ (by omega)
        · rw [pm_un (Ne.symm hne)]; exact hlf
        · rw [eth]; exact hs.2 hno
      refine ⟨htc, ⟨by omega, by omega⟩, ⟨by decide, by decide⟩, fun hFar => ⟨htc, ⟨by decide, by decide⟩, ⟨by omega, by omega⟩, fun hpos => ⟨htc, ?_⟩, fun hpos => done0 (fun q => hpos q.2)⟩, fun hFar => done0 (fun q => hFar q.1)⟩
      refine sp_waitFor htc ⟨by omega, by omega⟩ ?_
      refine ⟨htc, fun l2 hl2 => fun y hy => ?_⟩
      subst hy
      subst hl2
      refine hK _ _ _ _ _ ⟨by omega, ?_, ?_, pm_ub wa2 (pm_bs n j) true, pm_ul LL2 ((S + p (pm_bs n j)) % 10) (pm_bs n j :: LL2 ((S + p (pm_bs n j)) % 10)), ?_⟩ (by omega)
      · rw [pm_un (Ne.symm hne)]; exact hlf
      · rw [pm_un (Ne.symm hne)]; exact hnx2
      · rw [eth]; exact hs.1 hFar hpos
  · have hj4 : j = 4 := by omega
    subst hj4
    exact hQ _ _ _ _ _ _ hW hnx2
/-- between two sums -/
def pm_J (p : Int → Int) (g S : Int) (lf rg nx : Int → Int) (wt : Int) : Prop := ∃ dn wa LL, pm_W p g (S - 1) (-1) 0 (-1) [] lf rg nx wt dn wa LL
theorem sp_workOff {p : Int → Int} {g S : Int} {lf rg nx : Int → Int} {wt : Int} {Q : (Int → Int) → (Int → Int) → (Int → Int) → Int → Prop} (hp : pm_P p) (hS : 0 ≤ S ∧ S ≤ 1296) (h : pm_J p g S lf rg nx wt) (hQ : ∀ lf' rg' nx' wt', pm_J p g (S + 1) lf' rg' nx' wt' → Q lf' rg' nx' wt') : F_workOff_wp p lf rg nx wt S Q := by
  obtain ⟨dn, wa, LL, hW⟩ := h
  refine ⟨⟨⟨hS.1, by omega, by omega⟩, ⟨by decide, by decide, by decide⟩⟩, fun pl hpl => ⟨by omega, fun hd hhd => ⟨by omega, fun r2 hr2 => ?_⟩⟩⟩
  have hP := pm_W_P hp hW
  have hct := pm_W_ct hp hW
  have win : ∀ x, 0 ≤ x → x < 144 → wa x = true → S ≤ lf x / 256 + p x ∧ lf x / 256 + p x ≤ S + 9 ∧ lf x / 256 + p x ≠ S - 1 := by
    intro x h1 h2 h3
    have h4 := hW.2.2.2.1 x h1 h2 h3
    have h5 := hP x h1 h2 h4.2.1
    have h6 := hp x h1 h2
    have h7 : lf x / 256 + p x ≠ S - 1 := fun q => by
      have := (hW.2.2.2.2.2.2.1.2.2 x).mpr ⟨⟨h1, h2⟩, h3, q⟩
      cases this
    rcases h5 with h5 | h5
    · subst h5; rw [hW.1.1] at h7 h4 ⊢; omega
    · omega
  have hg := hW.2.2.2.2.2.1
  obtain ⟨g1, g2, g3⟩ := hg pl (by omega) (by omega)
  have hW2 : pm_W p g S (-1) 0 hd (LL pl) lf r2 nx wt dn wa (pm_ul LL pl []) := by
    refine ⟨hW.1, hW.2.1, fun n h1 h2 h3 => ?_, fun c h1 h2 h3 => ?_, hW.2.2.2.2.1, fun s h1 h2 => ?_, ⟨g2, by rw [hhd]; exact g1, fun x => ?_⟩, hW.2.2.2.2.2.2.2⟩
    · have h5 := hW.2.2.1 n h1 h2 h3
      exact ⟨h5.1, h5.2.1, by omega, h5.2.2.2⟩
    · have h5 := hW.2.2.2.1 c h1 h2 h3
      exact ⟨h5.1, h5.2.1, (win c h1 h2 h3).1, h5.2.2.2⟩
    · by_cases hs : s = pl
      · subst hs
        rw [hr2, pm_us, pm_ls]
        refine ⟨rfl, List.nodup_nil, fun x => ⟨fun q => (by cases q), fun q => ?_⟩⟩
        have := win x q.1.1 q.1.2 q.2.1
        omega
      · rw [hr2, pm_un hs, pm_ln hs]
        obtain ⟨k1, k2, k3⟩ := hg s h1 h2
        refine ⟨k1, k2, fun x => ?_⟩
        rw [k3 x]
        constructor
        · intro q; have := win x q.1.1 q.1.2 q.2.1; exact ⟨q.1, q.2.1, by omega, q.2.2.2⟩
        · intro q; have := win x q.1.1 q.1.2 q.2.1; exact ⟨q.1, q.2.1, by omega, q.2.2.2⟩
    · rw [g3 x]
      constructor
      · intro q; have := win x q.1.1 q.1.2 q.2.1; exact ⟨q.1, q.2.1, by omega⟩
      · intro q; have := win x q.1.1 q.1.2 q.2.1; exact ⟨q.1, q.2.1, by omega, by omega⟩
  have hlen : (LL pl).length ≤ 144 := pm_len g2 (fun x hx => ((g3 x).mp hx).1)
  refine pm_l6 (fun (x3 x4 : Int) (lf2 rg2 nx2 : Int → Int) (wt2 : Int) => ∃ rest dn2 wa2 LL2, 0 ≤ x4 ∧ x4 + (rest.length : Int) ≤ 144 ∧ pm_W p g S (-1) 0 x3 rest lf2 rg2 nx2 wt2 dn2 wa2 LL2) (fun (_ x4 : Int) _ _ _ _ => (145 - x4).toNat) ?_ hd 0 lf r2 nx wt ⟨LL pl, dn, wa, pm_ul LL pl [], by decide, by omega, hW2⟩
  intro Kh x3 x4 lf2 rg2 nx2 wt2 ⟨rest, dn2, wa2, LL2, h0, hl, hX⟩ hK
  have fin : rest = [] → Q lf2 rg2 nx2 wt2 := by
    intro hr
    subst hr
    refine hQ _ _ _ _ ⟨dn2, wa2, LL2, ?_⟩
    have e1 : S + 1 - 1 = S := by omega
    have e3 : x3 = -1 := hX.2.2.2.2.2.2.1.2.1
    rw [e1]
    rw [e3] at hX
    exact hX
  cases rest with
  | nil =>
    have e3 : x3 = -1 := hX.2.2.2.2.2.2.1.2.1
    refine ⟨⟨by omega, by omega⟩, ⟨by decide, by decide⟩, fun _ => ⟨⟨by omega, by omega⟩, ⟨by decide, by decide⟩, fun _ => fin rfl, fun q => absurd e3 q⟩, fun _ => fin rfl⟩
  | cons n rest =>
    have hlen2 : x4 + ((rest.length : Int) + 1) ≤ 144 := by simpa using hl
    obtain ⟨b1, b2, b3, b4, b5, b6, ⟨r1, r2', r3⟩, b8⟩ := hX
    obtain ⟨en, hch⟩ := r2'
    subst en
    have hn := (r3 x3).mp List.mem_cons_self
    have hnr : x3 ∉ rest ∧ rest.Nodup := List.nodup_cons.mp r1
    have hwn := b4 x3 hn.1.1 hn.1.2 hn.2.1
    refine ⟨⟨by omega, by omega⟩, ⟨by decide, by decide⟩, fun _ => ⟨⟨by omega, by omega⟩, ⟨by decide, by decide⟩, fun q => absurd q (by omega), fun _ => fun w2 hw2 => ?_⟩, fun q => absurd q (by omega)⟩
    have hY : pm_W p g S x3 0 (nx2 x3) rest lf2 rg2 nx2 w2 (pm_ub dn2 x3 true) (pm_ub wa2 x3 false) LL2 := by
      refine ⟨b1, fun c h1 h2 h3 h4 => ?_, fun m h1 h2 h3 => ?_, fun c h1 h2 h3 => ?_, fun c h1 h2 h3 h4 => ?_, fun s h1 h2 => ?_, ⟨hnr.2, hch, fun x => ?_⟩, ?_⟩
      · obtain ⟨m, hm1, hm2, hm3⟩ := b2 c h1 h2 h3 h4
        refine ⟨m, hm1, ?_, hm3⟩
        by_cases hmx : m = x3
        · subst hmx; exact pm_bs1
        · rw [pm_bn hmx]; exact hm2
      · by_cases hmx : m = x3
        · subst hmx
          exact ⟨hwn.1, hwn.2.1, by omega, fun k k0 k1 k2 k3 => by have := k3 rfl; omega⟩
        · rw [pm_bn hmx] at h3
          have h5 := b3 m h1 h2 h3
          exact ⟨h5.1, h5.2.1, h5.2.2.1, fun k k0 k1 k2 _ => h5.2.2.2 k k0 k1 k2 (fun q => by omega)⟩
      · by_cases hcx : c = x3
        · subst hcx; rw [pm_bs1] at h3; cases h3
        · rw [pm_bn hcx] at h3 ⊢; exact b4 c h1 h2 h3
      · by_cases hcx : c = x3
        · subst hcx; right; exact pm_bs1
        · rw [pm_bn hcx, pm_bn hcx]; exact b5 c h1 h2 h3 h4
      · obtain ⟨k1, k2, k3⟩ := b6 s h1 h2
        refine ⟨k1, k2, fun x => ?_⟩
        rw [k3 x]
        by_cases hxx : x = x3
        · subst hxx
          rw [pm_bs1]
          exact ⟨fun q => absurd hn.2.2 q.2.2.1, fun q => absurd q.2.1 (by decide)⟩
        · rw [pm_bn hxx]
      · by_cases hxx : x = x3
        · subst hxx
          rw [pm_bs1]
          exact ⟨fun q => absurd q hnr.1, fun q => absurd q.2.1 (by decide)⟩
        · rw [pm_bn hxx, ← r3 x, List.mem_cons]
          exact ⟨fun q => Or.inr q, fun q => q.resolve_left hxx⟩
      · have := pm_ct_up (p := pm_ub wa2 x3 false) (q := wa2) (i := x3) (n := 144) hn.1.1 hn.1.2 pm_bs1 hn.2.1 (fun k _ _ hk => pm_bn hk)
        omega
    refine sp_reachFrom hp hS hY hn.1 pm_bs1 hn.2.2 rfl (fun lf3 rg3 nx3 wt3 wa3 LL3 hZ hnx3 => ⟨hn.1, fun y hy => fun z hz => ?_⟩)
    subst hy
    subst hz
    rw [hnx3]
    refine hK _ _ _ _ _ _ ⟨rest, pm_ub dn2 x3 true, wa3, LL3, by omega, by omega, hZ.1, hZ.2.1, fun m h1 h2 h3 => ?_, hZ.2.2.2⟩ (by omega)
    have h5 := hZ.2.2.1 m h1 h2 h3
    exact ⟨h5.1, h5.2.1, h5.2.2.1, fun k k0 k1 k2 _ => h5.2.2.2 k k0 k1 k2 (fun _ => k1)⟩
theorem sp_search {p : Int → Int} {g : Int} {lf rg nx : Int → Int} {wt : Int} {Q : (Int → Int) → (Int → Int) → (Int → Int) → Int → Prop} (hp : pm_P p) (hg : 0 ≤ g ∧ g < 144) (hQ : ∀ D rg' nx' wt', pm_BE 256 1073741824 p g D → Q D rg' nx' wt') : F_searchBackFrom_wp p lf rg nx wt g Q := by
  refine sp_fill ⟨by decide, by decide⟩ (fun l1 hl1 => sp_fill ⟨by decide, by decide⟩ (fun r1 hr1 => ⟨hg, fun l2 hl2 => ⟨hg, ?_⟩⟩))
  have hpg := hp g hg.1 hg.2
  have hl2g : l2 g = 0 := by rw [hl2, pm_us]
  have hl2n : ∀ c, 0 ≤ c → c < 144 → c ≠ g → l2 c = 1073741824 := fun c h1 h2 h3 => by rw [hl2, pm_un h3]; exact hl1 c h1 h2
  have base : (l2 g = 0 ∧ ∀ c, 0 ≤ c → c < 144 → 0 ≤ l2 c ∧ l2 c ≤ 1073741824) := by
    refine ⟨hl2g, fun c h1 h2 => ?_⟩
    by_cases hc : c = g
    · subst hc; rw [hl2g]; omega
    · rw [hl2n c h1 h2 hc]; omega
  have main : ∀ (rg2 nx2 : Int → Int) (w2 : Int), pm_J p g 0 l2 rg2 nx2 w2 → ∃ kk, ph_it (fun _ _ _ _ _ => False) (F_searchBackFrom_l51 p Q) kk 0 l2 rg2 nx2 w2 := by
    intro rg2 nx2 w2 hJ
    refine pm_l5 (fun (S : Int) (lf2 rg2 nx2 : Int → Int) (wt2 : Int) => (0 ≤ S ∧ S ≤ 1297) ∧ pm_J p g S lf2 rg2 nx2 wt2) (fun (S : Int) _ _ _ _ => (1297 - S).toNat) ?_ 0 l2 rg2 nx2 w2 ⟨by decide, hJ⟩
    intro Kh S lf2 rg2 nx2 wt2 ⟨hS, hJ2⟩ hK
    have fin : (¬ 0 < wt2 ∨ 1296 < S) → Q lf2 rg2 nx2 wt2 := by
      intro hend
      obtain ⟨dn, wa, LL, hW⟩ := hJ2
      have hct := pm_W_ct hp hW
      have nowait : ∀ c, 0 ≤ c → c < 144 → wa c = false := by
        intro c h1 h2
        rcases hend with q | q
        · have e := hW.2.2.2.2.2.2.2
          exact pm_ct_zero (p := wa) (n := 144) (by omega) c h1 h2
        · cases hw : wa c with
          | false => rfl
          | true =>
            have h3 := hW.2.2.2.1 c h1 h2 hw
            have h4 := hct c h1 h2 h3.2.1
            have h5 := hp c h1 h2
            have h6 : lf2 c / 256 + p c ≠ S - 1 := fun z => by
              have := (hW.2.2.2.2.2.2.1.2.2 c).mpr ⟨⟨h1, h2⟩, hw, z⟩
              cases this
            omega
      refine hQ _ _ _ _ ⟨hW.1.1, hW.1.2, fun c h1 h2 h3 h4 => ?_, fun c n hn h1 h2 => ?_⟩
      · obtain ⟨n, hn, hd, he⟩ := hW.2.1 c h1 h2 h3 h4
        have h5 := hW.2.2.1 n hn.2.1.1 hn.2.1.2 hd
        exact ⟨n, hn, h5.1, h5.2.1, he⟩
      · have hd : dn n = true := by
          rcases hW.2.2.2.2.1 n hn.2.1.1 hn.2.1.2 h1 h2 with q | q
          · rw [nowait n hn.2.1.1 hn.2.1.2] at q; cases q
          · exact q
        obtain ⟨k, hk, e⟩ := pm_nb_bs (pm_nb_sym hn)
        have h5 := (hW.2.2.1 n hn.2.1.1 hn.2.1.2 hd).2.2.2 k hk.1 hk.2 (by rw [e]; have := hn.1; omega) (fun q => by have := hn.2.1; omega)
        rw [e] at h5
        exact h5
    have hwr : 0 ≤ wt2 ∧ wt2 ≤ 144 := by
      obtain ⟨dn, wa, LL, hW⟩ := hJ2
      have e := hW.2.2.2.2.2.2.2
      have := pm_ct_le wa 144
      omega
    refine ⟨⟨by decide, by decide⟩, ⟨by omega, by omega⟩, fun hw => ⟨⟨by decide, by decide⟩, ⟨by omega, by omega⟩, fun hs => fin (Or.inr hs), fun hs => ?_⟩, fun hw => fin (Or.inl hw)⟩
    refine sp_workOff hp ⟨hS.1, by omega⟩ hJ2 (fun lf3 rg3 nx3 wt3 hJ3 => fun y hy => ?_)
    subst hy
    exact hK _ _ _ _ _ ⟨by omega, hJ3⟩ (by omega)
  refine ⟨⟨by decide, by decide⟩, ⟨by omega, by omega⟩, fun hpos => ⟨hg, ?_⟩, fun hz => ?_⟩
  · refine sp_waitFor hg ⟨by omega, by omega⟩ (main _ _ _ ?_)
    have e0 : (0 : Int) - 1 = -1 := by decide
    refine ⟨fun _ => false, pm_ub (fun _ => false) g true, pm_ul (fun _ => []) (p g % 10) [g], base, fun c h1 h2 h3 h4 => ?_, fun n _ _ h3 => (by cases h3), fun c h1 h2 h3 => ?_, fun c h1 h2 h3 h4 => ?_, fun s h1 h2 => ?_, ⟨List.nodup_nil, rfl, fun x => ⟨fun q => (by cases q), fun q => ?_⟩⟩, ?_⟩
    · rw [hl2n c h1 h2 h3] at h4; omega
    · by_cases hc : c = g
      · subst hc; rw [hl2g]; exact ⟨hpos, by decide, by omega, rfl⟩
      · rw [pm_bn hc] at h3; cases h3
    · by_cases hc : c = g
      · subst hc; left; exact pm_bs1
      · rw [hl2n c h1 h2 hc] at h4; omega
    · by_cases hs : s = p g % 10
      · subst hs
        rw [pm_us, pm_ls]
        refine ⟨⟨rfl, ?_⟩, by simp, fun x => ?_⟩
        · rw [pm_us]; exact hr1 _ h1 h2
        · rw [List.mem_singleton]
          constructor
          · intro q; subst q; rw [pm_bs1, hl2g]; exact ⟨hg, rfl, by omega, by omega⟩
          · intro q
            by_cases hx : x = g
            · exact hx
            · rw [pm_bn hx] at q; exact absurd q.2.1 (by decide)
      · rw [pm_un hs, pm_ln hs]
        refine ⟨hr1 s h1 h2, List.nodup_nil, fun x => ⟨fun q => (by cases q), fun q => ?_⟩⟩
        by_cases hx : x = g
        · subst hx; rw [hl2g] at q; exact absurd q.2.2.2.symm (by omega)
        · rw [pm_bn hx] at q; exact absurd q.2.1 (by decide)
    · by_cases hx : x = g
      · subst hx; rw [hl2g] at q; omega
      · rw [pm_bn hx] at q; exact absurd q.2.1 (by decide)
    · have := pm_ct_up (p := fun _ => false) (q := pm_ub (fun _ => false) g true) (i := g) (n := 144) hg.1 hg.2 rfl pm_bs1 (fun k _ _ hk => by simp [pm_ub, hk])
      have z := pm_ct_0 144
      omega
  · refine main _ _ _ ⟨fun _ => false, fun _ => false, fun _ => [], base, fun c h1 h2 h3 h4 => ?_, fun n _ _ h3 => (by cases h3), fun c _ _ h3 => (by cases h3), fun c h1 h2 h3 h4 => ?_, fun s h1 h2 => ⟨hr1 s h1 h2, List.nodup_nil, fun x => ⟨fun q => (by cases q), fun q => absurd q.2.1 Bool.false_ne_true⟩⟩, ⟨List.nodup_nil, rfl, fun x => ⟨fun q => (by cases q), fun q => absurd q.2.1 Bool.false_ne_true⟩⟩, ?_⟩
    · rw [hl2n c h1 h2 h3] at h4; omega
    · by_cases hc : c = g
      · subst hc; omega
      · rw [hl2n c h1 h2 hc] at h4; omega
    · have z := pm_ct_0 144
      omega
