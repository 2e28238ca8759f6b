/-! the fewest bars: the table of the cuttings -/
section PMY
def pm_cn (bar b l : Int) : Int := if bar < b % 4096 + l then b - b % 4096 + 4096 + l else b + l
def pm_fg (q : Int → Int) (bar : Int) (D : Int → Int) (m : Nat) (a i : Int) : Int := if m / 2 ^ i.toNat % 2 = 0 then a else min a (pm_cn bar (D ((m - 2 ^ i.toNat : Nat) : Int)) (q i))
def pm_ft (q : Int → Int) (bar : Int) (D : Int → Int) (m t : Nat) : Int := pm_fo (pm_fg q bar D m) 53248 t
def pm_dp (q : Int → Int) (bar : Int) (t n : Nat) (D : Int → Int) : Prop := D 0 = bar ∧ ∀ m : Nat, 1 ≤ m → m < n → D m = pm_ft q bar D m t
theorem pm_ft_congr {q q' : Int → Int} {bar : Int} {D D' : Int → Int} {m : Nat} {t : Nat} (hq : ∀ i : Nat, i < t → q i = q' i) (h : ∀ n : Nat, n < m → D n = D' n) : pm_ft q bar D m t = pm_ft q' bar D' m t := by
  refine pm_fo_congr (fun k b hk => ?_)
  unfold pm_fg
  show (if m / 2 ^ k % 2 = 0 then b else min b (pm_cn bar (D ((m - 2 ^ k : Nat) : Int)) (q k))) = (if m / 2 ^ k % 2 = 0 then b else min b (pm_cn bar (D' ((m - 2 ^ k : Nat) : Int)) (q' k)))
  by_cases z : m / 2 ^ k % 2 = 0
  · rw [if_pos z, if_pos z]
  · have h1 := pm_pc_sb z
    have h2 : 0 < 2 ^ k := Nat.pow_pos (by decide)
    rw [if_neg z, if_neg z, h _ (by omega), hq k hk]
theorem pm_dp_un {q : Int → Int} {bar : Int} {t n : Nat} {D D' : Int → Int} (h : pm_dp q bar t n D) (h' : pm_dp q bar t n D') : ∀ m : Nat, m < n → D m = D' m := by
  have key : ∀ (k m : Nat), m < k → m < n → D m = D' m := by
    intro k
    induction k with
    | zero => intro m h0 _; exact absurd h0 (Nat.not_lt_zero _)
    | succ k ih =>
      intro m hk hn
      by_cases z : m = 0
      · subst z
        exact h.1.trans h'.1.symm
      · rw [h.2 m (by omega) hn, h'.2 m (by omega) hn]
        exact pm_ft_congr (fun _ _ => rfl) (fun n2 hn2 => ih n2 (by omega) (by omega))
  exact fun m hm => key (m + 1) m (Nat.lt_succ_self m) hm
theorem pm_cn_bd {bar b l : Int} (hb : 0 ≤ b ∧ b ≤ 53248) (hl : 0 ≤ l ∧ l ≤ 2000) : 0 ≤ pm_cn bar b l ∧ pm_cn bar b l ≤ 60000 := by
  unfold pm_cn; split <;> omega
theorem sp_cutNext {bar b l : Int} {Q : Int → Prop} (hb : 0 ≤ b ∧ b ≤ 53248) (hl : 0 ≤ l ∧ l ≤ 2000) (hbar : 50 ≤ bar ∧ bar ≤ 2000) (hQ : Q (pm_cn bar b l)) : S_cutNext_wp bar b l Q := by
  unfold pm_cn at hQ
  refine ⟨⟨⟨hb.1, ⟨by omega, by omega⟩⟩, ⟨by decide, by decide, by decide⟩⟩, fun x hx => ?_⟩
  subst hx
  refine ⟨⟨by omega, by omega⟩, ⟨by omega, by omega⟩, fun q => ?_, fun q => ?_⟩
  · rw [if_pos q] at hQ; exact hQ
  · rw [if_neg q] at hQ; exact hQ
theorem sp_best {pi q be : Int → Int} {bar : Int} {m t : Nat} {Q : Int → Prop} (ht : t ≤ 12) (hm : m < 4096) (hpi : ∀ i : Nat, i < t → pi i = q i) (hq : ∀ i : Nat, i < t → 1 ≤ q i ∧ q i ≤ bar) (hbar : 50 ≤ bar ∧ bar ≤ 2000) (hD : ∀ n : Nat, n < m → 0 ≤ be n ∧ be n ≤ 53248) (hQ : 0 ≤ pm_ft q bar be m t ∧ pm_ft q bar be m t ≤ 53248 → Q (pm_ft q bar be m t)) : S_bestCutting_wp pi be bar m t Q := by
  refine pm_l2 (fun (a x : Int) => ∃ k : Nat, (x = (k : Int) ∧ k ≤ t) ∧ a = pm_fo (pm_fg q bar be m) 53248 k ∧ 0 ≤ a ∧ a ≤ 53248) (fun (_ x : Int) => ((t : Int) - x).toNat) ?_ 53248 0 ⟨0, ⟨rfl, Nat.zero_le _⟩, rfl, by decide, by decide⟩
  intro Kh a x ⟨k, ⟨ex, hk⟩, e, ha⟩ hK
  subst ex
  refine ⟨⟨by omega, by omega⟩, ⟨by omega, by omega⟩, fun hlt => fun x5 h5 => ?_, fun hge => ?_⟩
  · have hb := pm_bits (m := m) (i := k) hm (by omega)
    rw [pm_shl_pow k (by omega)] at h5
    subst h5
    have eg : pm_fo (pm_fg q bar be m) 53248 (k + 1) = pm_fg q bar be m (pm_fo (pm_fg q bar be m) 53248 k) k := rfl
    rw [← e] at eg
    have eg2 : pm_fg q bar be m a k = if m / 2 ^ k % 2 = 0 then a else min a (pm_cn bar (be ((m - 2 ^ k : Nat) : Int)) (q k)) := rfl
    rw [eg2] at eg
    refine ⟨ph_R_of _, pm_R0, fun z => fun y hy => ?_, fun z => ?_⟩
    · subst hy
      have w : m / 2 ^ k % 2 = 0 := by
        by_cases w : m / 2 ^ k % 2 = 0
        · exact w
        · exact absurd z (hb.2 w).1
      rw [if_pos w] at eg
      exact hK _ _ ⟨k + 1, ⟨by omega, by omega⟩, eg.symm, ha⟩ (by omega)
    · have w : ¬ m / 2 ^ k % 2 = 0 := fun w => z (hb.1 w).1
      rw [if_neg w] at eg
      have h1 := pm_pc_sb w
      have h2 : 0 < 2 ^ k := Nat.pow_pos (by decide)
      rw [(hb.2 w).2.1, hpi k (by omega)]
      have hd := hD (m - 2 ^ k) (by omega)
      have hqk := hq k (by omega)
      have hc := pm_cn_bd (bar := bar) hd (show 0 ≤ q k ∧ q k ≤ 2000 by omega)
      refine ⟨by omega, by omega, sp_cutNext hd (by omega) hbar ⟨⟨⟨by omega, by omega⟩, ⟨by omega, by omega⟩⟩, fun a2 ha2 => fun y hy => ?_⟩⟩
      subst hy; subst ha2
      exact hK _ _ ⟨k + 1, ⟨by omega, by omega⟩, eg.symm, by omega⟩ (by omega)
  · have ek : k = t := by omega
    rw [ek] at e
    have e2 : a = pm_ft q bar be m t := e
    rw [← e2] at hQ
    exact hQ ha
theorem pm_pow_bd {t : Nat} (ht : t ≤ 12) : 1 ≤ 2 ^ t ∧ 2 ^ t ≤ 4096 := by
  have h1 : 0 < 2 ^ t := Nat.pow_pos (by decide)
  have h2 : 2 ^ t ≤ 2 ^ 12 := Nat.pow_le_pow_right (by decide) ht
  omega
theorem sp_barsFor {pi q be : Int → Int} {bar : Int} {t : Nat} {Q : Int → (Int → Int) → Prop} (ht : t ≤ 12) (hpi : ∀ i : Nat, i < t → pi i = q i) (hq : ∀ i : Nat, i < t → 1 ≤ q i ∧ q i ≤ bar) (hbar : 50 ≤ bar ∧ bar ≤ 2000) (hQ : ∀ be', pm_dp q bar t (2 ^ t) be' → 0 ≤ be' ((2 ^ t - 1 : Nat) : Int) ∧ be' ((2 ^ t - 1 : Nat) : Int) ≤ 53248 → Q (be' ((2 ^ t - 1 : Nat) : Int) / 4096) be') : S_barsForPieces_wp pi be t bar Q := by
  have hp := pm_pow_bd ht
  refine ⟨⟨⟨by omega, by omega⟩, ⟨by decide, by decide⟩⟩, fun x1 h1 => fun x2 h2 => ⟨by decide, fun b0 hb0 => ?_⟩⟩
  have e1 : x1 = (t : Int) := by omega
  subst e1
  have e2 : x2 = ((2 ^ t - 1 : Nat) : Int) := by rw [h2, pm_shl_pow t (by omega)]; omega
  subst e2
  refine pm_l2 (fun (x : Int) (b : Int → Int) => ∃ n : Nat, (x = (n : Int) ∧ 1 ≤ n ∧ n ≤ 2 ^ t) ∧ pm_dp q bar t n b ∧ ∀ m : Nat, m < n → 0 ≤ b m ∧ b m ≤ 53248) (fun (x : Int) _ => (5000 - x).toNat) ?_ 1 b0 ⟨1, ⟨rfl, Nat.le_refl _, hp.1⟩, ⟨by rw [hb0, pm_us], fun m m0 m1 => by omega⟩, fun m hm => ?_⟩
  · intro Kh x b ⟨n, ⟨ex, hn⟩, hd, hb⟩ hK
    subst ex
    refine ⟨⟨by omega, by omega⟩, ⟨by omega, by omega⟩, fun hlt => ?_, fun hge => ?_⟩
    · have en : n = 2 ^ t := by omega
      subst en
      have hl := hb (2 ^ t - 1) (by omega)
      exact ⟨by omega, ⟨⟨hl.1, ⟨by omega, by omega⟩⟩, ⟨by decide, by decide, by decide⟩⟩, hQ b hd hl⟩
    · refine sp_best ht (by omega) hpi hq hbar hb (fun hv => ⟨by omega, fun b2 hb2 => fun y hy => ?_⟩)
      subst hy
      have ag : ∀ m : Nat, m < n → b2 m = b m := fun m hm => by rw [hb2, pm_un (by omega)]
      refine hK _ _ ⟨n + 1, ⟨by omega, by omega, by omega⟩, ⟨by have := ag 0 (by omega); exact this.trans hd.1, fun m m0 m1 => ?_⟩, fun m hm => ?_⟩ (by omega)
      · by_cases em : m = n
        · subst em
          rw [pm_ft_congr (D' := b) (fun _ _ => rfl) ag, hb2, pm_us]
        · rw [pm_ft_congr (D' := b) (fun _ _ => rfl) (fun n2 hn2 => ag n2 (by omega)), ag m (by omega)]
          exact hd.2 m m0 (by omega)
      · by_cases em : m = n
        · subst em
          rw [hb2, pm_us]; exact hv
        · rw [ag m (by omega)]; exact hb m (by omega)
  · have e : m = 0 := by omega
    subst e
    show 0 ≤ b0 0 ∧ b0 0 ≤ 53248
    rw [hb0, pm_us]; omega
theorem pm_no_bit : ∀ (t m : Nat), m < 2 ^ t → (∀ i, i < t → m / 2 ^ i % 2 = 0) → m = 0
  | 0, m, h, _ => by omega
  | t + 1, m, h, hb => by
    have p : 2 ^ (t + 1) = 2 * 2 ^ t := by rw [Nat.pow_succ, Nat.mul_comm]
    have h0 := hb 0 (by omega)
    rw [Nat.pow_zero, Nat.div_one] at h0
    have h1 := pm_no_bit t (m / 2) (by omega) (fun i hi => by
      have h2 := hb (i + 1) (by omega)
      have p2 : 2 ^ (i + 1) = 2 * 2 ^ i := by rw [Nat.pow_succ, Nat.mul_comm]
      rw [p2, ← Nat.div_div_eq_div_mul] at h2
      exact h2)
    omega
/-- the model's two tables as one -/
def pm_E (me mx : Int → Int) (n : Int) : Int := me n * 4096 + mx n
def pm_ok2 (bar : Int) (me mx : Int → Int) (m : Nat) : Prop := (0 ≤ me m ∧ me m ≤ pm_pc 12 m) ∧ 1 ≤ mx m ∧ mx m ≤ bar
theorem sp_fewest {mv mq q me mx : Int → Int} {bar : Int} {t : Nat} {Q : Int → (Int → Int) → (Int → Int) → Prop} (ht : t ≤ 12) (hmq : ∀ i : Nat, i < t → mq i = q i) (hq : ∀ i : Nat, i < t → 1 ≤ q i ∧ q i ≤ bar) (hbar : 50 ≤ bar ∧ bar ≤ 2000) (hv : mv 3 = bar) (hQ : ∀ me' mx', pm_dp q bar t (2 ^ t) (pm_E me' mx') → pm_ok2 bar me' mx' (2 ^ t - 1) → Q (me' ((2 ^ t - 1 : Nat) : Int)) me' mx') : M_fewestBars_wp mv mq t me mx Q := by
  have hp := pm_pow_bd ht
  have esh := pm_shl_pow t (by omega)
  refine ⟨by decide, fun x1 h1 => ⟨by decide, fun e0 he0 => ⟨by decide, fun u0 hu0 => ?_⟩⟩⟩
  have h1s := (h1.trans hv).symm
  subst h1s
  refine pm_l3 (fun (x : Int) (e u : Int → Int) => ∃ n : Nat, (x = (n : Int) ∧ 1 ≤ n ∧ n ≤ 2 ^ t) ∧ pm_dp q bar t n (pm_E e u) ∧ ∀ m : Nat, m < n → pm_ok2 bar e u m) (fun (x : Int) _ _ => (5000 - x).toNat) ?_ 1 e0 u0 ⟨1, ⟨rfl, Nat.le_refl _, hp.1⟩, ⟨by show e0 0 * 4096 + u0 0 = bar; rw [he0, hu0, pm_us, pm_us]; omega, fun m m0 m1 => by omega⟩, fun m hm => ?_⟩
  · intro Kh x e u ⟨n, ⟨ex, hn⟩, hd, hb⟩ hK
    subst ex
    refine ⟨⟨by omega, by omega⟩, ph_R_of _, fun hlt => ?_, fun hge => ?_⟩
    · rw [esh] at hlt
      refine ⟨by omega, fun e1 he1 => ⟨by omega, fun u1 hu1 => ?_⟩⟩
      -- the bits of the mask
      refine pm_l3 (fun (y : Int) (e2 u2 : Int → Int) => ∃ k : Nat, (y = (k : Int) ∧ k ≤ t) ∧ (∀ m : Nat, m < n → e2 m = e m ∧ u2 m = u m) ∧ ((e2 n = 1000000000 ∧ u2 n = 0 ∧ pm_fo (pm_fg q bar (pm_E e u) n) 53248 k = 53248 ∧ ∀ i, i < k → n / 2 ^ i % 2 = 0) ∨ (pm_E e2 u2 n = pm_fo (pm_fg q bar (pm_E e u) n) 53248 k ∧ pm_ok2 bar e2 u2 n))) (fun (y : Int) _ _ => ((t : Int) - y).toNat) ?_ 0 e1 u1 ⟨0, ⟨rfl, Nat.zero_le _⟩, fun m hm => by rw [he1, hu1, pm_un (by omega), pm_un (by omega)]; exact ⟨rfl, rfl⟩, Or.inl ⟨by rw [he1, pm_us], by rw [hu1, pm_us], rfl, fun i hi => absurd hi (Nat.not_lt_zero i)⟩⟩
      intro Kh2 y e2 u2 ⟨k, ⟨ey, hk⟩, hag, hst⟩ hK2
      subst ey
      refine ⟨⟨by omega, by omega⟩, ⟨by omega, by omega⟩, fun hlt2 => ?_, fun hge2 => fun y2 hy2 => ?_⟩
      · have hbt := pm_bits (m := n) (i := k) (by omega) (by omega)
        have eg : pm_fo (pm_fg q bar (pm_E e u) n) 53248 (k + 1) = if n / 2 ^ k % 2 = 0 then pm_fo (pm_fg q bar (pm_E e u) n) 53248 k else min (pm_fo (pm_fg q bar (pm_E e u) n) 53248 k) (pm_cn bar (pm_E e u ((n - 2 ^ k : Nat) : Int)) (q k)) := rfl
        refine ⟨ph_R_of _, pm_R1, fun z => fun p hp2 => ?_, fun z => fun y2 hy2 => ?_⟩
        · have w : ¬ n / 2 ^ k % 2 = 0 := fun w => (hbt.1 w).2 z
          rw [if_neg w] at eg
          have s1 := pm_pc_sb w
          have s2 : 0 < 2 ^ k := Nat.pow_pos (by decide)
          have s3 := pm_pc_sub 12 n k (by omega) w
          have s4 := pm_pc_le 12 n
          rw [pm_shl_pow k (by omega), (hbt.2 w).2.2.2] at hp2
          subst hp2
          have hag2 := hag (n - 2 ^ k) (by omega)
          have hok := hb (n - 2 ^ k) (by omega)
          obtain ⟨⟨o1, o2⟩, o3, o4⟩ := hok
          have hqk := hq k (by omega)
          have hn4 : 0 ≤ (n : Int) ∧ (n : Int) < 4096 := by omega
          have hp4 : 0 ≤ ((n - 2 ^ k : Nat) : Int) ∧ ((n - 2 ^ k : Nat) : Int) < 4096 := by omega
          have hk4 : 0 ≤ (k : Int) ∧ (k : Int) < 24 := by omega
          have ecn : pm_cn bar (pm_E e u ((n - 2 ^ k : Nat) : Int)) (q k) = if bar < u ((n - 2 ^ k : Nat) : Int) + q k then (e ((n - 2 ^ k : Nat) : Int) + 1) * 4096 + q k else e ((n - 2 ^ k : Nat) : Int) * 4096 + (u ((n - 2 ^ k : Nat) : Int) + q k) := by
            unfold pm_cn pm_E
            have em : (e ((n - 2 ^ k : Nat) : Int) * 4096 + u ((n - 2 ^ k : Nat) : Int)) % 4096 = u ((n - 2 ^ k : Nat) : Int) := by omega
            rw [em]
            by_cases c : bar < u ((n - 2 ^ k : Nat) : Int) + q k
            · rw [if_pos c, if_pos c]; omega
            · rw [if_neg c, if_neg c]; omega
          -- the last choice: a candidate of x6 bars and s0 used
          have last : ∀ x6 s0 : Int, (0 ≤ x6 ∧ x6 ≤ pm_pc 12 n) → (1 ≤ s0 ∧ s0 ≤ bar) → pm_cn bar (pm_E e u ((n - 2 ^ k : Nat) : Int)) (q k) = x6 * 4096 + s0 → M_fewestBars_j155 mv mq t e2 u2 bar n k x6 s0 Q Kh2 := by
            intro x6 s0 h6 h0 hc
            rw [hc] at eg
            have set : x6 * 4096 + s0 = pm_fo (pm_fg q bar (pm_E e u) n) 53248 (k + 1) → M_fewestBars_j190 mv mq t e2 u2 bar n k x6 s0 Q Kh2 := by
              intro hs
              refine ⟨hn4, fun e3 he3 => ⟨hn4, fun u3 hu3 => fun y2 hy2 => ?_⟩⟩
              subst hy2
              refine hK2 _ _ _ ⟨k + 1, ⟨by omega, by omega⟩, fun m hm => ?_, Or.inr ⟨?_, ?_⟩⟩ (by omega)
              · rw [he3, hu3, pm_un (by omega), pm_un (by omega)]; exact hag m hm
              · rw [← hs]; show e3 n * 4096 + u3 n = _; rw [he3, hu3, pm_us, pm_us]
              · show (0 ≤ e3 n ∧ e3 n ≤ pm_pc 12 n) ∧ 1 ≤ u3 n ∧ u3 n ≤ bar
                rw [he3, hu3, pm_us, pm_us]; exact ⟨h6, h0⟩
            have keep : pm_E e2 u2 n = pm_fo (pm_fg q bar (pm_E e u) n) 53248 (k + 1) ∧ pm_ok2 bar e2 u2 n → ∀ y2, y2 = (k : Int) + 1 → Kh2 y2 e2 u2 := by
              intro hs y2 hy2
              subst hy2
              exact hK2 _ _ _ ⟨k + 1, ⟨by omega, by omega⟩, hag, Or.inr hs⟩ (by omega)
            rcases hst with ⟨f1, f2, f3, f4⟩ | ⟨f1, f2⟩
            · rw [f3] at eg
              refine ⟨hn4, ⟨by omega, by omega⟩, by rw [f1]; exact ⟨by decide, by decide⟩, fun _ => set (by omega), fun g => by omega⟩
            · obtain ⟨⟨g1, g2⟩, g3, g4⟩ := f2
              have f3 : e2 n * 4096 + u2 n = pm_fo (pm_fg q bar (pm_E e u) n) 53248 k := f1
              refine ⟨hn4, ⟨by omega, by omega⟩, ⟨by omega, by omega⟩, fun g => set (by omega), fun g => ⟨hn4, ⟨by omega, by omega⟩, ⟨by omega, by omega⟩, fun g5 => ⟨hn4, ⟨by omega, by omega⟩, ⟨by omega, by omega⟩, fun g6 => set (by omega), fun g6 => keep ⟨?_, ⟨g1, g2⟩, g3, g4⟩⟩, fun g5 => keep ⟨?_, ⟨g1, g2⟩, g3, g4⟩⟩⟩
              · show e2 n * 4096 + u2 n = _; omega
              · show e2 n * 4096 + u2 n = _; omega
          refine ⟨hp4, hk4, ?_⟩
          rw [hag2.2, hmq k (by omega)]
          refine ⟨⟨by omega, by omega⟩, ⟨by omega, by omega⟩, fun c => pm_eq0 ⟨hp4, ?_⟩, fun c => pm_eq1 ⟨hp4, ?_⟩⟩
          · rw [if_pos c] at ecn
            rw [hag2.1]
            refine pm_eq0 ⟨hk4, ?_⟩
            rw [hmq k (by omega)]
            exact last _ _ (by omega) (by omega) ecn
          · rw [if_neg c] at ecn
            rw [hag2.1]
            refine pm_eq1 ⟨hp4, hk4, ?_⟩
            rw [hag2.2, hmq k (by omega)]
            exact last _ _ (by omega) (by omega) ecn
        · have w : n / 2 ^ k % 2 = 0 := by
            by_cases w : n / 2 ^ k % 2 = 0
            · exact w
            · exact absurd (hbt.2 w).2.2.1 z
          rw [if_pos w] at eg
          subst hy2
          refine hK2 _ _ _ ⟨k + 1, ⟨by omega, by omega⟩, hag, ?_⟩ (by omega)
          rw [eg]
          rcases hst with ⟨f1, f2, f3, f4⟩ | f
          · refine Or.inl ⟨f1, f2, f3, fun i hi => ?_⟩
            by_cases ei : i = k
            · subst ei; exact w
            · exact f4 i (by omega)
          · exact Or.inr f
      · subst hy2
        have ek : k = t := by omega
        subst ek
        rcases hst with ⟨f1, f2, f3, f4⟩ | ⟨f1, f2⟩
        · have := pm_no_bit k n (by omega) f4
          omega
        · have ag : ∀ m : Nat, m < n → pm_E e2 u2 m = pm_E e u m := fun m hm => by unfold pm_E; rw [(hag m hm).1, (hag m hm).2]
          refine hK _ _ _ ⟨n + 1, ⟨by omega, by omega, by omega⟩, ⟨by have := ag 0 (by omega); exact this.trans hd.1, fun m m0 m1 => ?_⟩, fun m hm => ?_⟩ (by omega)
          · by_cases em : m = n
            · subst em
              rw [pm_ft_congr (D' := pm_E e u) (fun _ _ => rfl) ag]; exact f1
            · rw [pm_ft_congr (D' := pm_E e u) (fun _ _ => rfl) (fun n2 hn2 => ag n2 (by omega)), ag m (by omega)]
              exact hd.2 m m0 (by omega)
          · by_cases em : m = n
            · subst em; exact f2
            · have h3 := hb m (by omega)
              unfold pm_ok2 at h3 ⊢
              rw [(hag m (by omega)).1, (hag m (by omega)).2]; exact h3
    · rw [esh] at hge
      have en : n = 2 ^ t := by omega
      subst en
      have ei : ph_shl 1 (t : Int) - 1 = ((2 ^ t - 1 : Nat) : Int) := by rw [esh]; omega
      rw [ei]
      exact ⟨by omega, hQ e u hd (hb (2 ^ t - 1) (by omega))⟩
  · have em : m = 0 := by omega
    subst em
    show (0 ≤ e0 0 ∧ e0 0 ≤ pm_pc 12 0) ∧ 1 ≤ u0 0 ∧ u0 0 ≤ bar
    rw [he0, hu0, pm_us, pm_us]; omega
end PMY
