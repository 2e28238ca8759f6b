/-! runs that meet: the search and the count of pairs -/
section PMU
def pm_lz (T : Int → Prop) (g : Int → Int) (i x : Int) : Prop := (x = -1 ∨ ∃ k, 0 ≤ k ∧ k < i ∧ T k ∧ g k = x) ∧ ∀ k, 0 ≤ k → k < i → T k → x ≠ -1 ∧ x ≤ g k
theorem pm_lz_0 {T : Int → Prop} {g : Int → Int} : pm_lz T g 0 (-1) := ⟨Or.inl rfl, fun k k0 k1 => by omega⟩
theorem pm_lz_R {T : Int → Prop} {g : Int → Int} {i x : Int} (hg : ∀ k, 0 ≤ k → k < i → 0 ≤ g k ∧ g k < 144) (h : pm_lz T g i x) : -1 ≤ x ∧ x < 144 := by
  rcases h.1 with e | ⟨k, k0, k1, _, e⟩
  · omega
  · have := hg k k0 k1; omega
theorem pm_lz_un {T : Int → Prop} {g : Int → Int} {i x y : Int} (h : pm_lz T g i x) (h' : pm_lz T g i y) : x = y := by
  rcases h.1 with e | ⟨k, k0, k1, kt, e⟩
  · rcases h'.1 with e' | ⟨k, k0, k1, kt, e'⟩
    · omega
    · exact absurd e (h.2 k k0 k1 kt).1
  · have a := h'.2 k k0 k1 kt
    rcases h'.1 with e' | ⟨k', k0', k1', kt', e'⟩
    · exact absurd e' a.1
    · have b := h.2 k' k0' k1' kt'
      omega
theorem pm_lz_no {T : Int → Prop} {g : Int → Int} {i x : Int} (h : pm_lz T g i x) (hn : ¬ T i) : pm_lz T g (i + 1) x := by
  refine ⟨h.1.elim Or.inl (fun ⟨k, k0, k1, kt, e⟩ => Or.inr ⟨k, k0, by omega, kt, e⟩), fun k k0 k1 kt => ?_⟩
  by_cases e : k = i
  · subst e; exact absurd kt hn
  · exact h.2 k k0 (by omega) kt
theorem pm_lz_new {T : Int → Prop} {g : Int → Int} {i x : Int} (hi : 0 ≤ i) (h : pm_lz T g i x) (ht : T i) (hg : 0 ≤ g i) (hx : x = -1 ∨ g i < x) : pm_lz T g (i + 1) (g i) := by
  refine ⟨Or.inr ⟨i, hi, by omega, ht, rfl⟩, fun k k0 k1 kt => ?_⟩
  by_cases e : k = i
  · subst e; omega
  · have := h.2 k k0 (by omega) kt
    omega
theorem pm_lz_old {T : Int → Prop} {g : Int → Int} {i x : Int} (h : pm_lz T g i x) (hx : x ≠ -1 ∧ x ≤ g i) : pm_lz T g (i + 1) x := by
  refine ⟨h.1.elim Or.inl (fun ⟨k, k0, k1, kt, e⟩ => Or.inr ⟨k, k0, by omega, kt, e⟩), fun k k0 k1 kt => ?_⟩
  by_cases e : k = i
  · subst e; exact hx
  · exact h.2 k k0 (by omega) kt
def pm_wq (rc lo : Int → Int) (ri cv a b j k : Int) : Prop := rc (a * 144 + j) = rc (b * 144 + k) ∧ ph_ab (lo a - ri * j - (lo b - ri * k)) < cv
def pm_TB (rl rc lo : Int → Int) (ri cv a b k : Int) : Prop := ∃ j, 0 ≤ j ∧ j < rl a ∧ pm_wq rc lo ri cv a b j k
def pm_TA (rl rc lo : Int → Int) (ri cv a b j : Int) : Prop := ∃ k, 0 ≤ k ∧ k < rl b ∧ pm_wq rc lo ri cv a b j k
noncomputable def pm_cc (rl rc lo : Int → Int) (ri cv a b : Int) : Int := Classical.epsilon (fun x => pm_lz (pm_TB rl rc lo ri cv a b) (fun k => rc (b * 144 + k)) (rl b) x)
theorem pm_cc_eq {rl rc lo : Int → Int} {ri cv a b x : Int} (h : pm_lz (pm_TB rl rc lo ri cv a b) (fun k => rc (b * 144 + k)) (rl b) x) : pm_cc rl rc lo ri cv a b = x :=
  pm_lz_un (Classical.epsilon_spec (p := fun x => pm_lz (pm_TB rl rc lo ri cv a b) (fun k => rc (b * 144 + k)) (rl b) x) ⟨x, h⟩) h
theorem pm_cc_sw {rl rc lo : Int → Int} {ri cv a b x : Int} (h : pm_lz (pm_TA rl rc lo ri cv a b) (fun j => rc (a * 144 + j)) (rl a) x) : pm_cc rl rc lo ri cv a b = x := by
  refine pm_cc_eq ⟨h.1.elim Or.inl (fun ⟨j, j0, j1, ⟨k, k0, k1, w⟩, e⟩ => Or.inr ⟨k, k0, k1, ⟨j, j0, j1, w⟩, w.1.symm.trans e⟩), fun k k0 k1 ⟨j, j0, j1, w⟩ => ?_⟩
  have := h.2 j j0 j1 ⟨k, k0, k1, w⟩
  have e := w.1
  dsimp only at this ⊢
  omega
noncomputable def pm_pp (na ns rl rc lo : Int → Int) (ri cv a b : Int) : Int := if (ns a = 0 ∧ na a ≠ -1) ∧ (ns b = 0 ∧ na b ≠ -1) ∧ ¬ (na a = b ∨ na b = a ∨ na a = na b) then pm_cc rl rc lo ri cv a b else -1

def pm_nx4 (p : Int → Int → Int) (s : (Int × Int × Int × Int)) (a b : Int) : (Int × Int × Int × Int) := if p a b = -1 then s else if s.1 = 0 then (1, a, b, p a b) else (s.1 + 1, s.2)
def pm_ra (p : Int → Int → Int) : Nat → Int → Int → (Int × Int × Int × Int) → (Int × Int × Int × Int)
  | 0, _, _, s => s
  | f + 1, a, b, s => pm_ra p f a (b + 1) (pm_nx4 p s a b)
def pm_rb (p : Int → Int → Int) (N : Nat) : Nat → Int → (Int × Int × Int × Int) → (Int × Int × Int × Int)
  | 0, _, s => s
  | f + 1, a, s => pm_rb p N f (a + 1) (pm_ra p ((N : Int) - (a + 1)).toNat a (a + 1) s)
theorem pm_ra_st {p : Int → Int → Int} {N : Nat} {a b : Int} {s : (Int × Int × Int × Int)} (h : b < N) : pm_ra p ((N : Int) - b).toNat a b s = pm_ra p ((N : Int) - (b + 1)).toNat a (b + 1) (pm_nx4 p s a b) := by
  have e : ((N : Int) - b).toNat = ((N : Int) - (b + 1)).toNat + 1 := by omega
  rw [e]; rfl
theorem pm_rb_st {p : Int → Int → Int} {N : Nat} {a : Int} {s : (Int × Int × Int × Int)} (h : a < N) : pm_rb p N ((N : Int) - a).toNat a s = pm_rb p N ((N : Int) - (a + 1)).toNat (a + 1) (pm_ra p ((N : Int) - (a + 1)).toNat a (a + 1) s) := by
  have e : ((N : Int) - a).toNat = ((N : Int) - (a + 1)).toNat + 1 := by omega
  rw [e]; rfl
theorem pm_ra_end {p : Int → Int → Int} {N : Nat} {a b : Int} {s : (Int × Int × Int × Int)} (h : ¬ b < N) : pm_ra p ((N : Int) - b).toNat a b s = s := by
  have e : ((N : Int) - b).toNat = 0 := by omega
  rw [e]; rfl
theorem pm_rb_end {p : Int → Int → Int} {N : Nat} {a : Int} {s : (Int × Int × Int × Int)} (h : ¬ a < N) : pm_rb p N ((N : Int) - a).toNat a s = s := by
  have e : ((N : Int) - a).toNat = 0 := by omega
  rw [e]; rfl
theorem pm_ra_id {p : Int → Int → Int} {a : Int} (h : ∀ b, p a b = -1) : ∀ (f : Nat) (b : Int) (s : (Int × Int × Int × Int)), pm_ra p f a b s = s
  | 0, _, _ => rfl
  | f + 1, b, s => by
    show pm_ra p f a (b + 1) (pm_nx4 p s a b) = s
    have e : pm_nx4 p s a b = s := by unfold pm_nx4; rw [if_pos (h b)]
    rw [e]; exact pm_ra_id h f (b + 1) s
theorem pm_nx4_keep {p : Int → Int → Int} {s : (Int × Int × Int × Int)} {a b : Int} (h : 0 < s.1) : 0 < (pm_nx4 p s a b).1 ∧ (pm_nx4 p s a b).2 = s.2 := by
  unfold pm_nx4
  split
  · exact ⟨h, rfl⟩
  · rw [if_neg (by omega)]; exact ⟨by show 0 < s.1 + 1; omega, rfl⟩
theorem pm_ra_keep {p : Int → Int → Int} {a : Int} : ∀ (f : Nat) (b : Int) (s : (Int × Int × Int × Int)), 0 < s.1 → 0 < (pm_ra p f a b s).1 ∧ (pm_ra p f a b s).2 = s.2
  | 0, _, _, h => ⟨h, rfl⟩
  | f + 1, b, s, h => by
    have h1 := pm_nx4_keep (p := p) (a := a) (b := b) h
    have h2 := pm_ra_keep (p := p) (a := a) f (b + 1) (pm_nx4 p s a b) h1.1
    exact ⟨h2.1, h2.2.trans h1.2⟩
theorem pm_rb_keep {p : Int → Int → Int} {N : Nat} : ∀ (f : Nat) (a : Int) (s : (Int × Int × Int × Int)), 0 < s.1 → 0 < (pm_rb p N f a s).1 ∧ (pm_rb p N f a s).2 = s.2
  | 0, _, _, h => ⟨h, rfl⟩
  | f + 1, a, s, h => by
    have h1 := pm_ra_keep (p := p) (a := a) ((N : Int) - (a + 1)).toNat (a + 1) s h
    have h2 := pm_rb_keep (p := p) (N := N) f (a + 1) _ h1.1
    exact ⟨h2.1, h2.2.trans h1.2⟩
end PMU
section PMV
variable {nc na ns nu ai rl rc mc ma ms mu mi mr mm lo : Int → Int} {mn : Int} {ri cv : Int} {N : Nat}
def pm_LV (na ns rl lo : Int → Int) (N : Nat) (ri : Int) : Prop := ∀ a j, 0 ≤ a → a < (N : Int) → ns a = 0 → na a ≠ -1 → 0 ≤ j → j < rl a → 0 ≤ lo a - ri * j ∧ lo a - ri * j ≤ 400000
theorem pm_pp_R (hI : pm_NI nc na ns nu ai rl rc N) {a b : Int} (h : 0 ≤ b ∧ b < (N : Int)) (hc : ∃ x, pm_lz (pm_TB rl rc lo ri cv a b) (fun k => rc (b * 144 + k)) (rl b) x) : -1 ≤ pm_pp na ns rl rc lo ri cv a b ∧ pm_pp na ns rl rc lo ri cv a b < 144 := by
  unfold pm_pp
  split
  · obtain ⟨x, hx⟩ := hc
    rw [pm_cc_eq hx]
    exact pm_lz_R (fun k k0 k1 => (hI.2 b h.1 h.2).2.2.2.2.2.2.2.1 k k0 k1) hx
  · omega
theorem sp_drainRun (hI : pm_NI nc na ns nu ai rl rc N) {n : Int} {Q : Int → Prop} (h0 : 0 ≤ n) (h1 : n < N) (ht : (ns n = 0 ∧ na n ≠ -1) → Q 1) (hf : ¬ (ns n = 0 ∧ na n ≠ -1) → Q 0) : C_isDrainRun_wp na ns n Q := by
  have hn := hI.1
  have h5 := hI.2 n h0 h1
  have hx : 0 ≤ n ∧ n < 24 := by omega
  exact ⟨hx, ⟨by omega, by omega⟩, pm_R0, fun hs => ⟨Or.inr rfl, pm_eq1 ⟨hx, ⟨by omega, by omega⟩, ⟨by decide, by decide⟩, fun hm => ⟨Or.inr rfl, pm_eq1 ⟨Or.inl rfl, hf (fun z => z.2 hm)⟩⟩, fun hm => ⟨Or.inl rfl, pm_eq0 ⟨Or.inr rfl, ht ⟨hs, hm⟩⟩⟩⟩⟩, fun hs => ⟨Or.inl rfl, pm_eq0 ⟨Or.inl rfl, hf (fun z => hs z.1)⟩⟩⟩
theorem sp_areJoined (hI : pm_NI nc na ns nu ai rl rc N) {a b : Int} {Q : Int → Prop} (h : 0 ≤ a ∧ a < (N : Int)) (h' : 0 ≤ b ∧ b < (N : Int)) (ht : (na a = b ∨ na b = a ∨ na a = na b) → Q 1) (hf : ¬ (na a = b ∨ na b = a ∨ na a = na b) → Q 0) : C_areJoined_wp na a b Q := by
  have hn := hI.1
  have h5 := hI.2 a h.1 h.2
  have h6 := hI.2 b h'.1 h'.2
  have hx : 0 ≤ a ∧ a < 24 := by omega
  have hy : 0 ≤ b ∧ b < 24 := by omega
  have A : ph_R (na a) := ⟨by omega, by omega⟩
  have B : ph_R (na b) := ⟨by omega, by omega⟩
  exact ⟨hx, A, ⟨by omega, by omega⟩, fun e => ⟨Or.inr rfl, ht (Or.inl e)⟩, fun e1 => ⟨hy, B, ⟨by omega, by omega⟩, fun e => ⟨Or.inr rfl, ht (Or.inr (Or.inl e))⟩, fun e2 => ⟨hx, hy, A, B, fun e => ⟨Or.inr rfl, ht (Or.inr (Or.inr e))⟩, fun e3 => ⟨Or.inl rfl, hf (fun z => z.elim e1 (fun y => y.elim e2 e3))⟩⟩⟩⟩
def pm_mk (rc lo : Int → Int) (ri a i : Int) (lc : Int → Int) : Prop := ∀ c, 0 ≤ c → c < 144 → (∃ j, 0 ≤ j ∧ j < i ∧ rc (a * 144 + j) = c ∧ lc c = lo a - ri * j) ∨ ((∀ j, 0 ≤ j → j < i → rc (a * 144 + j) ≠ c) ∧ lc c = -1)
theorem sp_mark (hI : pm_NI nc na ns nu ai rl rc N) {a : Int} {lc : Int → Int} {Q : (Int → Int) → Prop} (h : 0 ≤ a ∧ a < (N : Int)) (hlc : ∀ c, 0 ≤ c → c < 144 → lc c = -1) (hQ : ∀ lc', pm_mk rc lo ri a (rl a) lc' → Q lc') : C_mark_wp rl rc lo ri lc a Q := by
  have hn := hI.1
  have h5 := hI.2 a h.1 h.2
  have hb := pm_rl_bd hI h.1 h.2
  have hx : 0 ≤ a ∧ a < 24 := by omega
  refine pm_l2 (fun (x : Int) (lc : Int → Int) => (0 ≤ x ∧ x ≤ rl a) ∧ pm_mk rc lo ri a x lc) (fun (x : Int) _ => (rl a - x).toNat) ?_ 0 lc ⟨by omega, fun c c0 c1 => Or.inr ⟨fun j j0 j1 => by omega, hlc c c0 c1⟩⟩
  intro Kh x l ⟨hx1, hm⟩ hK
  refine ⟨hx, ⟨by omega, by omega⟩, ⟨by omega, by omega⟩, fun hlt => ?_, fun hge => ?_⟩
  · have hc := h5.2.2.2.2.2.2.2.1 x hx1.1 hlt
    refine ⟨by omega, hx, hc, fun l2 hl2 => fun y hy => ?_⟩
    subst hy
    refine hK _ _ ⟨by omega, fun c c0 c1 => ?_⟩ (by omega)
    by_cases e : c = rc (a * 144 + x)
    · left
      exact ⟨x, hx1.1, by omega, e.symm, by rw [hl2, e, pm_us]⟩
    · rw [hl2, pm_un e]
      rcases hm c c0 c1 with ⟨j, j0, j1, e1, e2⟩ | ⟨n1, e1⟩
      · left; exact ⟨j, j0, by omega, e1, e2⟩
      · right
        refine ⟨fun j j0 j1 => ?_, e1⟩
        by_cases ej : j = x
        · subst ej; exact fun q => e q.symm
        · exact n1 j j0 (by omega)
  · have e : x = rl a := by omega
    rw [e] at hm
    exact hQ l hm
theorem sp_unmark (hI : pm_NI nc na ns nu ai rl rc N) {a : Int} {lc : Int → Int} {Q : (Int → Int) → Prop} (h : 0 ≤ a ∧ a < (N : Int)) (hlc : pm_mk rc lo ri a (rl a) lc) (hQ : ∀ lc', (∀ c, 0 ≤ c → c < 144 → lc' c = -1) → Q lc') : C_unmark_wp rl rc lc a Q := by
  have hn := hI.1
  have h5 := hI.2 a h.1 h.2
  have hb := pm_rl_bd hI h.1 h.2
  have hx : 0 ≤ a ∧ a < 24 := by omega
  refine pm_l2 (fun (x : Int) (lc : Int → Int) => (0 ≤ x ∧ x ≤ rl a) ∧ ∀ c, 0 ≤ c → c < 144 → lc c = -1 ∨ ∃ j, x ≤ j ∧ j < rl a ∧ rc (a * 144 + j) = c) (fun (x : Int) _ => (rl a - x).toNat) ?_ 0 lc ⟨by omega, fun c c0 c1 => ?_⟩
  · intro Kh x l ⟨hx1, hm⟩ hK
    refine ⟨hx, ⟨by omega, by omega⟩, ⟨by omega, by omega⟩, fun hlt => ?_, fun hge => ?_⟩
    · have hc := h5.2.2.2.2.2.2.2.1 x hx1.1 hlt
      refine ⟨by omega, hc, fun l2 hl2 => fun y hy => ?_⟩
      subst hy
      refine hK _ _ ⟨by omega, fun c c0 c1 => ?_⟩ (by omega)
      by_cases e : c = rc (a * 144 + x)
      · left; rw [hl2, e, pm_us]
      · rw [hl2, pm_un e]
        rcases hm c c0 c1 with e1 | ⟨j, j0, j1, e1⟩
        · exact Or.inl e1
        · right
          refine ⟨j, ?_, j1, e1⟩
          by_cases ej : j = x
          · subst ej; exact absurd e1.symm e
          · omega
    · refine hQ l (fun c c0 c1 => ?_)
      rcases hm c c0 c1 with e1 | ⟨j, j0, j1, e1⟩
      · exact e1
      · omega
  · rcases hlc c c0 c1 with ⟨j, j0, j1, e1, _⟩ | ⟨_, e1⟩
    · exact Or.inr ⟨j, j0, j1, e1⟩
    · exact Or.inl e1
theorem sp_lcc (hI : pm_NI nc na ns nu ai rl rc N) (hL : pm_LV na ns rl lo N ri) (hcv : 0 ≤ cv ∧ cv ≤ 2000) {a b : Int} {lc : Int → Int} {Q : Int → Prop} (h : 0 ≤ a ∧ a < (N : Int)) (h' : 0 ≤ b ∧ b < (N : Int)) (da : ns a = 0 ∧ na a ≠ -1) (db : ns b = 0 ∧ na b ≠ -1) (hlc : pm_mk rc lo ri a (rl a) lc) (hQ : ∀ x, pm_lz (pm_TB rl rc lo ri cv a b) (fun k => rc (b * 144 + k)) (rl b) x → Q x) : C_leastCommonCell_wp rl rc lo ri lc cv b Q := by
  have hn := hI.1
  have h5 := hI.2 a h.1 h.2
  have h6 := hI.2 b h'.1 h'.2
  have hb := pm_rl_bd hI h'.1 h'.2
  have hx : 0 ≤ b ∧ b < 24 := by omega
  refine pm_l2 (fun (v x : Int) => (0 ≤ x ∧ x ≤ rl b) ∧ pm_lz (pm_TB rl rc lo ri cv a b) (fun k => rc (b * 144 + k)) x v) (fun (_ x : Int) => (rl b - x).toNat) ?_ (-1) 0 ⟨by omega, pm_lz_0⟩
  intro Kh v x ⟨hx1, hm⟩ hK
  refine ⟨hx, ⟨by omega, by omega⟩, ⟨by omega, by omega⟩, fun hlt => ?_, fun hge => ?_⟩
  · have hc := h6.2.2.2.2.2.2.2.1 x hx1.1 hlt
    have hv := pm_lz_R (fun k k0 k1 => h6.2.2.2.2.2.2.2.1 k k0 (by omega)) hm
    have J0 : ¬ pm_TB rl rc lo ri cv a b x → C_leastCommonCell_j65 rl rc lo ri lc cv b v x (rc (b * 144 + x)) 0 Q Kh := by
      intro q
      refine pm_eq0 (fun y hy => ?_)
      subst hy
      exact hK _ _ ⟨by omega, pm_lz_no hm q⟩ (by omega)
    have J1 : pm_TB rl rc lo ri cv a b x → C_leastCommonCell_j65 rl rc lo ri lc cv b v x (rc (b * 144 + x)) 1 Q Kh := by
      intro q
      have nw : (v = -1 ∨ rc (b * 144 + x) < v) → ∀ y, y = x + 1 → Kh (rc (b * 144 + x)) y := by
        intro z y hy
        subst hy
        exact hK _ _ ⟨by omega, pm_lz_new (g := fun k => rc (b * 144 + k)) hx1.1 hm q hc.1 z⟩ (by omega)
      refine pm_eq1 ⟨⟨by omega, by omega⟩, ⟨by decide, by decide⟩, fun z => nw (Or.inl z), fun z => ⟨⟨by omega, by omega⟩, ⟨by omega, by omega⟩, fun w => nw (Or.inr w), fun w => fun y hy => ?_⟩⟩
      subst hy
      exact hK _ _ ⟨by omega, pm_lz_old hm ⟨z, by omega⟩⟩ (by omega)
    have hlb := hL b x h'.1 h'.2 db.1 db.2 hx1.1 hlt
    refine ⟨by omega, hc, fun x8 hx8 => ?_⟩
    rcases hlc _ hc.1 hc.2 with ⟨j, j0, j1, e1, e2⟩ | ⟨n1, e1⟩
    · have hla := hL a j h.1 h.2 da.1 da.2 j0 j1
      have eW : ∀ y, y = ph_ab (x8 - (lo b - ri * x)) → (pm_TB rl rc lo ri cv a b x ↔ y < cv) := by
        intro y hy
        rw [hy, hx8, e2]
        constructor
        · intro ⟨j', j0', j1', w1, w2⟩
          have ej : j' = j := by
            rcases Int.lt_trichotomy j' j with q | q | q
            · exact absurd (w1.trans e1.symm) (h5.2.2.2.2.2.2.2.2 j' j j0' q j1)
            · exact q
            · exact absurd (e1.trans w1.symm) (h5.2.2.2.2.2.2.2.2 j j' j0 q j1')
          rw [ej] at w2
          exact w2
        · exact fun q => ⟨j, j0, j1, e1, q⟩
      have hab : -800000 ≤ ph_ab (x8 - (lo b - ri * x)) ∧ ph_ab (x8 - (lo b - ri * x)) ≤ 800000 := by unfold ph_ab; split <;> omega
      refine ⟨⟨by omega, by omega⟩, ⟨by decide, by decide⟩, fun z => by omega, fun z => ⟨hx, ⟨by omega, by omega⟩, ⟨by omega, by omega⟩, ⟨by omega, by omega⟩, fun q => J1 ((eW _ rfl).2 q), fun q => J0 (fun t => q ((eW _ rfl).1 t))⟩⟩
    · refine ⟨⟨by omega, by omega⟩, ⟨by decide, by decide⟩, fun z => J0 ?_, fun z => by omega⟩
      intro ⟨j, j0, j1, w1, _⟩
      exact n1 j j0 j1 w1
  · have e : x = rl b := by omega
    rw [e] at hm
    exact hQ v hm
theorem sp_above (hI : pm_NI nc na ns nu ai rl rc N) (hL : pm_LV na ns rl lo N ri) (hcv : 0 ≤ cv ∧ cv ≤ 2000) {a : Int} {lc : Int → Int} {cp c1 c2 c3 : Int} {Q : Int → Int → Int → Int → Prop} (h : 0 ≤ a ∧ a < (N : Int)) (da : ns a = 0 ∧ na a ≠ -1) (hlc : pm_mk rc lo ri a (rl a) lc) (hB : (0 ≤ cp ∧ cp ≤ 24 * a) ∧ (-1 ≤ c1 ∧ c1 ≤ 24) ∧ (-1 ≤ c2 ∧ c2 ≤ 24) ∧ -1 ≤ c3 ∧ c3 ≤ 144)
    (hQ : ∀ cp' c1' c2' c3', (cp', c1', c2', c3') = pm_ra (pm_pp na ns rl rc lo ri cv) ((N : Int) - (a + 1)).toNat a (a + 1) (cp, c1, c2, c3) → (0 ≤ cp' ∧ cp' ≤ 24 * (a + 1)) ∧ (-1 ≤ c1' ∧ c1' ≤ 24) ∧ (-1 ≤ c2' ∧ c2' ≤ 24) ∧ -1 ≤ c3' ∧ c3' ≤ 144 → Q cp' c1' c2' c3') : C_searchAbove_wp na ns rl rc N lo ri lc cp c1 c2 c3 cv a Q := by
  have hn := hI.1
  intro x5 hx5
  subst hx5
  refine pm_l5 (fun (x p q r t : Int) => (a < x ∧ x ≤ N) ∧ ((0 ≤ p ∧ p ≤ 24 * a + x) ∧ (-1 ≤ q ∧ q ≤ 24) ∧ (-1 ≤ r ∧ r ≤ 24) ∧ -1 ≤ t ∧ t ≤ 144) ∧ pm_ra (pm_pp na ns rl rc lo ri cv) ((N : Int) - x).toNat a x (p, q, r, t) = pm_ra (pm_pp na ns rl rc lo ri cv) ((N : Int) - (a + 1)).toNat a (a + 1) (cp, c1, c2, c3)) (fun (x _ _ _ _ : Int) => ((N : Int) - x).toNat) ?_ (a + 1) cp c1 c2 c3 ⟨by omega, by omega, rfl⟩
  intro Kh x p q r t ⟨hx, hB2, he⟩ hK
  refine ⟨⟨by omega, by omega⟩, ⟨by omega, by omega⟩, fun hlt => ?_, fun hge => ?_⟩
  · rw [pm_ra_st hlt] at he
    have skip : pm_pp na ns rl rc lo ri cv a x = -1 → ∀ y, y = x + 1 → Kh y p q r t := by
      intro z y hy
      subst hy
      refine hK _ _ _ _ _ ⟨by omega, by omega, ?_⟩ (by omega)
      unfold pm_nx4 at he
      rw [if_pos z] at he
      exact he
    refine sp_drainRun hI (by omega) hlt (fun db => pm_eq1 ?_) (fun db => pm_eq0 (skip ?_))
    · refine sp_areJoined hI h (show 0 ≤ x ∧ x < (N : Int) by omega) (fun jn => pm_eq1 (skip ?_)) (fun jn => pm_eq0 ?_)
      · unfold pm_pp; rw [if_neg (fun z => z.2.2 jn)]
      · refine sp_lcc hI hL hcv h (show 0 ≤ x ∧ x < (N : Int) by omega) da db hlc (fun v hv => ?_)
        have epp : pm_pp na ns rl rc lo ri cv a x = v := by unfold pm_pp; rw [if_pos ⟨da, db, jn⟩, pm_cc_eq hv]
        have hvR := pm_pp_R (na := na) (ns := ns) hI (show 0 ≤ x ∧ x < (N : Int) by omega) ⟨v, hv⟩
        rw [epp] at hvR
        refine ⟨⟨by omega, by omega⟩, ⟨by decide, by decide⟩, fun z => skip (by omega), fun z => ?_⟩
        unfold pm_nx4 at he
        rw [if_neg (by omega)] at he
        refine ⟨⟨by omega, by omega⟩, pm_R0, fun w => fun p2 hp2 => fun y hy => ?_, fun w => fun p2 hp2 => fun y hy => ?_⟩
        · subst hy; subst hp2
          rw [if_pos (by exact w), epp] at he
          refine hK _ _ _ _ _ ⟨by omega, by omega, ?_⟩ (by omega)
          have e1 : p + 1 = 1 := by omega
          rw [e1]; exact he
        · subst hy; subst hp2
          rw [if_neg (by exact w)] at he
          exact hK _ _ _ _ _ ⟨by omega, by omega, he⟩ (by omega)
    · unfold pm_pp; rw [if_neg (fun z => db z.2.1)]
  · rw [pm_ra_end hge] at he
    exact hQ p q r t he (by omega)
theorem sp_searchC (hI : pm_NI nc na ns nu ai rl rc N) (hL : pm_LV na ns rl lo N ri) (hcv : 0 ≤ cv ∧ cv ≤ 2000) {lc : Int → Int} {cp c1 c2 c3 : Int} {Q : (Int → Int) → Int → Int → Int → Int → Prop} (hlc : ∀ c, 0 ≤ c → c < 144 → lc c = -1)
    (hQ : ∀ lc' cp' c1' c2' c3', (∀ c, 0 ≤ c → c < 144 → lc' c = -1) → (cp', c1', c2', c3') = pm_rb (pm_pp na ns rl rc lo ri cv) N N 0 (0, -1, -1, -1) → (0 ≤ cp' ∧ cp' ≤ 600) ∧ (-1 ≤ c1' ∧ c1' ≤ 24) ∧ (-1 ≤ c2' ∧ c2' ≤ 24) ∧ -1 ≤ c3' ∧ c3' ≤ 144 → Q lc' cp' c1' c2' c3') : C_search_wp na ns rl rc N lo ri lc cp c1 c2 c3 cv Q := by
  have hn := hI.1
  refine pm_l6 (fun (x : Int) (l : Int → Int) (p q r t : Int) => (0 ≤ x ∧ x ≤ N) ∧ (∀ c, 0 ≤ c → c < 144 → l c = -1) ∧ ((0 ≤ p ∧ p ≤ 24 * x) ∧ (-1 ≤ q ∧ q ≤ 24) ∧ (-1 ≤ r ∧ r ≤ 24) ∧ -1 ≤ t ∧ t ≤ 144) ∧ pm_rb (pm_pp na ns rl rc lo ri cv) N ((N : Int) - x).toNat x (p, q, r, t) = pm_rb (pm_pp na ns rl rc lo ri cv) N N 0 (0, -1, -1, -1)) (fun (x : Int) _ _ _ _ _ => ((N : Int) - x).toNat) ?_ 0 lc 0 (-1) (-1) (-1) ⟨by omega, hlc, by omega, by simp⟩
  intro Kh x l p q r t ⟨hx, hl, hB2, he⟩ hK
  refine ⟨⟨by omega, by omega⟩, ⟨by omega, by omega⟩, fun hlt => ?_, fun hge => ?_⟩
  · rw [pm_rb_st hlt] at he
    refine sp_drainRun hI hx.1 hlt (fun da => pm_eq1 ?_) (fun da => pm_eq0 (fun y hy => ?_))
    · refine sp_mark hI ⟨hx.1, hlt⟩ hl (fun l2 hl2 => ?_)
      refine sp_above hI hL hcv ⟨hx.1, hlt⟩ da hl2 hB2 (fun p' q' r' t' e' hB3 => ?_)
      refine sp_unmark hI ⟨hx.1, hlt⟩ hl2 (fun l3 hl3 => fun y hy => ?_)
      subst hy
      refine hK _ _ _ _ _ _ ⟨by omega, hl3, hB3, ?_⟩ (by omega)
      rw [e']; exact he
    · subst hy
      rw [pm_ra_id (fun b => by unfold pm_pp; rw [if_neg (fun z => da z.1)])] at he
      exact hK _ _ _ _ _ _ ⟨by omega, hl, by omega, he⟩ (by omega)
  · rw [pm_rb_end hge] at he
    exact hQ l p q r t hl he (by omega)
end PMV
