/-! the reference's search -/
def pm_sm (f : Int → Int) : Nat → Int
  | 0 => 0
  | n + 1 => pm_sm f n + f n
theorem pm_sm_nn {f : Int → Int} : ∀ {n : Nat}, (∀ c : Int, 0 ≤ c → c < n → 0 ≤ f c) → 0 ≤ pm_sm f n
  | 0, _ => Int.le_refl _
  | n + 1, h => by
    have h1 := pm_sm_nn (f := f) (n := n) (fun c h0 hc => h c h0 (by omega))
    have h2 := h n (by omega) (by omega)
    show 0 ≤ pm_sm f n + f n
    omega
theorem pm_sm_out {f : Int → Int} {i v : Int} : ∀ {n : Nat}, (n : Int) ≤ i → pm_sm (ph_u f i v) n = pm_sm f n
  | 0, _ => rfl
  | n + 1, h => by
    show pm_sm (ph_u f i v) n + ph_u f i v n = pm_sm f n + f n
    rw [pm_sm_out (by omega), pm_un (by omega)]
theorem pm_sm_up {f : Int → Int} {i v : Int} : ∀ {n : Nat}, 0 ≤ i → i < n → pm_sm (ph_u f i v) n = pm_sm f n - f i + v
  | 0, h0, h1 => by omega
  | n + 1, h0, h1 => by
    show pm_sm (ph_u f i v) n + ph_u f i v n = pm_sm f n + f n - f i + v
    by_cases hi : i = n
    · subst hi; rw [pm_sm_out (Int.le_refl _), pm_us]; omega
    · rw [pm_sm_up (n := n) h0 (by omega), pm_un (by omega)]; omega
/-- no cell is told too little -/
def pm_Y (p : Int → Int) (g : Int) (f : Int → Int) : Prop :=
  f g = 0 ∧ (∀ c, 0 ≤ c → c < 144 → 0 ≤ f c ∧ f c ≤ 1000000000) ∧ ∀ c, 0 ≤ c → c < 144 → c ≠ g → f c < 1000000000 → ∃ n, pm_nb c n ∧ 0 < p n ∧ f n < 1000000000 ∧ f n + 1000 * p n + 1 ≤ f c
def pm_ok (p : Int → Int) (f : Int → Int) (c : Int) : Prop := ∀ n, pm_nb c n → 0 < p n → f n < 1000000000 → f c ≤ f n + 1000 * p n + 1
theorem pm_Y_step {p : Int → Int} {g c n : Int} {f : Int → Int} (h : pm_Y p g f) (hc : 0 ≤ c ∧ c < 144) (hg : c ≠ g) (hn : pm_nb c n) (h0 : 0 < p n) (h1 : f n < 1000000000) (hlt : f n + 1000 * p n + 1 < f c) : pm_Y p g (ph_u f c (f n + 1000 * p n + 1)) := by
  have hne : n ≠ c := by have := hn.2.2; omega
  have hfn := h.2.1 n hn.2.1.1 hn.2.1.2
  have hfc := h.2.1 c hc.1 hc.2
  refine ⟨by rw [pm_un (Ne.symm hg)]; exact h.1, fun x hx1 hx2 => ?_, fun x hx1 hx2 hx3 hx4 => ?_⟩
  · by_cases hxc : x = c
    · subst hxc; rw [pm_us]; omega
    · rw [pm_un hxc]; exact h.2.1 x hx1 hx2
  · by_cases hxc : x = c
    · subst hxc
      refine ⟨n, hn, h0, ?_, ?_⟩
      · rw [pm_un hne]; exact h1
      · rw [pm_un hne, pm_us]; exact Int.le_refl _
    · rw [pm_un hxc] at hx4 ⊢
      obtain ⟨m, hm, hm0, hm1, hm2⟩ := h.2.2 x hx1 hx2 hx3 hx4
      refine ⟨m, hm, hm0, ?_, ?_⟩
      · by_cases hmc : m = c
        · subst hmc; rw [pm_us]; omega
        · rw [pm_un hmc]; exact hm1
      · by_cases hmc : m = c
        · subst hmc; rw [pm_us]; omega
        · rw [pm_un hmc]; exact hm2
theorem sp_findLefts {p f0 : Int → Int} {g : Int} {Q : (Int → Int) → Prop} (hp : pm_P p) (hg : 0 ≤ g ∧ g < 144) (hQ : ∀ E, pm_BE 1000 1000000000 p g E → Q E) : M_findLefts_wp p f0 g Q := by
  refine pm_l2 (fun (x : Int) (f : Int → Int) => (0 ≤ x ∧ x ≤ 144) ∧ ∀ c, 0 ≤ c → c < x → f c = if c = g then 0 else 1000000000) (fun (x : Int) _ => (144 - x).toNat) ?_ 0 f0 ⟨by decide, fun c _ _ => by omega⟩
  intro Kh x f ⟨hx, hf⟩ hK
  have go : ∀ v : Int, v = (if x = g then 0 else 1000000000) → x < 144 → M_findLefts_j25 p f g x x v Q Kh := by
    intro v hv h144
    refine ⟨⟨hx.1, h144⟩, fun f2 hf2 => fun y hy => ?_⟩
    subst hy
    refine hK _ _ ⟨by omega, fun c h0 h1 => ?_⟩ (by omega)
    rw [hf2]
    by_cases hc : c = x
    · subst hc; rw [pm_us, hv]
    · rw [pm_un hc]; exact hf c h0 (by omega)
  refine ⟨⟨by omega, by omega⟩, ⟨by decide, by decide⟩, fun h144 => ⟨⟨by omega, by omega⟩, ⟨by omega, by omega⟩, fun he => go 0 (by rw [if_pos he]) h144, fun he => go 1000000000 (by rw [if_neg he]) h144⟩, fun h144 => ?_⟩
  have e144 : x = 144 := by omega
  subst e144
  -- the passes
  have hY0 : pm_Y p g f := by
    refine ⟨by rw [hf g hg.1 hg.2, if_pos rfl], fun c h1 h2 => ?_, fun c h1 h2 h3 h4 => ?_⟩
    · rw [hf c h1 h2]; split <;> omega
    · rw [hf c h1 h2, if_neg h3] at h4; omega
  refine pm_l2 (fun (m : Int) (f : Int → Int) => (m = 0 ∨ m = 1) ∧ pm_Y p g f ∧ (m = 0 → ∀ c, 0 ≤ c → c < 144 → c ≠ g → pm_ok p f c)) (fun (m : Int) (f : Int → Int) => (2 * pm_sm f 144 + m).toNat) ?_ 1 f ⟨Or.inr rfl, hY0, fun q => by omega⟩
  intro Kh1 m f1 ⟨hm, hY, hend⟩ hK1
  refine ⟨⟨by omega, by omega⟩, pm_R0, fun hm0 => ?_, fun hm0 => ?_⟩
  · refine hQ f1 ⟨hY.1, hY.2.1, fun c h1 h2 h3 h4 => ?_, fun c n hn h1 h2 => ?_⟩
    · obtain ⟨n, hn, h5, h6, h7⟩ := hY.2.2 c h1 h2 h3 h4
      have := hend hm0 c h1 h2 h3 n hn h5 h6
      exact ⟨n, hn, h5, h6, by omega⟩
    · by_cases hc : c = g
      · subst hc
        have := hY.2.1 n hn.2.1.1 hn.2.1.2
        rw [hY.1]; omega
      · exact hend hm0 c hn.1.1 hn.1.2 hc n hn h1 h2
  · have hm1 : m = 1 := by omega
    subst hm1
    refine pm_l3 (fun (m c : Int) (f : Int → Int) => (m = 0 ∨ m = 1) ∧ (0 ≤ c ∧ c ≤ 144) ∧ pm_Y p g f ∧ pm_sm f 144 ≤ pm_sm f1 144 ∧ (m = 1 → pm_sm f 144 < pm_sm f1 144) ∧ (m = 0 → ∀ d, 0 ≤ d → d < c → d ≠ g → pm_ok p f d)) (fun (_ c : Int) _ => (144 - c).toNat) ?_ 0 0 f1 ⟨Or.inl rfl, by decide, hY, Int.le_refl _, fun q => by omega, fun _ d _ _ => by omega⟩
    intro Kh2 m2 c f2 ⟨hm2, hc, hY2, hs2, ht2, he2⟩ hK2
    refine ⟨⟨by omega, by omega⟩, ⟨by decide, by decide⟩, fun h144 => ?_, fun h144 => ?_⟩
    · refine pm_l3 (fun (m k : Int) (f : Int → Int) => (m = 0 ∨ m = 1) ∧ (0 ≤ k ∧ k ≤ 4) ∧ pm_Y p g f ∧ pm_sm f 144 ≤ pm_sm f1 144 ∧ (m = 1 → pm_sm f 144 < pm_sm f1 144) ∧ (m = 0 → (∀ d, 0 ≤ d → d < c → d ≠ g → pm_ok p f d) ∧ (c ≠ g → ∀ j, 0 ≤ j → j < k → pm_bs c j ≠ -1 → 0 < p (pm_bs c j) → f (pm_bs c j) < 1000000000 → f c ≤ f (pm_bs c j) + 1000 * p (pm_bs c j) + 1))) (fun (_ k : Int) _ => (4 - k).toNat) ?_ m2 0 f2 ⟨hm2, by decide, hY2, hs2, ht2, fun q => ⟨he2 q, fun _ j _ _ => by omega⟩⟩
      intro Kh3 m3 k f3 ⟨hm3, hk, hY3, hs3, ht3, he3⟩ hK3
      have out : (4 ≤ k ∨ c = g) → ∀ y : Int, y = c + 1 → Kh2 m3 y f3 := by
        intro ho y hy
        subst hy
        refine hK2 _ _ _ ⟨hm3, by omega, hY3, hs3, ht3, fun q d h0 h1 h2 => ?_⟩ (by omega)
        obtain ⟨q1, q2⟩ := he3 q
        rcases (show d < c ∨ d = c by omega) with z | z
        · exact q1 d h0 z h2
        · subst z
          intro n hn z0 z1
          obtain ⟨j, hj, e⟩ := pm_nb_bs hn
          have hk4 : 4 ≤ k := ho.resolve_right h2
          have := q2 h2 j hj.1 (by omega) (by rw [e]; have := hn.2.1; omega) (by rw [e]; exact z0) (by rw [e]; exact z1)
          rw [e] at this
          exact this
      refine ⟨⟨by omega, by omega⟩, ⟨by decide, by decide⟩, fun h4 => ⟨⟨by omega, by omega⟩, ⟨by omega, by omega⟩, fun hcg => out (Or.inr hcg), fun hcg => ?_⟩, fun h4 => out (Or.inl (by omega))⟩
      have hcc : 0 ≤ c ∧ c < 144 := ⟨hc.1, h144⟩
      have hfc := hY3.2.1 c hcc.1 hcc.2
      refine sp_Mbeside hcc ⟨hk.1, h4⟩ ?_
      have hnb : pm_bs c k = -1 ∨ (0 ≤ pm_bs c k ∧ pm_bs c k < 144) := by
        by_cases hm : pm_bs c k = -1
        · exact Or.inl hm
        · exact Or.inr (pm_bs_nb hcc hm).2.1
      have skip : (pm_bs c k ≠ -1 → 0 < p (pm_bs c k) → f3 (pm_bs c k) < 1000000000 → f3 c ≤ f3 (pm_bs c k) + 1000 * p (pm_bs c k) + 1) → ∀ y : Int, y = k + 1 → Kh3 m3 y f3 := by
        intro hs y hy
        subst hy
        refine hK3 _ _ _ ⟨hm3, by omega, hY3, hs3, ht3, fun q => ⟨(he3 q).1, fun h5 j j0 j1 => ?_⟩⟩ (by omega)
        rcases (show j < k ∨ j = k by omega) with z | z
        · exact (he3 q).2 h5 j j0 z
        · subst z; exact hs
      refine sp_through hnb hp hY3.2.1 (fun hz => ?_) (fun n0 n1 n2 n3 => ?_)
      · refine ⟨hcc, ⟨by decide, by decide⟩, ⟨by omega, by omega⟩, fun q => by omega, fun _ => skip (fun z1 z2 z3 => ?_)⟩
        rcases hz with hz | hz | hz
        · exact absurd hz z1
        · omega
        · omega
      · have hq := hp _ n0 n1
        have hfn := hY3.2.1 _ n0 n1
        refine ⟨hcc, ⟨by omega, by omega⟩, ⟨by omega, by omega⟩, fun hlt => ⟨hcc, fun f4 hf4 => fun y hy => ?_⟩, fun hlt => skip (fun _ _ _ => by omega)⟩
        subst hy
        have hn := pm_bs_nb hcc (show pm_bs c k ≠ -1 by omega)
        have hup := pm_sm_up (f := f3) (i := c) (v := f3 (pm_bs c k) + 1000 * p (pm_bs c k) + 1) (n := 144) hcc.1 hcc.2
        rw [← hf4] at hup
        refine hK3 _ _ _ ⟨Or.inr rfl, by omega, ?_, by omega, fun _ => by omega, fun q => by omega⟩ (by omega)
        rw [hf4]
        exact pm_Y_step hY3 hcc hcg hn n2 n3 hlt
    · have e : c = 144 := by omega
      subst e
      have nn := pm_sm_nn (f := f2) (n := 144) (fun c h0 h1 => (hY2.2.1 c h0 (by omega)).1)
      have nn1 := pm_sm_nn (f := f1) (n := 144) (fun c h0 h1 => (hY.2.1 c h0 (by omega)).1)
      refine hK1 _ _ ⟨hm2, hY2, fun q c h0 h1 h2 => he2 q c h0 h1 h2⟩ ?_
      rcases hm2 with q | q
      · subst q; omega
      · have := ht2 q; subst q; omega
/-- both searches, and what is told of them -/
theorem pm_price_of {p D E : Int → Int} {g c : Int} (hp : pm_P p) (h : pm_BE 256 1073741824 p g D) (hE : pm_BE 1000 1000000000 p g E) (hc : 0 ≤ c ∧ c < 144) : (D c < 1073741824 ↔ E c < 1000000000) ∧ (D c < 1073741824 → D c / 256 = E c / 1000) := by
  rcases pm_two hp h hE c hc.1 hc.2 with ⟨t1, t2, t3, t4⟩ | ⟨t1, t2⟩
  · have h0 := (h.2.1 c hc.1 hc.2).1
    refine ⟨⟨fun _ => by omega, fun _ => t1⟩, fun _ => by omega⟩
  · exact ⟨⟨fun q => by omega, fun q => by omega⟩, fun q => by omega⟩
theorem sp_find {p : Int → Int} {lf rg nx fd : Int → Int} {wt fl fp g c : Int} {Q : Int → (Int → Int) → (Int → Int) → (Int → Int) → (Int → Int) → Int → Int → Int → Prop} (hp : pm_P p) (hg : 0 ≤ g ∧ g < 144) (hc : 0 ≤ c ∧ c < 144) (h0 : ∀ D rg' nx' wt', pm_BE 256 1073741824 p g D → D c = 1073741824 → Q 0 D rg' nx' fd wt' 0 fp) (h1 : ∀ D rg' nx' wt' fd', pm_BE 256 1073741824 p g D → D c < 1073741824 → (∀ i : Nat, (i : Int) ≤ D c % 256 → fd' i = pm_pt p D c i) → Q 1 D rg' nx' fd' wt' (D c % 256 + 1) (D c / 256)) : F_find_wp p lf rg nx fd wt fl fp c g Q := by
  refine sp_search hp hg (fun D rg' nx' wt' hD => ?_)
  have hr := hD.2.1 c hc.1 hc.2
  refine ⟨hc, ⟨by omega, by omega⟩, ⟨by decide, by decide⟩, fun he => ⟨Or.inl rfl, h0 D rg' nx' wt' hD he⟩, fun he => ⟨hc, ⟨⟨hr.1, by omega, by omega⟩, ⟨by decide, by decide, by decide⟩⟩, fun f2 hf2 => ?_⟩⟩
  subst hf2
  have hf : D c < 1073741824 := by omega
  exact sp_walk hp hD hg hc hf (fun fd' hfd => ⟨Or.inr rfl, h1 D rg' nx' wt' fd' hD hf hfd⟩)
theorem sp_findWay {p D : Int → Int} {mf mw : Int → Int} {mk g c : Int} {Q : Int → (Int → Int) → (Int → Int) → Int → Prop} (hp : pm_P p) (hg : 0 ≤ g ∧ g < 144) (hc : 0 ≤ c ∧ c < 144) (hD : pm_BE 256 1073741824 p g D) (h0 : ∀ E, D c = 1073741824 → Q 0 E mw 0) (h1 : ∀ E mw', D c < 1073741824 → (∀ i : Nat, (i : Int) ≤ D c % 256 → mw' i = pm_pt p D c i) → Q 1 E mw' (D c % 256 + 1)) : M_findWay_wp p mf mw mk c g Q := by
  refine sp_findLefts hp hg (fun E hE => ?_)
  have hr := hE.2.1 c hc.1 hc.2
  have hiff := (pm_price_of hp hD hE hc).1
  refine ⟨hc, ⟨by omega, by omega⟩, ⟨by decide, by decide⟩, fun hlt => ⟨by decide, fun w2 hw2 => ?_⟩, fun hlt => ⟨Or.inl rfl, h0 E ?_⟩⟩
  · have hf := hiff.mpr hlt
    exact sp_walkM hp hD hE hg hc hf (by rw [hw2, pm_us]) (fun mw' hmw => h1 E mw' hf hmw)
  · have := hD.2.1 c hc.1 hc.2
    omega
