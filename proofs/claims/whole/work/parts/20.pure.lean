/-! pure part: rows for the loops and the small methods -/
theorem pm_l1 {α : Type} {B : (α → Prop) → α → Prop} (I : α → Prop) (μ : α → Nat) (hs : ∀ (Kh : α → Prop) a, I a → (∀ a', I a' → μ a' < μ a → Kh a') → B Kh a) : ∀ a, I a → ∃ kk, ph_it (fun _ => False) B kk a := by
  have key : ∀ n a, I a → μ a < n → ph_it (fun _ => False) B n a := by
    intro n
    induction n with
    | zero => intro a _ h; exact absurd h (Nat.not_lt_zero _)
    | succ n ih => intro a ha hm; exact hs _ a ha (fun a' ha' hlt => ih a' ha' (by omega))
  exact fun a ha => ⟨_, key _ a ha (Nat.lt_succ_self _)⟩
theorem pm_l2 {α β : Type} {B : (α → β → Prop) → α → β → Prop} (I : α → β → Prop) (μ : α → β → Nat) (hs : ∀ (Kh : α → β → Prop) a b, I a b → (∀ a' b', I a' b' → μ a' b' < μ a b → Kh a' b') → B Kh a b) : ∀ a b, I a b → ∃ kk, ph_it (fun _ _ => False) B kk a b := by
  have key : ∀ n a b, I a b → μ a b < n → ph_it (fun _ _ => False) B n a b := by
    intro n
    induction n with
    | zero => intro a b _ h; exact absurd h (Nat.not_lt_zero _)
    | succ n ih => intro a b ha hm; exact hs _ a b ha (fun a' b' ha' hlt => ih a' b' ha' (by omega))
  exact fun a b ha => ⟨_, key _ a b ha (Nat.lt_succ_self _)⟩
theorem pm_l3 {α β γ : Type} {B : (α → β → γ → Prop) → α → β → γ → Prop} (I : α → β → γ → Prop) (μ : α → β → γ → Nat) (hs : ∀ (Kh : α → β → γ → Prop) a b c, I a b c → (∀ a' b' c', I a' b' c' → μ a' b' c' < μ a b c → Kh a' b' c') → B Kh a b c) : ∀ a b c, I a b c → ∃ kk, ph_it (fun _ _ _ => False) B kk a b c := by
  have key : ∀ n a b c, I a b c → μ a b c < n → ph_it (fun _ _ _ => False) B n a b c := by
    intro n
    induction n with
    | zero => intro a b c _ h; exact absurd h (Nat.not_lt_zero _)
    | succ n ih => intro a b c ha hm; exact hs _ a b c ha (fun a' b' c' ha' hlt => ih a' b' c' ha' (by omega))
  exact fun a b c ha => ⟨_, key _ a b c ha (Nat.lt_succ_self _)⟩
theorem pm_l4 {α β γ δ : Type} {B : (α → β → γ → δ → Prop) → α → β → γ → δ → Prop} (I : α → β → γ → δ → Prop) (μ : α → β → γ → δ → Nat) (hs : ∀ (Kh : α → β → γ → δ → Prop) a b c d, I a b c d → (∀ a' b' c' d', I a' b' c' d' → μ a' b' c' d' < μ a b c d → Kh a' b' c' d') → B Kh a b c d) : ∀ a b c d, I a b c d → ∃ kk, ph_it (fun _ _ _ _ => False) B kk a b c d := by
  have key : ∀ n a b c d, I a b c d → μ a b c d < n → ph_it (fun _ _ _ _ => False) B n a b c d := by
    intro n
    induction n with
    | zero => intro a b c d _ h; exact absurd h (Nat.not_lt_zero _)
    | succ n ih => intro a b c d ha hm; exact hs _ a b c d ha (fun a' b' c' d' ha' hlt => ih a' b' c' d' ha' (by omega))
  exact fun a b c d ha => ⟨_, key _ a b c d ha (Nat.lt_succ_self _)⟩
theorem pm_l5 {α β γ δ ε : Type} {B : (α → β → γ → δ → ε → Prop) → α → β → γ → δ → ε → Prop} (I : α → β → γ → δ → ε → Prop) (μ : α → β → γ → δ → ε → Nat) (hs : ∀ (Kh : α → β → γ → δ → ε → Prop) a b c d e, I a b c d e → (∀ a' b' c' d' e', I a' b' c' d' e' → μ a' b' c' d' e' < μ a b c d e → Kh a' b' c' d' e') → B Kh a b c d e) : ∀ a b c d e, I a b c d e → ∃ kk, ph_it (fun _ _ _ _ _ => False) B kk a b c d e := by
  have key : ∀ n a b c d e, I a b c d e → μ a b c d e < n → ph_it (fun _ _ _ _ _ => False) B n a b c d e := by
    intro n
    induction n with
    | zero => intro a b c d e _ h; exact absurd h (Nat.not_lt_zero _)
    | succ n ih => intro a b c d e ha hm; exact hs _ a b c d e ha (fun a' b' c' d' e' ha' hlt => ih a' b' c' d' e' ha' (by omega))
  exact fun a b c d e ha => ⟨_, key _ a b c d e ha (Nat.lt_succ_self _)⟩
theorem pm_l6 {α β γ δ ε ζ : Type} {B : (α → β → γ → δ → ε → ζ → Prop) → α → β → γ → δ → ε → ζ → Prop} (I : α → β → γ → δ → ε → ζ → Prop) (μ : α → β → γ → δ → ε → ζ → Nat) (hs : ∀ (Kh : α → β → γ → δ → ε → ζ → Prop) a b c d e f, I a b c d e f → (∀ a' b' c' d' e' f', I a' b' c' d' e' f' → μ a' b' c' d' e' f' < μ a b c d e f → Kh a' b' c' d' e' f') → B Kh a b c d e f) : ∀ a b c d e f, I a b c d e f → ∃ kk, ph_it (fun _ _ _ _ _ _ => False) B kk a b c d e f := by
  have key : ∀ n a b c d e f, I a b c d e f → μ a b c d e f < n → ph_it (fun _ _ _ _ _ _ => False) B n a b c d e f := by
    intro n
    induction n with
    | zero => intro a b c d e f _ h; exact absurd h (Nat.not_lt_zero _)
    | succ n ih => intro a b c d e f ha hm; exact hs _ a b c d e f ha (fun a' b' c' d' e' f' ha' hlt => ih a' b' c' d' e' f' ha' (by omega))
  exact fun a b c d e f ha => ⟨_, key _ a b c d e f ha (Nat.lt_succ_self _)⟩
theorem pm_us {g : Int → Int} {i v : Int} : ph_u g i v i = v := by simp [ph_u]
theorem pm_un {g : Int → Int} {i j v : Int} (h : j ≠ i) : ph_u g i v j = g j := by simp [ph_u, h]
/-- a fold along 0 .. n - 1 -/
def pm_fo (g : Int → Int → Int) (a : Int) : Nat → Int
  | 0 => a
  | n + 1 => g (pm_fo g a n) (n : Int)
theorem pm_fo_congr {g g' : Int → Int → Int} {a : Int} : ∀ {n : Nat}, (∀ (k : Nat) (b : Int), k < n → g b k = g' b k) → pm_fo g a n = pm_fo g' a n
  | 0, _ => rfl
  | n + 1, h => by
    show g (pm_fo g a n) n = g' (pm_fo g' a n) n
    rw [pm_fo_congr (fun k b hk => h k b (by omega)), h n _ (by omega)]
theorem pm_fo_bd {g : Int → Int → Int} {a : Int} {c : Int} : ∀ {n : Nat}, (∀ (k : Nat) (b : Int), k < n → b ≤ g b k ∧ g b k ≤ b + c) → a ≤ pm_fo g a n ∧ pm_fo g a n ≤ a + n * c
  | 0, _ => by simp [pm_fo]
  | n + 1, h => by
    have h1 := pm_fo_bd (g := g) (a := a) (c := c) (n := n) (fun k b hk => h k b (by omega))
    have h2 := h n (pm_fo g a n) (by omega)
    show a ≤ g (pm_fo g a n) n ∧ g (pm_fo g a n) n ≤ a + ((n + 1 : Nat) : Int) * c
    have e : ((n + 1 : Nat) : Int) * c = n * c + c := by rw [Int.natCast_succ, Int.add_mul, Int.one_mul]
    rw [e]
    omega
theorem pm_fo_in {g : Int → Int → Int} {a lo hi : Int} (ha : lo ≤ a ∧ a ≤ hi) : ∀ {n : Nat}, (∀ (k : Nat) (b : Int), k < n → lo ≤ b ∧ b ≤ hi → lo ≤ g b k ∧ g b k ≤ hi) → lo ≤ pm_fo g a n ∧ pm_fo g a n ≤ hi
  | 0, _ => ha
  | n + 1, h => h n _ (by omega) (pm_fo_in ha (fun k b hk => h k b (by omega)))
/-- a loop with a sum and a counter -/
theorem pm_for {B : (Int → Int → Prop) → Int → Int → Prop} (g : Int → Int → Int) (a : Int) (N : Nat) (P : Nat → Int → Prop) (h0 : P 0 a) (hs : ∀ (Kh : Int → Int → Prop) (k : Nat) (acc : Int), k < N → P k acc → acc = pm_fo g a k → (P (k + 1) (g acc k) → Kh (g acc k) ((k : Int) + 1)) → P (k + 1) (g acc k) ∧ B Kh acc k) (hx : ∀ (Kh : Int → Int → Prop) (acc : Int), P N acc → acc = pm_fo g a N → B Kh acc N) : ∃ kk, ph_it (fun _ _ => False) B kk a 0 := by
  refine pm_l2 (fun (acc x : Int) => ∃ k : Nat, k ≤ N ∧ x = (k : Int) ∧ P k acc ∧ acc = pm_fo g a k) (fun (_ x : Int) => ((N : Int) - x).toNat) ?_ a 0 ⟨0, Nat.zero_le _, rfl, h0, rfl⟩
  intro Kh acc x ⟨k, hk, hx1, hP, he⟩ hK
  subst hx1
  rcases Nat.lt_or_ge k N with h | h
  · have hP2 : P (k + 1) (g acc k) := (hs (fun _ _ => True) k acc h hP he (fun _ => trivial)).1
    refine (hs Kh k acc h hP he (fun h2 => hK _ _ ⟨k + 1, by omega, rfl, h2, ?_⟩ (by omega))).2
    rw [he]; rfl
  · have : k = N := by omega
    subst this
    exact hx Kh acc hP he
theorem sp_in {x lo hi : Int} {Q : Int → Prop} (hx : ph_R x) (h1 : ph_R lo) (h2 : ph_R hi) (ht : lo ≤ x ∧ x ≤ hi → Q 1) (hf : ¬ (lo ≤ x ∧ x ≤ hi) → Q 0) : M_in_wp x lo hi Q := by
  refine ⟨⟨hx, h1⟩, ?_⟩
  have r1 : ∀ a b : Int, ph_R (ph_cm a b) := fun a b => by unfold ph_cm ph_R; split <;> (try split) <;> omega
  refine ⟨r1 _ _, ⟨by decide, by decide⟩, fun h => ⟨Or.inl rfl, hf ?_⟩, fun h => ⟨⟨hx, h2⟩, ⟨by decide, by decide⟩, r1 _ _, fun h3 => ⟨Or.inl rfl, hf ?_⟩, fun h3 => ⟨Or.inr rfl, ht ?_⟩⟩⟩
  · unfold ph_cm at h
    split at h
    · omega
    · split at h <;> omega
  · unfold ph_cm at h3
    split at h3
    · omega
    · split at h3 <;> omega
  · unfold ph_cm at h h3
    split at h
    · omega
    · split at h3
      · omega
      · split at h3
        · omega
        · omega
theorem sp_isCell {x : Int} {Q : Int → Prop} (hx : ph_R x) (ht : 0 ≤ x ∧ x < 144 → Q 1) (hf : ¬ (0 ≤ x ∧ x < 144) → Q 0) : M_isCell_wp x Q :=
  ⟨hx, sp_in hx ⟨by decide, by decide⟩ ⟨by decide, by decide⟩ (fun h => ⟨Or.inr rfl, ht (by omega)⟩) (fun h => ⟨Or.inl rfl, hf (by omega)⟩)⟩
theorem sp_isNode {n x : Int} {Q : Int → Prop} (hn : 0 ≤ n ∧ n ≤ 24) (hx : ph_R x) (ht : 0 ≤ x ∧ x < n → Q 1) (hf : ¬ (0 ≤ x ∧ x < n) → Q 0) : M_isNode_wp n x Q :=
  ⟨hx, ⟨by omega, by omega⟩, sp_in hx ⟨by decide, by decide⟩ ⟨by omega, by omega⟩ (fun h => ⟨Or.inr rfl, ht (by omega)⟩) (fun h => ⟨Or.inl rfl, hf (by omega)⟩)⟩
theorem sp_Fholds {x : Int} {Q : Int → Prop} (hx : ph_R x) (ht : 0 ≤ x ∧ x < 144 → Q 1) (hf : ¬ (0 ≤ x ∧ x < 144) → Q 0) : F_holds_wp x Q :=
  ⟨hx, ⟨by decide, by decide⟩, fun h => ⟨Or.inl rfl, hf (by omega)⟩, fun h => ⟨hx, ⟨by decide, by decide⟩, fun h2 => ⟨Or.inr rfl, ht (by omega)⟩, fun h2 => ⟨Or.inl rfl, hf (by omega)⟩⟩⟩
theorem sp_Nholds {n x : Int} {Q : Int → Prop} (hn : 0 ≤ n ∧ n ≤ 24) (hx : ph_R x) (ht : 0 ≤ x ∧ x < n → Q 1) (hf : ¬ (0 ≤ x ∧ x < n) → Q 0) : N_holds_wp n x Q :=
  ⟨hx, ⟨by decide, by decide⟩, fun h => ⟨Or.inl rfl, hf (by omega)⟩, fun h => ⟨hx, ⟨by omega, by omega⟩, fun h2 => ⟨Or.inr rfl, ht (by omega)⟩, fun h2 => ⟨Or.inl rfl, hf (by omega)⟩⟩⟩
theorem sp_isOut {x m : Int} {Q : Int → Prop} (hx : ph_R x) (hm : ph_R m) (ht : 0 ≤ x ∧ x ≤ m → Q 0) (hf : ¬ (0 ≤ x ∧ x ≤ m) → Q 1) : H_isOutside_wp x m Q :=
  ⟨hx, ⟨by decide, by decide⟩, fun h => ⟨Or.inr rfl, hf (by omega)⟩, fun h => ⟨hm, hx, fun h2 => ⟨Or.inr rfl, hf (by omega)⟩, fun h2 => ⟨Or.inl rfl, ht (by omega)⟩⟩⟩
theorem pm_R0 : ph_R 0 := ⟨by decide, by decide⟩
theorem pm_R1 : ph_R 1 := ⟨by decide, by decide⟩
/-- a told 1 or 0 against 0 -/
theorem pm_eq1 {A B : Prop} (h : B) : ph_eq 1 0 A B := ⟨pm_R1, pm_R0, fun h1 => absurd h1 (by decide), fun _ => h⟩
theorem pm_eq0 {A B : Prop} (h : A) : ph_eq 0 0 A B := ⟨pm_R0, pm_R0, fun _ => h, fun h1 => absurd rfl h1⟩
/-- what both floors say -/
def pm_F (pr mp : Int → Int) : Prop := ∀ c, 0 ≤ c → c < 144 → pr c = mp c ∧ 0 ≤ pr c ∧ pr c ≤ 9
theorem pm_price {pr mp : Int → Int} {a b : Int} {K : Int → Int → (Int → Int) → (Int → Int) → Prop} (hF : pm_F pr mp) (ha : ph_R a) (hb : ph_R b) (hK : ∀ r pr' mp', ph_R r → pm_F pr' mp' → K r r pr' mp') : H_price_wp pr a b (fun r pr' => M_price_wp mp a b (fun r' mp' => K r r' pr' mp')) := by
  refine sp_Fholds ha (fun h1 => pm_eq1 (sp_isOut hb ⟨by decide, by decide⟩ (fun h2 => pm_eq0 ?_) (fun h2 => pm_eq1 ?_))) (fun h1 => pm_eq0 ?_)
  · refine ⟨h1, fun x hx => ⟨h1, fun p2 hp2 => ?_⟩⟩
    refine sp_isCell ha (fun _ => pm_eq1 ⟨hb, sp_in hb pm_R0 ⟨by decide, by decide⟩ (fun _ => pm_eq1 ?_) (fun h => absurd h2 h)⟩) (fun h => absurd h1 h)
    refine ⟨h1, fun y hy => ⟨h1, fun q2 hq2 => ?_⟩⟩
    have h3 := hF a h1.1 h1.2
    have e : y = x := by rw [hx, hy, h3.1]
    subst e
    refine hK _ _ _ ⟨by omega, by omega⟩ ?_
    intro c h4 h5
    by_cases hc : c = a
    · subst hc; rw [hp2, hq2, pm_us, pm_us]; omega
    · rw [hp2, hq2, pm_un hc, pm_un hc]; exact hF c h4 h5
  · refine sp_isCell ha (fun _ => pm_eq1 ⟨hb, sp_in hb pm_R0 ⟨by decide, by decide⟩ (fun h => absurd h h2) (fun _ => pm_eq0 ?_)⟩) (fun h => absurd h1 h)
    exact hK _ _ _ ⟨by decide, by decide⟩ hF
  · refine sp_isCell ha (fun h => absurd h h1) (fun _ => pm_eq0 ?_)
    exact hK _ _ _ ⟨by decide, by decide⟩ hF
