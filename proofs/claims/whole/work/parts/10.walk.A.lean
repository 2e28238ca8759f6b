set_option maxRecDepth 20000 in
theorem w_A_fill_l5 {X : ph_X} (C : ph_C X "java/util/Arrays" b_A_fill 4 ({ frames := 0, cells := 0, slots := 0, locals := 0 } : Room)) (a_zz : Nat) (n : Nat) (hn : n ≤ 2147483648) (x1 : Int) (x3 : Int) (Q : (Int → Int) → Prop) (hret : ph_RV X b_A_fill 4 (S := (Int → Int)) (fun u => [(a_zz, .inl ((ph_cI X), n, .inl (ph_f (u))))]) (fun u => Q (u))) (Kh : Int → (Int → Int) → Prop) (hKh : ∀ (x2' : Int) (zz' : Int → Int) , Kh x2' zz' → ph_G X 0 0 [(a_zz, .inl ((ph_cI X), n, .inl (ph_f zz')))] 4 [(0, .ref a_zz), (1, .int (ph_J x1)), (2, .int (ph_J x2')), (3, .int (ph_J x3))] 5 []) (x2 : Int) (zz : Int → Int) (h : A_fill_l5 (n : Int)  x1 x3   Q Kh x2 zz) : ph_G X 0 0 [(a_zz, .inl ((ph_cI X), n, .inl (ph_f zz)))] 4 [(0, .ref a_zz), (1, .int (ph_J x1)), (2, .int (ph_J x2)), (3, .int (ph_J x3))] 5 [] := by
  unfold A_fill_l5 at h
  refine ph_iload_n C d_A_fill_5 rfl 2 rfl ?_
  refine ph_iload_n C d_A_fill_6 rfl 3 rfl ?_
  refine ph_icmp_ge C (tgt := 20) d_A_fill_7 (by decide) h (fun h => ?_) (fun h => ?_)
  · exact hret _ _ (zz) d_A_fill_20 h
  · refine ph_aload_n C d_A_fill_10 rfl 0 rfl ?_
    refine ph_iload_n C d_A_fill_11 rfl 2 rfl ?_
    refine ph_iload_n C d_A_fill_12 rfl 1 rfl ?_
    refine ph_iast C (ws2 := fun g2 => [(a_zz, .inl ((ph_cI X), n, .inl (ph_f g2)))]) d_A_fill_13 0 rfl (fun _ => rfl) rfl hn h (fun zz_13 e_zz_13 h => ?_)
    show ph_G X 0 0 [(a_zz, .inl ((ph_cI X), n, .inl (ph_f zz_13)))] 4 [(0, .ref a_zz), (1, .int (ph_J x1)), (2, .int (ph_J x2)), (3, .int (ph_J x3))] 14 []
    refine ph_iinc C 2 d_A_fill_14 rfl (by decide) [1, 2, 0, 3] (lvp := fun y => [(0, .ref a_zz), (1, .int (ph_J x1)), (2, .int (ph_J y)), (3, .int (ph_J x3))]) (fun _ => rfl) h (fun x2_14 e_x2_14 h => ?_)
    show ph_G X 0 0 [(a_zz, .inl ((ph_cI X), n, .inl (ph_f zz_13)))] 4 [(0, .ref a_zz), (1, .int (ph_J x1)), (2, .int (ph_J x2_14)), (3, .int (ph_J x3))] 17 []
    refine ph_goto C (tgt := 5) d_A_fill_17 (by decide) ?_
    exact ph_sub [0, 1, 2, 3] rfl (hKh _ _ h)
set_option maxRecDepth 20000 in
theorem v_A_fill_l5 {X : ph_X} (C : ph_C X "java/util/Arrays" b_A_fill 4 ({ frames := 0, cells := 0, slots := 0, locals := 0 } : Room)) (a_zz : Nat) (n : Nat) (hn : n ≤ 2147483648) (x1 : Int) (x3 : Int) (Q : (Int → Int) → Prop) (hret : ph_RV X b_A_fill 4 (S := (Int → Int)) (fun u => [(a_zz, .inl ((ph_cI X), n, .inl (ph_f (u))))]) (fun u => Q (u))) : ∀ (kk : Nat) (x2 : Int) (zz : Int → Int) , ph_it (fun _ _ => False) (A_fill_l5 (n : Int)  x1 x3  Q) kk x2 zz → ph_G X 0 0 [(a_zz, .inl ((ph_cI X), n, .inl (ph_f zz)))] 4 [(0, .ref a_zz), (1, .int (ph_J x1)), (2, .int (ph_J x2)), (3, .int (ph_J x3))] 5 [] := by
  intro kk
  induction kk with
  | zero => intro x2 zz h; exact h.elim
  | succ kk ih => intro x2 zz h; exact w_A_fill_l5 C a_zz n hn  x1 x3  Q hret  _ ih x2 zz h
set_option maxRecDepth 20000 in
theorem w_A_fill {X : ph_X} (C : ph_C X "java/util/Arrays" b_A_fill 4 ({ frames := 0, cells := 0, slots := 0, locals := 0 } : Room)) (a_zz : Nat) (n : Nat) (hn : n ≤ 2147483648) (zz : Int → Int) (x1 : Int) (Q : (Int → Int) → Prop) (hret : ph_RV X b_A_fill 4 (S := (Int → Int)) (fun u => [(a_zz, .inl ((ph_cI X), n, .inl (ph_f (u))))]) (fun u => Q (u))) (h : A_fill_wp (n : Int) zz x1 Q) : ph_G X 0 0 [(a_zz, .inl ((ph_cI X), n, .inl (ph_f zz)))] 4 [(0, .ref a_zz), (1, .int (ph_J x1))] 0 [] := by
  unfold A_fill_wp at h
  refine ph_iconst C (n := 0) d_A_fill_0 rfl ?_
  refine ph_istore_n C (lv' := [(0, .ref a_zz), (1, .int (ph_J x1)), (2, .int (ph_J 0))]) d_A_fill_1 rfl (by decide) [1, 2, 0] rfl ?_
  refine ph_aload_n C d_A_fill_2 rfl 0 rfl ?_
  refine ph_alen C 0 d_A_fill_3 0 rfl rfl ?_
  refine ph_top C h (fun x3_4 e_x3_4 h => ?_)
  refine ph_istore_n C (lv' := [(0, .ref a_zz), (1, .int (ph_J x1)), (2, .int (ph_J 0)), (3, .int (ph_J x3_4))]) d_A_fill_4 rfl (by decide) [1, 2, 3, 0] rfl ?_
  obtain ⟨kk, h⟩ := h
  refine ph_sub [0, 1, 2, 3] rfl (v_A_fill_l5 C a_zz n hn  x1 x3_4  Q hret  kk 0 zz h)
set_option maxRecDepth 20000 in
theorem c_A_fill (l : Launch) (D : va_G) (cI cZ : ClassId) (a_zz : Nat) (n : Nat) (hn : n ≤ 2147483648) (zz : Int → Int) (x1 : Int) (Q : (Int → Int) → Prop) (h : A_fill_wp (n : Int) zz x1 Q) : ph_CoV l D cI cZ y_A_fill b_A_fill 4 ({ frames := 0, cells := 0, slots := 0, locals := 0 } : Room) [.ref a_zz, .int (ph_J x1)] [(a_zz, .inl (cI, n, .inl (ph_f zz)))] (S := (Int → Int)) (fun u => [(a_zz, .inl (cI, n, .inl (ph_f (u))))]) (fun u => Q (u)) :=
  ph_metV (by decide) (Nat.le_of_ble_eq_true rfl) (fun p e s m args below meth c Q0 A C hret => w_A_fill (X := (p, l, e, ({ frames := 0, cells := 0, slots := 0, locals := 0 } : Room), s, m, args, below, meth, c, Q0, D, cI, cZ, A)) C a_zz n hn zz x1 Q hret h)
set_option maxRecDepth 20000 in
theorem k_A_fill {X : ph_X} {own : String} {cc : ByteArray} {nL : Nat} {rm : Room} {ws : va_W} {lv : List (Nat × Value)} {pc : Nat} {st : List Value} {kc ks : Nat} {idx : Nat} (C : ph_C X own cc nL rm) (a_zz : Nat) (n : Nat) (hn : n ≤ 2147483648) (zz : Int → Int) (x1 : Int) (Q : (Int → Int) → Prop) (h : A_fill_wp (n : Int) zz x1 Q) (hlink : Cond.methodLink own idx y_A_fill ∈ ph_T) (hR : (kc ≤ rm.cells ∧ ks ≤ rm.slots ∧ 0 + 1 ≤ rm.frames) ∧ 8 + (4 + 11) + 0 ≤ rm.locals) (isC isR perm : List Nat) {wr : va_W} {ws2 : (Int → Int) → va_W} (hC : isC.map (fun i => ws[i]?) = ([(a_zz, .inl ((ph_cI X), n, .inl (ph_f zz)))] : va_W).map some) (hRs : isR.map (fun i => ws[i]?) = wr.map some) (hnc : va_nd isC = true) (hnr : va_nd isR = true) (hdis : ∀ i ∈ isR, i ∉ isC) (hnp : va_nd perm = true) (hp : ∀ (zz' : Int → Int) , perm.map (fun i => (wr ++ [(a_zz, .inl ((ph_cI X), n, .inl (ph_f zz')))])[i]?) = (ws2 zz').map some) (hroom : (st.map fun v => v.category).sum ≤ 8) (hdg : decode cc pc = .ok (.invokestatic idx, 3)) (kk : ∀ (zz' : Int → Int) , Q zz' → ph_G X kc ks (ws2 zz') nL lv (pc + 3) st) : ph_G X kc ks ws nL lv pc (.int (ph_J x1) :: .ref a_zz :: st) :=
  ph_callSv C (n := 2) (c_A_fill (ph_l X) (ph_D X) (ph_cI X) (ph_cZ X) a_zz n hn zz x1 Q h) hlink q_62 q_39 q_63 ⟨by decide, by decide, by decide +kernel⟩ ⟨⟨rfl, rfl⟩, hR.1.2.2, hR.2⟩ ⟨hR.1.1, hR.1.2.1⟩ rfl isC isR perm (ws2 := fun u => ws2 (u)) hC hRs hnc hnr hdis hnp (fun u => hp (u)) rfl hroom hdg (fun u h2 => kk  (u) h2)
set_option maxRecDepth 20000 in
theorem w_F_holds {X : ph_X} (C : ph_C X "PipeHouse$Floor" b_F_holds 1 ({ frames := 0, cells := 0, slots := 0, locals := 0 } : Room)) (x0 : Int) (Q : Int → Prop) (hret : ph_RI X b_F_holds 1 true (S := Unit) (fun _ => []) (fun r _ => Q r)) (h : F_holds_wp x0 Q) : ph_G X 0 0 [] 1 [(0, .int (ph_J x0))] 0 [] := by
  unfold F_holds_wp at h
  refine ph_iload_n C d_F_holds_0 rfl 0 rfl ?_
  refine ph_if_lt C (tgt := 15) d_F_holds_1 (by decide) h (fun h => ?_) (fun h => ?_)
  · refine ph_iconst C (n := 0) d_F_holds_15 rfl ?_
    exact hret _ _ _ () d_F_holds_16 (fun _ => h.1) h.2
  · refine ph_iload_n C d_F_holds_4 rfl 0 rfl ?_
    refine ph_sipush C (n := 144) d_F_holds_5 (by decide) ?_
    refine ph_icmp_ge C (tgt := 15) d_F_holds_8 (by decide) h (fun h => ?_) (fun h => ?_)
    · refine ph_iconst C (n := 0) d_F_holds_15 rfl ?_
      exact hret _ _ _ () d_F_holds_16 (fun _ => h.1) h.2
    · refine ph_iconst C (n := 1) d_F_holds_11 rfl ?_
      refine ph_goto C (tgt := 16) d_F_holds_12 (by decide) ?_
      exact hret _ _ _ () d_F_holds_16 (fun _ => h.1) h.2
set_option maxRecDepth 20000 in
theorem c_F_holds (l : Launch) (D : va_G) (cI cZ : ClassId) (x0 : Int) (Q : Int → Prop) (h : F_holds_wp x0 Q) : ph_Con l D cI cZ y_F_holds b_F_holds 1 .boolean ({ frames := 0, cells := 0, slots := 0, locals := 0 } : Room) [.int (ph_J x0)] [] (S := Unit) (fun _ => []) (fun r _ => Q r) :=
  ph_met (bt := true) (Or.inr ⟨rfl, rfl⟩) (by decide) ⟨rfl, rfl⟩ (Nat.le_of_ble_eq_true rfl) (fun p e s m args below meth c Q0 A C hret => w_F_holds (X := (p, l, e, ({ frames := 0, cells := 0, slots := 0, locals := 0 } : Room), s, m, args, below, meth, c, Q0, D, cI, cZ, A)) C  x0 Q hret h)
set_option maxRecDepth 20000 in
theorem k_F_holds {X : ph_X} {own : String} {cc : ByteArray} {nL : Nat} {rm : Room} {ws : va_W} {lv : List (Nat × Value)} {pc : Nat} {st : List Value} {kc ks : Nat} {idx : Nat} (C : ph_C X own cc nL rm) (x0 : Int) (Q : Int → Prop) (h : F_holds_wp x0 Q) (hlink : Cond.methodLink own idx y_F_holds ∈ ph_T) (hR : (kc ≤ rm.cells ∧ ks ≤ rm.slots ∧ 0 + 1 ≤ rm.frames) ∧ 8 + (1 + 11) + 0 ≤ rm.locals) (isC isR perm : List Nat) {wr : va_W} {ws2 : va_W} (hC : isC.map (fun i => ws[i]?) = ([] : va_W).map some) (hRs : isR.map (fun i => ws[i]?) = wr.map some) (hnc : va_nd isC = true) (hnr : va_nd isR = true) (hdis : ∀ i ∈ isR, i ∉ isC) (hnp : va_nd perm = true) (hp : perm.map (fun i => (wr ++ [])[i]?) = (ws2 ).map some) (hroom : (st.map fun v => v.category).sum ≤ 8) (hdg : decode cc pc = .ok (.invokestatic idx, 3)) (kk : ∀ (r : Int) , Q r → ph_G X kc ks (ws2 ) nL lv (pc + 3) (.int (ph_J r) :: st)) : ph_G X kc ks ws nL lv pc (.int (ph_J x0) :: st) :=
  ph_callS C (n := 1) (c_F_holds (ph_l X) (ph_D X) (ph_cI X) (ph_cZ X)  x0 Q h) hlink q_226 q_38 q_227 ⟨by decide, by decide, by decide +kernel⟩ ⟨⟨rfl, rfl⟩, hR.1.2.2, hR.2⟩ ⟨hR.1.1, hR.1.2.1⟩ rfl isC isR perm (ws2 := fun _ => ws2) hC hRs hnc hnr hdis hnp (fun _ => hp) rfl hroom hdg (fun r u h2 => kk r  h2)
set_option maxRecDepth 20000 in
theorem w_F_changePrice {X : ph_X} (C : ph_C X "PipeHouse$Floor" b_F_changePrice 4 ({ frames := 0, cells := 0, slots := 0, locals := 0 } : Room)) (a_F a_pr a_lf a_rg a_nx a_fd : Nat) (pr : Int → Int) (wt : Int) (fl : Int) (fp : Int) (x1 : Int) (x2 : Int) (Q : Int → (Int → Int) → Prop) (hret : ph_RI X b_F_changePrice 4 false (S := (Int → Int)) (fun u => [(a_F, .inr (0, [.ref a_pr, .ref a_lf, .ref a_rg, .ref a_nx, .ref a_fd, .int (ph_J wt), .int (ph_J fl), .int (ph_J fp)])), (a_pr, .inl ((ph_cI X), 144, .inl (ph_f (u))))]) (fun r u => Q r (u))) (h : F_changePrice_wp pr x1 x2 Q) : ph_G X 0 0 [(a_F, .inr (0, [.ref a_pr, .ref a_lf, .ref a_rg, .ref a_nx, .ref a_fd, .int (ph_J wt), .int (ph_J fl), .int (ph_J fp)])), (a_pr, .inl ((ph_cI X), 144, .inl (ph_f pr)))] 4 [(0, .ref a_F), (1, .int (ph_J x1)), (2, .int (ph_J x2))] 0 [] := by
  unfold F_changePrice_wp at h
  refine ph_aload_n C d_F_changePrice_0 rfl 0 rfl ?_
  refine gf_F_pr C d_F_changePrice_1 0 rfl rfl ?_
  refine ph_iload_n C d_F_changePrice_4 rfl 1 rfl ?_
  refine ph_iald C d_F_changePrice_5 1 rfl rfl (Nat.le_of_ble_eq_true rfl) h (fun h => ?_)
  refine ph_top C h (fun x3_6 e_x3_6 h => ?_)
  refine ph_istore_n C (lv' := [(0, .ref a_F), (1, .int (ph_J x1)), (2, .int (ph_J x2)), (3, .int (ph_J x3_6))]) d_F_changePrice_6 rfl (by decide) [1, 2, 3, 0] rfl ?_
  refine ph_aload_n C d_F_changePrice_7 rfl 0 rfl ?_
  refine gf_F_pr C d_F_changePrice_8 0 rfl rfl ?_
  refine ph_iload_n C d_F_changePrice_11 rfl 1 rfl ?_
  refine ph_iload_n C d_F_changePrice_12 rfl 2 rfl ?_
  refine ph_iast C (ws2 := fun g2 => [(a_F, .inr (0, [.ref a_pr, .ref a_lf, .ref a_rg, .ref a_nx, .ref a_fd, .int (ph_J wt), .int (ph_J fl), .int (ph_J fp)])), (a_pr, .inl ((ph_cI X), 144, .inl (ph_f g2)))]) d_F_changePrice_13 1 rfl (fun _ => rfl) rfl (Nat.le_of_ble_eq_true rfl) h (fun pr_13 e_pr_13 h => ?_)
  show ph_G X 0 0 [(a_F, .inr (0, [.ref a_pr, .ref a_lf, .ref a_rg, .ref a_nx, .ref a_fd, .int (ph_J wt), .int (ph_J fl), .int (ph_J fp)])), (a_pr, .inl ((ph_cI X), 144, .inl (ph_f pr_13)))] 4 [(0, .ref a_F), (1, .int (ph_J x1)), (2, .int (ph_J x2)), (3, .int (ph_J x3_6))] 14 []
  refine ph_iload_n C d_F_changePrice_14 rfl 3 rfl ?_
  exact hret _ _ _ (pr_13) d_F_changePrice_15 (fun z => absurd z (by decide)) h
set_option maxRecDepth 20000 in
theorem c_F_changePrice (l : Launch) (D : va_G) (cI cZ : ClassId) (a_F a_pr a_lf a_rg a_nx a_fd : Nat) (pr : Int → Int) (wt : Int) (fl : Int) (fp : Int) (x1 : Int) (x2 : Int) (Q : Int → (Int → Int) → Prop) (h : F_changePrice_wp pr x1 x2 Q) : ph_Con l D cI cZ y_F_changePrice b_F_changePrice 4 .int ({ frames := 0, cells := 0, slots := 0, locals := 0 } : Room) [.ref a_F, .int (ph_J x1), .int (ph_J x2)] [(a_F, .inr (0, [.ref a_pr, .ref a_lf, .ref a_rg, .ref a_nx, .ref a_fd, .int (ph_J wt), .int (ph_J fl), .int (ph_J fp)])), (a_pr, .inl (cI, 144, .inl (ph_f pr)))] (S := (Int → Int)) (fun u => [(a_F, .inr (0, [.ref a_pr, .ref a_lf, .ref a_rg, .ref a_nx, .ref a_fd, .int (ph_J wt), .int (ph_J fl), .int (ph_J fp)])), (a_pr, .inl (cI, 144, .inl (ph_f (u))))]) (fun r u => Q r (u)) :=
  ph_met (bt := false) (Or.inl ⟨rfl, rfl⟩) (by decide) ⟨rfl, rfl⟩ (Nat.le_of_ble_eq_true rfl) (fun p e s m args below meth c Q0 A C hret => w_F_changePrice (X := (p, l, e, ({ frames := 0, cells := 0, slots := 0, locals := 0 } : Room), s, m, args, below, meth, c, Q0, D, cI, cZ, A)) C a_F a_pr a_lf a_rg a_nx a_fd pr wt fl fp x1 x2 Q hret h)
set_option maxRecDepth 20000 in
theorem k_F_changePrice {X : ph_X} {own : String} {cc : ByteArray} {nL : Nat} {rm : Room} {ws : va_W} {lv : List (Nat × Value)} {pc : Nat} {st : List Value} {kc ks : Nat} {idx : Nat} (C : ph_C X own cc nL rm) (a_F a_pr a_lf a_rg a_nx a_fd : Nat) (pr : Int → Int) (wt : Int) (fl : Int) (fp : Int) (x1 : Int) (x2 : Int) (Q : Int → (Int → Int) → Prop) (h : F_changePrice_wp pr x1 x2 Q) (hlink : Cond.methodLink own idx y_F_changePrice ∈ ph_T) (hR : (kc ≤ rm.cells ∧ ks ≤ rm.slots ∧ 0 + 1 ≤ rm.frames) ∧ 8 + (4 + 11) + 0 ≤ rm.locals) (isC isR perm : List Nat) {wr : va_W} {ws2 : (Int → Int) → va_W} (hC : isC.map (fun i => ws[i]?) = ([(a_F, .inr (0, [.ref a_pr, .ref a_lf, .ref a_rg, .ref a_nx, .ref a_fd, .int (ph_J wt), .int (ph_J fl), .int (ph_J fp)])), (a_pr, .inl ((ph_cI X), 144, .inl (ph_f pr)))] : va_W).map some) (hRs : isR.map (fun i => ws[i]?) = wr.map some) (hnc : va_nd isC = true) (hnr : va_nd isR = true) (hdis : ∀ i ∈ isR, i ∉ isC) (hnp : va_nd perm = true) (hp : ∀ (pr' : Int → Int) , perm.map (fun i => (wr ++ [(a_F, .inr (0, [.ref a_pr, .ref a_lf, .ref a_rg, .ref a_nx, .ref a_fd, .int (ph_J wt), .int (ph_J fl), .int (ph_J fp)])), (a_pr, .inl ((ph_cI X), 144, .inl (ph_f pr')))])[i]?) = (ws2 pr').map some) (hroom : (st.map fun v => v.category).sum ≤ 8) (hdg : decode cc pc = .ok (.invokevirtual idx, 3)) (kk : ∀ (r : Int) (pr' : Int → Int) , Q r pr' → ph_G X kc ks (ws2 pr') nL lv (pc + 3) (.int (ph_J r) :: st)) : ph_G X kc ks ws nL lv pc (.int (ph_J x2) :: .int (ph_J x1) :: .ref a_F :: st) :=
  ph_callV C (n := 2) (c_F_changePrice (ph_l X) (ph_D X) (ph_cI X) (ph_cZ X) a_F a_pr a_lf a_rg a_nx a_fd pr wt fl fp x1 x2 Q h) hlink q_232 q_233 q_38 q_234 ⟨by decide, by decide, by decide +kernel⟩ ⟨⟨rfl, rfl⟩, hR.1.2.2, hR.2⟩ ⟨hR.1.1, hR.1.2.1⟩ 0 rfl rfl rfl isC isR perm (ws2 := fun u => ws2 (u)) hC hRs hnc hnr hdis hnp (fun u => hp (u)) rfl hroom hdg (fun r u h2 => kk r (u) h2)
set_option maxRecDepth 20000 in
theorem w_F_beside {X : ph_X} (C : ph_C X "PipeHouse$Floor" b_F_beside 3 ({ frames := 0, cells := 0, slots := 0, locals := 0 } : Room)) (x0 : Int) (x1 : Int) (Q : Int → Prop) (hret : ph_RI X b_F_beside 3 false (S := Unit) (fun _ => []) (fun r _ => Q r)) (h : F_beside_wp x0 x1 Q) : ph_G X 0 0 [] 3 [(0, .int (ph_J x0)), (1, .int (ph_J x1))] 0 [] := by
  unfold F_beside_wp at h
  refine ph_iload_n C d_F_beside_0 rfl 0 rfl ?_
  refine ph_bipush C (n := 12) d_F_beside_1 (by decide) ?_
  refine ph_irem C d_F_beside_3 h (fun h => ?_)
  refine ph_top C h (fun x2_4 e_x2_4 h => ?_)
  refine ph_istore_n C (lv' := [(0, .int (ph_J x0)), (1, .int (ph_J x1)), (2, .int (ph_J x2_4))]) d_F_beside_4 rfl (by decide) [1, 2, 0] rfl ?_
  refine ph_iload_n C d_F_beside_5 rfl 1 rfl ?_
  refine ph_rrow C h (fun hR h => ?_)
  by_cases ec : x1 = 0
  · replace h := h.1 ec
    refine ph_tabIn C (off := 26) (tgt := 32) d_F_beside_6 hR (by omega) (by omega) (by rw [ec]; rfl) (by decide) ?_
    refine ph_iload_n C d_F_beside_32 rfl 0 rfl ?_
    refine ph_bipush C (n := 12) d_F_beside_33 (by decide) ?_
    refine ph_icmp_lt C (tgt := 45) d_F_beside_35 (by decide) h (fun h => ?_) (fun h => ?_)
    · refine ph_iconst C (n := (-1)) d_F_beside_45 rfl ?_
      exact hret _ _ _ () d_F_beside_46 (fun z => absurd z (by decide)) h
    · refine ph_iload_n C d_F_beside_38 rfl 0 rfl ?_
      refine ph_bipush C (n := 12) d_F_beside_39 (by decide) ?_
      refine ph_isub C d_F_beside_41 ?_
      refine ph_goto C (tgt := 46) d_F_beside_42 (by decide) ?_
      exact hret _ _ _ () d_F_beside_46 (fun z => absurd z (by decide)) h
  · replace h := h.2 ec
    have ec0 := ec
    clear ec
    by_cases ec : x1 = 1
    · replace h := h.1 ec
      refine ph_tabIn C (off := 41) (tgt := 47) d_F_beside_6 hR (by omega) (by omega) (by rw [ec]; rfl) (by decide) ?_
      refine ph_iload_n C d_F_beside_47 rfl 2 rfl ?_
      refine ph_if_le C (tgt := 57) d_F_beside_48 (by decide) h (fun h => ?_) (fun h => ?_)
      · refine ph_iconst C (n := (-1)) d_F_beside_57 rfl ?_
        exact hret _ _ _ () d_F_beside_58 (fun z => absurd z (by decide)) h
      · refine ph_iload_n C d_F_beside_51 rfl 0 rfl ?_
        refine ph_iconst C (n := 1) d_F_beside_52 rfl ?_
        refine ph_isub C d_F_beside_53 ?_
        refine ph_goto C (tgt := 58) d_F_beside_54 (by decide) ?_
        exact hret _ _ _ () d_F_beside_58 (fun z => absurd z (by decide)) h
    · replace h := h.2 ec
      have ec1 := ec
      clear ec
      by_cases ec : x1 = 2
      · replace h := h.1 ec
        refine ph_tabIn C (off := 53) (tgt := 59) d_F_beside_6 hR (by omega) (by omega) (by rw [ec]; rfl) (by decide) ?_
        refine ph_iload_n C d_F_beside_59 rfl 2 rfl ?_
        refine ph_bipush C (n := 11) d_F_beside_60 (by decide) ?_
        refine ph_icmp_ge C (tgt := 71) d_F_beside_62 (by decide) h (fun h => ?_) (fun h => ?_)
        · refine ph_iconst C (n := (-1)) d_F_beside_71 rfl ?_
          exact hret _ _ _ () d_F_beside_72 (fun z => absurd z (by decide)) h
        · refine ph_iload_n C d_F_beside_65 rfl 0 rfl ?_
          refine ph_iconst C (n := 1) d_F_beside_66 rfl ?_
          refine ph_iadd C d_F_beside_67 ?_
          refine ph_goto C (tgt := 72) d_F_beside_68 (by decide) ?_
          exact hret _ _ _ () d_F_beside_72 (fun z => absurd z (by decide)) h
      · replace h := h.2 ec
        have ec2 := ec
        clear ec
        refine ph_tabOut C (tgt := 73) d_F_beside_6 hR (by omega) (by decide) ?_
        refine ph_iload_n C d_F_beside_73 rfl 0 rfl ?_
        refine ph_sipush C (n := 132) d_F_beside_74 (by decide) ?_
        refine ph_icmp_ge C (tgt := 87) d_F_beside_77 (by decide) h (fun h => ?_) (fun h => ?_)
        · refine ph_iconst C (n := (-1)) d_F_beside_87 rfl ?_
          exact hret _ _ _ () d_F_beside_88 (fun z => absurd z (by decide)) h
        · refine ph_iload_n C d_F_beside_80 rfl 0 rfl ?_
          refine ph_bipush C (n := 12) d_F_beside_81 (by decide) ?_
          refine ph_iadd C d_F_beside_83 ?_
          refine ph_goto C (tgt := 88) d_F_beside_84 (by decide) ?_
          exact hret _ _ _ () d_F_beside_88 (fun z => absurd z (by decide)) h
set_option maxRecDepth 20000 in
theorem c_F_beside (l : Launch) (D : va_G) (cI cZ : ClassId) (x0 : Int) (x1 : Int) (Q : Int → Prop) (h : F_beside_wp x0 x1 Q) : ph_Con l D cI cZ y_F_beside b_F_beside 3 .int ({ frames := 0, cells := 0, slots := 0, locals := 0 } : Room) [.int (ph_J x0), .int (ph_J x1)] [] (S := Unit) (fun _ => []) (fun r _ => Q r) :=
  ph_met (bt := false) (Or.inl ⟨rfl, rfl⟩) (by decide) ⟨rfl, rfl⟩ (Nat.le_of_ble_eq_true rfl) (fun p e s m args below meth c Q0 A C hret => w_F_beside (X := (p, l, e, ({ frames := 0, cells := 0, slots := 0, locals := 0 } : Room), s, m, args, below, meth, c, Q0, D, cI, cZ, A)) C  x0 x1 Q hret h)
set_option maxRecDepth 20000 in
theorem k_F_beside {X : ph_X} {own : String} {cc : ByteArray} {nL : Nat} {rm : Room} {ws : va_W} {lv : List (Nat × Value)} {pc : Nat} {st : List Value} {kc ks : Nat} {idx : Nat} (C : ph_C X own cc nL rm) (x0 : Int) (x1 : Int) (Q : Int → Prop) (h : F_beside_wp x0 x1 Q) (hlink : Cond.methodLink own idx y_F_beside ∈ ph_T) (hR : (kc ≤ rm.cells ∧ ks ≤ rm.slots ∧ 0 + 1 ≤ rm.frames) ∧ 8 + (3 + 11) + 0 ≤ rm.locals) (isC isR perm : List Nat) {wr : va_W} {ws2 : va_W} (hC : isC.map (fun i => ws[i]?) = ([] : va_W).map some) (hRs : isR.map (fun i => ws[i]?) = wr.map some) (hnc : va_nd isC = true) (hnr : va_nd isR = true) (hdis : ∀ i ∈ isR, i ∉ isC) (hnp : va_nd perm = true) (hp : perm.map (fun i => (wr ++ [])[i]?) = (ws2 ).map some) (hroom : (st.map fun v => v.category).sum ≤ 8) (hdg : decode cc pc = .ok (.invokestatic idx, 3)) (kk : ∀ (r : Int) , Q r → ph_G X kc ks (ws2 ) nL lv (pc + 3) (.int (ph_J r) :: st)) : ph_G X kc ks ws nL lv pc (.int (ph_J x1) :: .int (ph_J x0) :: st) :=
  ph_callS C (n := 2) (c_F_beside (ph_l X) (ph_D X) (ph_cI X) (ph_cZ X)  x0 x1 Q h) hlink q_261 q_38 q_262 ⟨by decide, by decide, by decide +kernel⟩ ⟨⟨rfl, rfl⟩, hR.1.2.2, hR.2⟩ ⟨hR.1.1, hR.1.2.1⟩ rfl isC isR perm (ws2 := fun _ => ws2) hC hRs hnc hnr hdis hnp (fun _ => hp) rfl hroom hdg (fun r u h2 => kk r  h2)
set_option maxRecDepth 20000 in
theorem w_F_waitFor {X : ph_X} (C : ph_C X "PipeHouse$Floor" b_F_waitFor 4 ({ frames := 0, cells := 0, slots := 0, locals := 0 } : Room)) (a_F a_pr a_lf a_rg a_nx a_fd : Nat) (rg : Int → Int) (nx : Int → Int) (wt : Int) (fl : Int) (fp : Int) (x1 : Int) (x2 : Int) (Q : (Int → Int) → (Int → Int) → (Int) → Prop) (hret : ph_RV X b_F_waitFor 4 (S := (Int → Int) × (Int → Int) × (Int)) (fun u => [(a_F, .inr (0, [.ref a_pr, .ref a_lf, .ref a_rg, .ref a_nx, .ref a_fd, .int (ph_J (u.2.2)), .int (ph_J fl), .int (ph_J fp)])), (a_rg, .inl ((ph_cI X), 10, .inl (ph_f (u.1)))), (a_nx, .inl ((ph_cI X), 144, .inl (ph_f (u.2.1))))]) (fun u => Q (u.1) (u.2.1) (u.2.2))) (h : F_waitFor_wp rg nx wt x1 x2 Q) : ph_G X 0 0 [(a_F, .inr (0, [.ref a_pr, .ref a_lf, .ref a_rg, .ref a_nx, .ref a_fd, .int (ph_J wt), .int (ph_J fl), .int (ph_J fp)])), (a_rg, .inl ((ph_cI X), 10, .inl (ph_f rg))), (a_nx, .inl ((ph_cI X), 144, .inl (ph_f nx)))] 4 [(0, .ref a_F), (1, .int (ph_J x1)), (2, .int (ph_J x2))] 0 [] := by
  unfold F_waitFor_wp at h
  refine ph_iload_n C d_F_waitFor_0 rfl 2 rfl ?_
  refine ph_bipush C (n := 10) d_F_waitFor_1 (by decide) ?_
  refine ph_irem C d_F_waitFor_3 h (fun h => ?_)
  refine ph_top C h (fun x3_4 e_x3_4 h => ?_)
  refine ph_istore_n C (lv' := [(0, .ref a_F), (1, .int (ph_J x1)), (2, .int (ph_J x2)), (3, .int (ph_J x3_4))]) d_F_waitFor_4 rfl (by decide) [1, 2, 3, 0] rfl ?_
  refine ph_aload_n C d_F_waitFor_5 rfl 0 rfl ?_
  refine gf_F_nx C d_F_waitFor_6 0 rfl rfl ?_
  refine ph_iload_n C d_F_waitFor_9 rfl 1 rfl ?_
  refine ph_aload_n C d_F_waitFor_10 rfl 0 rfl ?_
  refine gf_F_rg C d_F_waitFor_11 0 rfl rfl ?_
  refine ph_iload_n C d_F_waitFor_14 rfl 3 rfl ?_
  refine ph_iald C d_F_waitFor_15 1 rfl rfl (Nat.le_of_ble_eq_true rfl) h (fun h => ?_)
  refine ph_iast C (ws2 := fun g2 => [(a_F, .inr (0, [.ref a_pr, .ref a_lf, .ref a_rg, .ref a_nx, .ref a_fd, .int (ph_J wt), .int (ph_J fl), .int (ph_J fp)])), (a_rg, .inl ((ph_cI X), 10, .inl (ph_f rg))), (a_nx, .inl ((ph_cI X), 144, .inl (ph_f g2)))]) d_F_waitFor_16 2 rfl (fun _ => rfl) rfl (Nat.le_of_ble_eq_true rfl) h (fun nx_16 e_nx_16 h => ?_)
  show ph_G X 0 0 [(a_F, .inr (0, [.ref a_pr, .ref a_lf, .ref a_rg, .ref a_nx, .ref a_fd, .int (ph_J wt), .int (ph_J fl), .int (ph_J fp)])), (a_rg, .inl ((ph_cI X), 10, .inl (ph_f rg))), (a_nx, .inl ((ph_cI X), 144, .inl (ph_f nx_16)))] 4 [(0, .ref a_F), (1, .int (ph_J x1)), (2, .int (ph_J x2)), (3, .int (ph_J x3_4))] 17 []
  refine ph_aload_n C d_F_waitFor_17 rfl 0 rfl ?_
  refine gf_F_rg C d_F_waitFor_18 0 rfl rfl ?_
  refine ph_iload_n C d_F_waitFor_21 rfl 3 rfl ?_
  refine ph_iload_n C d_F_waitFor_22 rfl 1 rfl ?_
  refine ph_iast C (ws2 := fun g2 => [(a_F, .inr (0, [.ref a_pr, .ref a_lf, .ref a_rg, .ref a_nx, .ref a_fd, .int (ph_J wt), .int (ph_J fl), .int (ph_J fp)])), (a_rg, .inl ((ph_cI X), 10, .inl (ph_f g2))), (a_nx, .inl ((ph_cI X), 144, .inl (ph_f nx_16)))]) d_F_waitFor_23 1 rfl (fun _ => rfl) rfl (Nat.le_of_ble_eq_true rfl) h (fun rg_23 e_rg_23 h => ?_)
  show ph_G X 0 0 [(a_F, .inr (0, [.ref a_pr, .ref a_lf, .ref a_rg, .ref a_nx, .ref a_fd, .int (ph_J wt), .int (ph_J fl), .int (ph_J fp)])), (a_rg, .inl ((ph_cI X), 10, .inl (ph_f rg_23))), (a_nx, .inl ((ph_cI X), 144, .inl (ph_f nx_16)))] 4 [(0, .ref a_F), (1, .int (ph_J x1)), (2, .int (ph_J x2)), (3, .int (ph_J x3_4))] 24 []
  refine ph_aload_n C d_F_waitFor_24 rfl 0 rfl ?_
  refine ph_dup C d_F_waitFor_25 rfl ?_
  refine gf_F_wt C d_F_waitFor_26 0 rfl rfl ?_
  refine ph_iconst C (n := 1) d_F_waitFor_29 rfl ?_
  refine ph_iadd C d_F_waitFor_30 ?_
  refine ph_top C h (fun wt_31 e_wt_31 h => ?_)
  refine pf_F_wt C d_F_waitFor_31 0 rfl (Nat.le_of_ble_eq_true rfl) (ws2 := [(a_F, .inr (0, [.ref a_pr, .ref a_lf, .ref a_rg, .ref a_nx, .ref a_fd, .int (ph_J wt_31), .int (ph_J fl), .int (ph_J fp)])), (a_rg, .inl ((ph_cI X), 10, .inl (ph_f rg_23))), (a_nx, .inl ((ph_cI X), 144, .inl (ph_f nx_16)))]) rfl ?_
  exact hret _ _ (rg_23, nx_16, wt_31) d_F_waitFor_34 h
set_option maxRecDepth 20000 in
theorem c_F_waitFor (l : Launch) (D : va_G) (cI cZ : ClassId) (a_F a_pr a_lf a_rg a_nx a_fd : Nat) (rg : Int → Int) (nx : Int → Int) (wt : Int) (fl : Int) (fp : Int) (x1 : Int) (x2 : Int) (Q : (Int → Int) → (Int → Int) → (Int) → Prop) (h : F_waitFor_wp rg nx wt x1 x2 Q) : ph_CoV l D cI cZ y_F_waitFor b_F_waitFor 4 ({ frames := 0, cells := 0, slots := 0, locals := 0 } : Room) [.ref a_F, .int (ph_J x1), .int (ph_J x2)] [(a_F, .inr (0, [.ref a_pr, .ref a_lf, .ref a_rg, .ref a_nx, .ref a_fd, .int (ph_J wt), .int (ph_J fl), .int (ph_J fp)])), (a_rg, .inl (cI, 10, .inl (ph_f rg))), (a_nx, .inl (cI, 144, .inl (ph_f nx)))] (S := (Int → Int) × (Int → Int) × (Int)) (fun u => [(a_F, .inr (0, [.ref a_pr, .ref a_lf, .ref a_rg, .ref a_nx, .ref a_fd, .int (ph_J (u.2.2)), .int (ph_J fl), .int (ph_J fp)])), (a_rg, .inl (cI, 10, .inl (ph_f (u.1)))), (a_nx, .inl (cI, 144, .inl (ph_f (u.2.1))))]) (fun u => Q (u.1) (u.2.1) (u.2.2)) :=
  ph_metV (by decide) (Nat.le_of_ble_eq_true rfl) (fun p e s m args below meth c Q0 A C hret => w_F_waitFor (X := (p, l, e, ({ frames := 0, cells := 0, slots := 0, locals := 0 } : Room), s, m, args, below, meth, c, Q0, D, cI, cZ, A)) C a_F a_pr a_lf a_rg a_nx a_fd rg nx wt fl fp x1 x2 Q hret h)
set_option maxRecDepth 20000 in
theorem k_F_waitFor {X : ph_X} {own : String} {cc : ByteArray} {nL : Nat} {rm : Room} {ws : va_W} {lv : List (Nat × Value)} {pc : Nat} {st : List Value} {kc ks : Nat} {idx : Nat} (C : ph_C X own cc nL rm) (a_F a_pr a_lf a_rg a_nx a_fd : Nat) (rg : Int → Int) (nx : Int → Int) (wt : Int) (fl : Int) (fp : Int) (x1 : Int) (x2 : Int) (Q : (Int → Int) → (Int → Int) → (Int) → Prop) (h : F_waitFor_wp rg nx wt x1 x2 Q) (hlink : Cond.methodLink own idx y_F_waitFor ∈ ph_T) (hR : (kc ≤ rm.cells ∧ ks ≤ rm.slots ∧ 0 + 1 ≤ rm.frames) ∧ 8 + (4 + 11) + 0 ≤ rm.locals) (isC isR perm : List Nat) {wr : va_W} {ws2 : (Int → Int) → (Int → Int) → (Int) → va_W} (hC : isC.map (fun i => ws[i]?) = ([(a_F, .inr (0, [.ref a_pr, .ref a_lf, .ref a_rg, .ref a_nx, .ref a_fd, .int (ph_J wt), .int (ph_J fl), .int (ph_J fp)])), (a_rg, .inl ((ph_cI X), 10, .inl (ph_f rg))), (a_nx, .inl ((ph_cI X), 144, .inl (ph_f nx)))] : va_W).map some) (hRs : isR.map (fun i => ws[i]?) = wr.map some) (hnc : va_nd isC = true) (hnr : va_nd isR = true) (hdis : ∀ i ∈ isR, i ∉ isC) (hnp : va_nd perm = true) (hp : ∀ (rg' : Int → Int) (nx' : Int → Int) (wt' : Int) , perm.map (fun i => (wr ++ [(a_F, .inr (0, [.ref a_pr, .ref a_lf, .ref a_rg, .ref a_nx, .ref a_fd, .int (ph_J wt'), .int (ph_J fl), .int (ph_J fp)])), (a_rg, .inl ((ph_cI X), 10, .inl (ph_f rg'))), (a_nx, .inl ((ph_cI X), 144, .inl (ph_f nx')))])[i]?) = (ws2 rg' nx' wt').map some) (hroom : (st.map fun v => v.category).sum ≤ 8) (hdg : decode cc pc = .ok (.invokevirtual idx, 3)) (kk : ∀ (rg' : Int → Int) (nx' : Int → Int) (wt' : Int) , Q rg' nx' wt' → ph_G X kc ks (ws2 rg' nx' wt') nL lv (pc + 3) st) : ph_G X kc ks ws nL lv pc (.int (ph_J x2) :: .int (ph_J x1) :: .ref a_F :: st) :=
  ph_callVv C (n := 2) (c_F_waitFor (ph_l X) (ph_D X) (ph_cI X) (ph_cZ X) a_F a_pr a_lf a_rg a_nx a_fd rg nx wt fl fp x1 x2 Q h) hlink q_250 q_1 q_38 q_251 ⟨by decide, by decide, by decide +kernel⟩ ⟨⟨rfl, rfl⟩, hR.1.2.2, hR.2⟩ ⟨hR.1.1, hR.1.2.1⟩ 0 rfl rfl rfl isC isR perm (ws2 := fun u => ws2 (u.1) (u.2.1) (u.2.2)) hC hRs hnc hnr hdis hnp (fun u => hp (u.1) (u.2.1) (u.2.2)) rfl hroom hdg (fun u h2 => kk  (u.1) (u.2.1) (u.2.2) h2)
set_option maxRecDepth 20000 in
theorem w_F_reachFrom_j94 {X : ph_X} (C : ph_C X "PipeHouse$Floor" b_F_reachFrom 6 ({ frames := 1, cells := 0, slots := 0, locals := 23 } : Room)) (a_F a_pr a_lf a_rg a_nx a_fd : Nat) (pr : Int → Int) (lf : Int → Int) (rg : Int → Int) (nx : Int → Int) (wt : Int) (fl : Int) (fp : Int) (x1 : Int) (x2 : Int) (x3 : Int) (x4 : Int) (x5 : Int) (Q : (Int → Int) → (Int → Int) → (Int → Int) → (Int) → Prop) (hret : ph_RV X b_F_reachFrom 6 (S := (Int → Int) × (Int → Int) × (Int → Int) × (Int)) (fun u => [(a_F, .inr (0, [.ref a_pr, .ref a_lf, .ref a_rg, .ref a_nx, .ref a_fd, .int (ph_J (u.2.2.2)), .int (ph_J fl), .int (ph_J fp)])), (a_pr, .inl ((ph_cI X), 144, .inl (ph_f pr))), (a_lf, .inl ((ph_cI X), 144, .inl (ph_f (u.1)))), (a_rg, .inl ((ph_cI X), 10, .inl (ph_f (u.2.1)))), (a_nx, .inl ((ph_cI X), 144, .inl (ph_f (u.2.2.1))))]) (fun u => Q (u.1) (u.2.1) (u.2.2.1) (u.2.2.2))) (Kh : Int → (Int → Int) → (Int → Int) → (Int → Int) → (Int) → Prop) (hKh : ∀ (x4' : Int) (lf' : Int → Int) (rg' : Int → Int) (nx' : Int → Int) (wt' : Int) , Kh x4' lf' rg' nx' wt' → ph_G X 0 0 [(a_F, .inr (0, [.ref a_pr, .ref a_lf, .ref a_rg, .ref a_nx, .ref a_fd, .int (ph_J wt'), .int (ph_J fl), .int (ph_J fp)])), (a_pr, .inl ((ph_cI X), 144, .inl (ph_f pr))), (a_lf, .inl ((ph_cI X), 144, .inl (ph_f lf'))), (a_rg, .inl ((ph_cI X), 10, .inl (ph_f rg'))), (a_nx, .inl ((ph_cI X), 144, .inl (ph_f nx')))] 6 [(0, .ref a_F), (1, .int (ph_J x1)), (2, .int (ph_J x2)), (3, .int (ph_J x3)), (4, .int (ph_J x4'))] 23 []) (h : F_reachFrom_j94 pr lf rg nx wt x1 x2 x3 x4 x5   Q Kh ) : ph_G X 0 0 [(a_F, .inr (0, [.ref a_pr, .ref a_lf, .ref a_rg, .ref a_nx, .ref a_fd, .int (ph_J wt), .int (ph_J fl), .int (ph_J fp)])), (a_pr, .inl ((ph_cI X), 144, .inl (ph_f pr))), (a_lf, .inl ((ph_cI X), 144, .inl (ph_f lf))), (a_rg, .inl ((ph_cI X), 10, .inl (ph_f rg))), (a_nx, .inl ((ph_cI X), 144, .inl (ph_f nx)))] 6 [(0, .ref a_F), (1, .int (ph_J x1)), (2, .int (ph_J x2)), (3, .int (ph_J x3)), (4, .int (ph_J x4)), (5, .int (ph_J x5))] 94 [] := by
  unfold F_reachFrom_j94 at h
  refine ph_aload_n C d_F_reachFrom_94 rfl 0 rfl ?_
  refine gf_F_lf C d_F_reachFrom_95 0 rfl rfl ?_
  refine ph_iload C d_F_reachFrom_98 5 rfl ?_
  refine ph_iload_n C d_F_reachFrom_100 rfl 3 rfl ?_
  refine ph_iast C (ws2 := fun g2 => [(a_F, .inr (0, [.ref a_pr, .ref a_lf, .ref a_rg, .ref a_nx, .ref a_fd, .int (ph_J wt), .int (ph_J fl), .int (ph_J fp)])), (a_pr, .inl ((ph_cI X), 144, .inl (ph_f pr))), (a_lf, .inl ((ph_cI X), 144, .inl (ph_f g2))), (a_rg, .inl ((ph_cI X), 10, .inl (ph_f rg))), (a_nx, .inl ((ph_cI X), 144, .inl (ph_f nx)))]) d_F_reachFrom_101 2 rfl (fun _ => rfl) rfl (Nat.le_of_ble_eq_true rfl) h (fun lf_101 e_lf_101 h => ?_)
  show ph_G X 0 0 [(a_F, .inr (0, [.ref a_pr, .ref a_lf, .ref a_rg, .ref a_nx, .ref a_fd, .int (ph_J wt), .int (ph_J fl), .int (ph_J fp)])), (a_pr, .inl ((ph_cI X), 144, .inl (ph_f pr))), (a_lf, .inl ((ph_cI X), 144, .inl (ph_f lf_101))), (a_rg, .inl ((ph_cI X), 10, .inl (ph_f rg))), (a_nx, .inl ((ph_cI X), 144, .inl (ph_f nx)))] 6 [(0, .ref a_F), (1, .int (ph_J x1)), (2, .int (ph_J x2)), (3, .int (ph_J x3)), (4, .int (ph_J x4)), (5, .int (ph_J x5))] 102 []
  refine ph_iinc C 4 d_F_reachFrom_102 rfl (by decide) [1, 2, 3, 4, 0, 5] (lvp := fun y => [(0, .ref a_F), (1, .int (ph_J x1)), (2, .int (ph_J x2)), (3, .int (ph_J x3)), (4, .int (ph_J y)), (5, .int (ph_J x5))]) (fun _ => rfl) h (fun x4_102 e_x4_102 h => ?_)
  show ph_G X 0 0 [(a_F, .inr (0, [.ref a_pr, .ref a_lf, .ref a_rg, .ref a_nx, .ref a_fd, .int (ph_J wt), .int (ph_J fl), .int (ph_J fp)])), (a_pr, .inl ((ph_cI X), 144, .inl (ph_f pr))), (a_lf, .inl ((ph_cI X), 144, .inl (ph_f lf_101))), (a_rg, .inl ((ph_cI X), 10, .inl (ph_f rg))), (a_nx, .inl ((ph_cI X), 144, .inl (ph_f nx)))] 6 [(0, .ref a_F), (1, .int (ph_J x1)), (2, .int (ph_J x2)), (3, .int (ph_J x3)), (4, .int (ph_J x4_102)), (5, .int (ph_J x5))] 105 []
  refine ph_goto C (tgt := 23) d_F_reachFrom_105 (by decide) ?_
  exact ph_sub [0, 1, 2, 3, 4] rfl (hKh _ _ _ _ _ h)
set_option maxRecDepth 20000 in
theorem w_F_reachFrom_l23 {X : ph_X} (C : ph_C X "PipeHouse$Floor" b_F_reachFrom 6 ({ frames := 1, cells := 0, slots := 0, locals := 23 } : Room)) (a_F a_pr a_lf a_rg a_nx a_fd : Nat) (pr : Int → Int) (fl : Int) (fp : Int) (x1 : Int) (x2 : Int) (x3 : Int) (Q : (Int → Int) → (Int → Int) → (Int → Int) → (Int) → Prop) (hret : ph_RV X b_F_reachFrom 6 (S := (Int → Int) × (Int → Int) × (Int → Int) × (Int)) (fun u => [(a_F, .inr (0, [.ref a_pr, .ref a_lf, .ref a_rg, .ref a_nx, .ref a_fd, .int (ph_J (u.2.2.2)), .int (ph_J fl), .int (ph_J fp)])), (a_pr, .inl ((ph_cI X), 144, .inl (ph_f pr))), (a_lf, .inl ((ph_cI X), 144, .inl (ph_f (u.1)))), (a_rg, .inl ((ph_cI X), 10, .inl (ph_f (u.2.1)))), (a_nx, .inl ((ph_cI X), 144, .inl (ph_f (u.2.2.1))))]) (fun u => Q (u.1) (u.2.1) (u.2.2.1) (u.2.2.2))) (Kh : Int → (Int → Int) → (Int → Int) → (Int → Int) → (Int) → Prop) (hKh : ∀ (x4' : Int) (lf' : Int → Int) (rg' : Int → Int) (nx' : Int → Int) (wt' : Int) , Kh x4' lf' rg' nx' wt' → ph_G X 0 0 [(a_F, .inr (0, [.ref a_pr, .ref a_lf, .ref a_rg, .ref a_nx, .ref a_fd, .int (ph_J wt'), .int (ph_J fl), .int (ph_J fp)])), (a_pr, .inl ((ph_cI X), 144, .inl (ph_f pr))), (a_lf, .inl ((ph_cI X), 144, .inl (ph_f lf'))), (a_rg, .inl ((ph_cI X), 10, .inl (ph_f rg'))), (a_nx, .inl ((ph_cI X), 144, .inl (ph_f nx')))] 6 [(0, .ref a_F), (1, .int (ph_J x1)), (2, .int (ph_J x2)), (3, .int (ph_J x3)), (4, .int (ph_J x4'))] 23 []) (x4 : Int) (lf : Int → Int) (rg : Int → Int) (nx : Int → Int) (wt : Int) (h : F_reachFrom_l23 pr x1 x2 x3   Q Kh x4 lf rg nx wt) : ph_G X 0 0 [(a_F, .inr (0, [.ref a_pr, .ref a_lf, .ref a_rg, .ref a_nx, .ref a_fd, .int (ph_J wt), .int (ph_J fl), .int (ph_J fp)])), (a_pr, .inl ((ph_cI X), 144, .inl (ph_f pr))), (a_lf, .inl ((ph_cI X), 144, .inl (ph_f lf))), (a_rg, .inl ((ph_cI X), 10, .inl (ph_f rg))), (a_nx, .inl ((ph_cI X), 144, .inl (ph_f nx)))] 6 [(0, .ref a_F), (1, .int (ph_J x1)), (2, .int (ph_J x2)), (3, .int (ph_J x3)), (4, .int (ph_J x4))] 23 [] := by
  unfold F_reachFrom_l23 at h
  refine ph_iload C d_F_reachFrom_23 4 rfl ?_
  refine ph_iconst C (n := 4) d_F_reachFrom_25 rfl ?_
  refine ph_icmp_ge C (tgt := 108) d_F_reachFrom_26 (by decide) h (fun h => ?_) (fun h => ?_)
  · exact hret _ _ (lf, rg, nx, wt) d_F_reachFrom_108 h
  · refine ph_iload_n C d_F_reachFrom_29 rfl 1 rfl ?_
    refine ph_iload C d_F_reachFrom_30 4 rfl ?_
    refine k_F_beside C  x1 x4 _ h q_260 ⟨by decide, Nat.le_of_ble_eq_true rfl⟩ [] [0, 1, 2, 3, 4] [0, 1, 2, 3, 4] (wr := [(a_F, .inr (0, [.ref a_pr, .ref a_lf, .ref a_rg, .ref a_nx, .ref a_fd, .int (ph_J wt), .int (ph_J fl), .int (ph_J fp)])), (a_pr, .inl ((ph_cI X), 144, .inl (ph_f pr))), (a_lf, .inl ((ph_cI X), 144, .inl (ph_f lf))), (a_rg, .inl ((ph_cI X), 10, .inl (ph_f rg))), (a_nx, .inl ((ph_cI X), 144, .inl (ph_f nx)))]) (ws2 := [(a_F, .inr (0, [.ref a_pr, .ref a_lf, .ref a_rg, .ref a_nx, .ref a_fd, .int (ph_J wt), .int (ph_J fl), .int (ph_J fp)])), (a_pr, .inl ((ph_cI X), 144, .inl (ph_f pr))), (a_lf, .inl ((ph_cI X), 144, .inl (ph_f lf))), (a_rg, .inl ((ph_cI X), 10, .inl (ph_f rg))), (a_nx, .inl ((ph_cI X), 144, .inl (ph_f nx)))]) rfl rfl (by decide) (by decide) (by decide) (by decide) rfl (Nat.le_of_ble_eq_true rfl) d_F_reachFrom_32 (fun r_32 h => ?_)
    show ph_G X 0 0 [(a_F, .inr (0, [.ref a_pr, .ref a_lf, .ref a_rg, .ref a_nx, .ref a_fd, .int (ph_J wt), .int (ph_J fl), .int (ph_J fp)])), (a_pr, .inl ((ph_cI X), 144, .inl (ph_f pr))), (a_lf, .inl ((ph_cI X), 144, .inl (ph_f lf))), (a_rg, .inl ((ph_cI X), 10, .inl (ph_f rg))), (a_nx, .inl ((ph_cI X), 144, .inl (ph_f nx)))] 6 [(0, .ref a_F), (1, .int (ph_J x1)), (2, .int (ph_J x2)), (3, .int (ph_J x3)), (4, .int (ph_J x4))] 35 [.int (ph_J r_32)]
    refine ph_istore C (lv' := [(0, .ref a_F), (1, .int (ph_J x1)), (2, .int (ph_J x2)), (3, .int (ph_J x3)), (4, .int (ph_J x4)), (5, .int (ph_J r_32))]) d_F_reachFrom_35 (by decide) [1, 2, 3, 4, 5, 0] rfl ?_
    refine ph_iload C d_F_reachFrom_37 5 rfl ?_
    refine ph_iconst C (n := (-1)) d_F_reachFrom_39 rfl ?_
    refine ph_icmp_eq C (tgt := 102) d_F_reachFrom_40 (by decide) h (fun h => ?_) (fun h => ?_)
    · refine ph_iinc C 4 d_F_reachFrom_102 rfl (by decide) [1, 2, 3, 4, 0, 5] (lvp := fun y => [(0, .ref a_F), (1, .int (ph_J x1)), (2, .int (ph_J x2)), (3, .int (ph_J x3)), (4, .int (ph_J y)), (5, .int (ph_J r_32))]) (fun _ => rfl) h (fun x4_102 e_x4_102 h => ?_)
      show ph_G X 0 0 [(a_F, .inr (0, [.ref a_pr, .ref a_lf, .ref a_rg, .ref a_nx, .ref a_fd, .int (ph_J wt), .int (ph_J fl), .int (ph_J fp)])), (a_pr, .inl ((ph_cI X), 144, .inl (ph_f pr))), (a_lf, .inl ((ph_cI X), 144, .inl (ph_f lf))), (a_rg, .inl ((ph_cI X), 10, .inl (ph_f rg))), (a_nx, .inl ((ph_cI X), 144, .inl (ph_f nx)))] 6 [(0, .ref a_F), (1, .int (ph_J x1)), (2, .int (ph_J x2)), (3, .int (ph_J x3)), (4, .int (ph_J x4_102)), (5, .int (ph_J r_32))] 105 []
      refine ph_goto C (tgt := 23) d_F_reachFrom_105 (by decide) ?_
      exact ph_sub [0, 1, 2, 3, 4] rfl (hKh _ _ _ _ _ h)
    · refine ph_aload_n C d_F_reachFrom_43 rfl 0 rfl ?_
      refine gf_F_lf C d_F_reachFrom_44 0 rfl rfl ?_
      refine ph_iload C d_F_reachFrom_47 5 rfl ?_
      refine ph_iald C d_F_reachFrom_49 2 rfl rfl (Nat.le_of_ble_eq_true rfl) h (fun h => ?_)
      refine ph_iload_n C d_F_reachFrom_50 rfl 3 rfl ?_
      refine ph_icmp_gt C (tgt := 57) d_F_reachFrom_51 (by decide) h (fun h => ?_) (fun h => ?_)
      · refine ph_aload_n C d_F_reachFrom_57 rfl 0 rfl ?_
        refine gf_F_lf C d_F_reachFrom_58 0 rfl rfl ?_
        refine ph_iload C d_F_reachFrom_61 5 rfl ?_
        refine ph_iald C d_F_reachFrom_63 2 rfl rfl (Nat.le_of_ble_eq_true rfl) h (fun h => ?_)
        refine ph_ldc C (x := 1073741824) q_247 (by decide) d_F_reachFrom_64 ?_
        refine ph_icmp_ne C (tgt := 94) d_F_reachFrom_66 (by decide) h (fun h => ?_) (fun h => ?_)
        · exact ph_sub [0, 1, 2, 3, 4, 5] rfl (w_F_reachFrom_j94 C a_F a_pr a_lf a_rg a_nx a_fd pr lf rg nx wt fl fp x1 x2 x3 x4 r_32  Q hret  Kh hKh h)
        · refine ph_aload_n C d_F_reachFrom_69 rfl 0 rfl ?_
          refine gf_F_pr C d_F_reachFrom_70 0 rfl rfl ?_
          refine ph_iload C d_F_reachFrom_73 5 rfl ?_
          refine ph_iald C d_F_reachFrom_75 1 rfl rfl (Nat.le_of_ble_eq_true rfl) h (fun h => ?_)
          refine ph_if_le C (tgt := 94) d_F_reachFrom_76 (by decide) h (fun h => ?_) (fun h => ?_)
          · exact ph_sub [0, 1, 2, 3, 4, 5] rfl (w_F_reachFrom_j94 C a_F a_pr a_lf a_rg a_nx a_fd pr lf rg nx wt fl fp x1 x2 x3 x4 r_32  Q hret  Kh hKh h)
          · refine ph_aload_n C d_F_reachFrom_79 rfl 0 rfl ?_
            refine ph_iload C d_F_reachFrom_80 5 rfl ?_
            refine ph_iload_n C d_F_reachFrom_82 rfl 2 rfl ?_
            refine ph_aload_n C d_F_reachFrom_83 rfl 0 rfl ?_
            refine gf_F_pr C d_F_reachFrom_84 0 rfl rfl ?_
            refine ph_iload C d_F_reachFrom_87 5 rfl ?_
            refine ph_iald C d_F_reachFrom_89 1 rfl rfl (Nat.le_of_ble_eq_true rfl) h (fun h => ?_)
            refine ph_iadd C d_F_reachFrom_90 ?_
            refine k_F_waitFor C a_F a_pr a_lf a_rg a_nx a_fd rg nx wt fl fp r_32 (x2 + (pr r_32)) _ h q_248 ⟨by decide, Nat.le_of_ble_eq_true rfl⟩ [0, 3, 4] [1, 2] [2, 0, 1, 3, 4] (wr := [(a_pr, .inl ((ph_cI X), 144, .inl (ph_f pr))), (a_lf, .inl ((ph_cI X), 144, .inl (ph_f lf)))]) (ws2 := fun rg_91 nx_91 wt_91 => [(a_F, .inr (0, [.ref a_pr, .ref a_lf, .ref a_rg, .ref a_nx, .ref a_fd, .int (ph_J wt_91), .int (ph_J fl), .int (ph_J fp)])), (a_pr, .inl ((ph_cI X), 144, .inl (ph_f pr))), (a_lf, .inl ((ph_cI X), 144, .inl (ph_f lf))), (a_rg, .inl ((ph_cI X), 10, .inl (ph_f rg_91))), (a_nx, .inl ((ph_cI X), 144, .inl (ph_f nx_91)))]) rfl rfl (by decide) (by decide) (by decide) (by decide) (fun _ _ _ => rfl) (Nat.le_of_ble_eq_true rfl) d_F_reachFrom_91 (fun rg_91 nx_91 wt_91 h => ?_)
            show ph_G X 0 0 [(a_F, .inr (0, [.ref a_pr, .ref a_lf, .ref a_rg, .ref a_nx, .ref a_fd, .int (ph_J wt_91), .int (ph_J fl), .int (ph_J fp)])), (a_pr, .inl ((ph_cI X), 144, .inl (ph_f pr))), (a_lf, .inl ((ph_cI X), 144, .inl (ph_f lf))), (a_rg, .inl ((ph_cI X), 10, .inl (ph_f rg_91))), (a_nx, .inl ((ph_cI X), 144, .inl (ph_f nx_91)))] 6 [(0, .ref a_F), (1, .int (ph_J x1)), (2, .int (ph_J x2)), (3, .int (ph_J x3)), (4, .int (ph_J x4)), (5, .int (ph_J r_32))] 94 []
            exact ph_sub [0, 1, 2, 3, 4, 5] rfl (w_F_reachFrom_j94 C a_F a_pr a_lf a_rg a_nx a_fd pr lf rg_91 nx_91 wt_91 fl fp x1 x2 x3 x4 r_32  Q hret  Kh hKh h)
      · refine ph_goto C (tgt := 102) d_F_reachFrom_54 (by decide) ?_
        refine ph_iinc C 4 d_F_reachFrom_102 rfl (by decide) [1, 2, 3, 4, 0, 5] (lvp := fun y => [(0, .ref a_F), (1, .int (ph_J x1)), (2, .int (ph_J x2)), (3, .int (ph_J x3)), (4, .int (ph_J y)), (5, .int (ph_J r_32))]) (fun _ => rfl) h (fun x4_102 e_x4_102 h => ?_)
        show ph_G X 0 0 [(a_F, .inr (0, [.ref a_pr, .ref a_lf, .ref a_rg, .ref a_nx, .ref a_fd, .int (ph_J wt), .int (ph_J fl), .int (ph_J fp)])), (a_pr, .inl ((ph_cI X), 144, .inl (ph_f pr))), (a_lf, .inl ((ph_cI X), 144, .inl (ph_f lf))), (a_rg, .inl ((ph_cI X), 10, .inl (ph_f rg))), (a_nx, .inl ((ph_cI X), 144, .inl (ph_f nx)))] 6 [(0, .ref a_F), (1, .int (ph_J x1)), (2, .int (ph_J x2)), (3, .int (ph_J x3)), (4, .int (ph_J x4_102)), (5, .int (ph_J r_32))] 105 []
        refine ph_goto C (tgt := 23) d_F_reachFrom_105 (by decide) ?_
        exact ph_sub [0, 1, 2, 3, 4] rfl (hKh _ _ _ _ _ h)
set_option maxRecDepth 20000 in
theorem v_F_reachFrom_l23 {X : ph_X} (C : ph_C X "PipeHouse$Floor" b_F_reachFrom 6 ({ frames := 1, cells := 0, slots := 0, locals := 23 } : Room)) (a_F a_pr a_lf a_rg a_nx a_fd : Nat) (pr : Int → Int) (fl : Int) (fp : Int) (x1 : Int) (x2 : Int) (x3 : Int) (Q : (Int → Int) → (Int → Int) → (Int → Int) → (Int) → Prop) (hret : ph_RV X b_F_reachFrom 6 (S := (Int → Int) × (Int → Int) × (Int → Int) × (Int)) (fun u => [(a_F, .inr (0, [.ref a_pr, .ref a_lf, .ref a_rg, .ref a_nx, .ref a_fd, .int (ph_J (u.2.2.2)), .int (ph_J fl), .int (ph_J fp)])), (a_pr, .inl ((ph_cI X), 144, .inl (ph_f pr))), (a_lf, .inl ((ph_cI X), 144, .inl (ph_f (u.1)))), (a_rg, .inl ((ph_cI X), 10, .inl (ph_f (u.2.1)))), (a_nx, .inl ((ph_cI X), 144, .inl (ph_f (u.2.2.1))))]) (fun u => Q (u.1) (u.2.1) (u.2.2.1) (u.2.2.2))) : ∀ (kk : Nat) (x4 : Int) (lf : Int → Int) (rg : Int → Int) (nx : Int → Int) (wt : Int) , ph_it (fun _ _ _ _ _ => False) (F_reachFrom_l23 pr x1 x2 x3  Q) kk x4 lf rg nx wt → ph_G X 0 0 [(a_F, .inr (0, [.ref a_pr, .ref a_lf, .ref a_rg, .ref a_nx, .ref a_fd, .int (ph_J wt), .int (ph_J fl), .int (ph_J fp)])), (a_pr, .inl ((ph_cI X), 144, .inl (ph_f pr))), (a_lf, .inl ((ph_cI X), 144, .inl (ph_f lf))), (a_rg, .inl ((ph_cI X), 10, .inl (ph_f rg))), (a_nx, .inl ((ph_cI X), 144, .inl (ph_f nx)))] 6 [(0, .ref a_F), (1, .int (ph_J x1)), (2, .int (ph_J x2)), (3, .int (ph_J x3)), (4, .int (ph_J x4))] 23 [] := by
  intro kk
  induction kk with
  | zero => intro x4 lf rg nx wt h; exact h.elim
  | succ kk ih => intro x4 lf rg nx wt h; exact w_F_reachFrom_l23 C a_F a_pr a_lf a_rg a_nx a_fd pr fl fp x1 x2 x3  Q hret  _ ih x4 lf rg nx wt h
set_option maxRecDepth 20000 in
theorem w_F_reachFrom {X : ph_X} (C : ph_C X "PipeHouse$Floor" b_F_reachFrom 6 ({ frames := 1, cells := 0, slots := 0, locals := 23 } : Room)) (a_F a_pr a_lf a_rg a_nx a_fd : Nat) (pr : Int → Int) (lf : Int → Int) (rg : Int → Int) (nx : Int → Int) (wt : Int) (fl : Int) (fp : Int) (x1 : Int) (x2 : Int) (Q : (Int → Int) → (Int → Int) → (Int → Int) → (Int) → Prop) (hret : ph_RV X b_F_reachFrom 6 (S := (Int → Int) × (Int → Int) × (Int → Int) × (Int)) (fun u => [(a_F, .inr (0, [.ref a_pr, .ref a_lf, .ref a_rg, .ref a_nx, .ref a_fd, .int (ph_J (u.2.2.2)), .int (ph_J fl), .int (ph_J fp)])), (a_pr, .inl ((ph_cI X), 144, .inl (ph_f pr))), (a_lf, .inl ((ph_cI X), 144, .inl (ph_f (u.1)))), (a_rg, .inl ((ph_cI X), 10, .inl (ph_f (u.2.1)))), (a_nx, .inl ((ph_cI X), 144, .inl (ph_f (u.2.2.1))))]) (fun u => Q (u.1) (u.2.1) (u.2.2.1) (u.2.2.2))) (h : F_reachFrom_wp pr lf rg nx wt x1 x2 Q) : ph_G X 0 0 [(a_F, .inr (0, [.ref a_pr, .ref a_lf, .ref a_rg, .ref a_nx, .ref a_fd, .int (ph_J wt), .int (ph_J fl), .int (ph_J fp)])), (a_pr, .inl ((ph_cI X), 144, .inl (ph_f pr))), (a_lf, .inl ((ph_cI X), 144, .inl (ph_f lf))), (a_rg, .inl ((ph_cI X), 10, .inl (ph_f rg))), (a_nx, .inl ((ph_cI X), 144, .inl (ph_f nx)))] 6 [(0, .ref a_F), (1, .int (ph_J x1)), (2, .int (ph_J x2))] 0 [] := by
  unfold F_reachFrom_wp at h
  refine ph_aload_n C d_F_reachFrom_0 rfl 0 rfl ?_
  refine gf_F_lf C d_F_reachFrom_1 0 rfl rfl ?_
  refine ph_iload_n C d_F_reachFrom_4 rfl 1 rfl ?_
  refine ph_iald C d_F_reachFrom_5 2 rfl rfl (Nat.le_of_ble_eq_true rfl) h (fun h => ?_)
  refine ph_aload_n C d_F_reachFrom_6 rfl 0 rfl ?_
  refine gf_F_pr C d_F_reachFrom_7 0 rfl rfl ?_
  refine ph_iload_n C d_F_reachFrom_10 rfl 1 rfl ?_
  refine ph_iald C d_F_reachFrom_11 1 rfl rfl (Nat.le_of_ble_eq_true rfl) h (fun h => ?_)
  refine ph_sipush C (n := 256) d_F_reachFrom_12 (by decide) ?_
  refine ph_imul C d_F_reachFrom_15 ?_
  refine ph_iadd C d_F_reachFrom_16 ?_
  refine ph_iconst C (n := 1) d_F_reachFrom_17 rfl ?_
  refine ph_iadd C d_F_reachFrom_18 ?_
  refine ph_top C h (fun x3_19 e_x3_19 h => ?_)
  refine ph_istore_n C (lv' := [(0, .ref a_F), (1, .int (ph_J x1)), (2, .int (ph_J x2)), (3, .int (ph_J x3_19))]) d_F_reachFrom_19 rfl (by decide) [1, 2, 3, 0] rfl ?_
  refine ph_iconst C (n := 0) d_F_reachFrom_20 rfl ?_
  refine ph_istore C (lv' := [(0, .ref a_F), (1, .int (ph_J x1)), (2, .int (ph_J x2)), (3, .int (ph_J x3_19)), (4, .int (ph_J 0))]) d_F_reachFrom_21 (by decide) [1, 2, 3, 4, 0] rfl ?_
  obtain ⟨kk, h⟩ := h
  refine ph_sub [0, 1, 2, 3, 4] rfl (v_F_reachFrom_l23 C a_F a_pr a_lf a_rg a_nx a_fd pr fl fp x1 x2 x3_19  Q hret  kk 0 lf rg nx wt h)
set_option maxRecDepth 20000 in
theorem c_F_reachFrom (l : Launch) (D : va_G) (cI cZ : ClassId) (a_F a_pr a_lf a_rg a_nx a_fd : Nat) (pr : Int → Int) (lf : Int → Int) (rg : Int → Int) (nx : Int → Int) (wt : Int) (fl : Int) (fp : Int) (x1 : Int) (x2 : Int) (Q : (Int → Int) → (Int → Int) → (Int → Int) → (Int) → Prop) (h : F_reachFrom_wp pr lf rg nx wt x1 x2 Q) : ph_CoV l D cI cZ y_F_reachFrom b_F_reachFrom 6 ({ frames := 1, cells := 0, slots := 0, locals := 23 } : Room) [.ref a_F, .int (ph_J x1), .int (ph_J x2)] [(a_F, .inr (0, [.ref a_pr, .ref a_lf, .ref a_rg, .ref a_nx, .ref a_fd, .int (ph_J wt), .int (ph_J fl), .int (ph_J fp)])), (a_pr, .inl (cI, 144, .inl (ph_f pr))), (a_lf, .inl (cI, 144, .inl (ph_f lf))), (a_rg, .inl (cI, 10, .inl (ph_f rg))), (a_nx, .inl (cI, 144, .inl (ph_f nx)))] (S := (Int → Int) × (Int → Int) × (Int → Int) × (Int)) (fun u => [(a_F, .inr (0, [.ref a_pr, .ref a_lf, .ref a_rg, .ref a_nx, .ref a_fd, .int (ph_J (u.2.2.2)), .int (ph_J fl), .int (ph_J fp)])), (a_pr, .inl (cI, 144, .inl (ph_f pr))), (a_lf, .inl (cI, 144, .inl (ph_f (u.1)))), (a_rg, .inl (cI, 10, .inl (ph_f (u.2.1)))), (a_nx, .inl (cI, 144, .inl (ph_f (u.2.2.1))))]) (fun u => Q (u.1) (u.2.1) (u.2.2.1) (u.2.2.2)) :=
  ph_metV (by decide) (Nat.le_of_ble_eq_true rfl) (fun p e s m args below meth c Q0 A C hret => w_F_reachFrom (X := (p, l, e, ({ frames := 1, cells := 0, slots := 0, locals := 23 } : Room), s, m, args, below, meth, c, Q0, D, cI, cZ, A)) C a_F a_pr a_lf a_rg a_nx a_fd pr lf rg nx wt fl fp x1 x2 Q hret h)
set_option maxRecDepth 20000 in
theorem k_F_reachFrom {X : ph_X} {own : String} {cc : ByteArray} {nL : Nat} {rm : Room} {ws : va_W} {lv : List (Nat × Value)} {pc : Nat} {st : List Value} {kc ks : Nat} {idx : Nat} (C : ph_C X own cc nL rm) (a_F a_pr a_lf a_rg a_nx a_fd : Nat) (pr : Int → Int) (lf : Int → Int) (rg : Int → Int) (nx : Int → Int) (wt : Int) (fl : Int) (fp : Int) (x1 : Int) (x2 : Int) (Q : (Int → Int) → (Int → Int) → (Int → Int) → (Int) → Prop) (h : F_reachFrom_wp pr lf rg nx wt x1 x2 Q) (hlink : Cond.methodLink own idx y_F_reachFrom ∈ ph_T) (hR : (kc ≤ rm.cells ∧ ks ≤ rm.slots ∧ 1 + 1 ≤ rm.frames) ∧ 8 + (6 + 11) + 23 ≤ rm.locals) (isC isR perm : List Nat) {wr : va_W} {ws2 : (Int → Int) → (Int → Int) → (Int → Int) → (Int) → va_W} (hC : isC.map (fun i => ws[i]?) = ([(a_F, .inr (0, [.ref a_pr, .ref a_lf, .ref a_rg, .ref a_nx, .ref a_fd, .int (ph_J wt), .int (ph_J fl), .int (ph_J fp)])), (a_pr, .inl ((ph_cI X), 144, .inl (ph_f pr))), (a_lf, .inl ((ph_cI X), 144, .inl (ph_f lf))), (a_rg, .inl ((ph_cI X), 10, .inl (ph_f rg))), (a_nx, .inl ((ph_cI X), 144, .inl (ph_f nx)))] : va_W).map some) (hRs : isR.map (fun i => ws[i]?) = wr.map some) (hnc : va_nd isC = true) (hnr : va_nd isR = true) (hdis : ∀ i ∈ isR, i ∉ isC) (hnp : va_nd perm = true) (hp : ∀ (lf' : Int → Int) (rg' : Int → Int) (nx' : Int → Int) (wt' : Int) , perm.map (fun i => (wr ++ [(a_F, .inr (0, [.ref a_pr, .ref a_lf, .ref a_rg, .ref a_nx, .ref a_fd, .int (ph_J wt'), .int (ph_J fl), .int (ph_J fp)])), (a_pr, .inl ((ph_cI X), 144, .inl (ph_f pr))), (a_lf, .inl ((ph_cI X), 144, .inl (ph_f lf'))), (a_rg, .inl ((ph_cI X), 10, .inl (ph_f rg'))), (a_nx, .inl ((ph_cI X), 144, .inl (ph_f nx')))])[i]?) = (ws2 lf' rg' nx' wt').map some) (hroom : (st.map fun v => v.category).sum ≤ 8) (hdg : decode cc pc = .ok (.invokevirtual idx, 3)) (kk : ∀ (lf' : Int → Int) (rg' : Int → Int) (nx' : Int → Int) (wt' : Int) , Q lf' rg' nx' wt' → ph_G X kc ks (ws2 lf' rg' nx' wt') nL lv (pc + 3) st) : ph_G X kc ks ws nL lv pc (.int (ph_J x2) :: .int (ph_J x1) :: .ref a_F :: st) :=
  ph_callVv C (n := 2) (c_F_reachFrom (ph_l X) (ph_D X) (ph_cI X) (ph_cZ X) a_F a_pr a_lf a_rg a_nx a_fd pr lf rg nx wt fl fp x1 x2 Q h) hlink q_258 q_3 q_38 q_259 ⟨by decide, by decide, by decide +kernel⟩ ⟨⟨rfl, rfl⟩, hR.1.2.2, hR.2⟩ ⟨hR.1.1, hR.1.2.1⟩ 0 rfl rfl rfl isC isR perm (ws2 := fun u => ws2 (u.1) (u.2.1) (u.2.2.1) (u.2.2.2)) hC hRs hnc hnr hdis hnp (fun u => hp (u.1) (u.2.1) (u.2.2.1) (u.2.2.2)) rfl hroom hdg (fun u h2 => kk  (u.1) (u.2.1) (u.2.2.1) (u.2.2.2) h2)
set_option maxRecDepth 20000 in
theorem w_F_workOff_l22 {X : ph_X} (C : ph_C X "PipeHouse$Floor" b_F_workOff 5 ({ frames := 2, cells := 0, slots := 0, locals := 48 } : Room)) (a_F a_pr a_lf a_rg a_nx a_fd : Nat) (pr : Int → Int) (fl : Int) (fp : Int) (x1 : Int) (Q : (Int → Int) → (Int → Int) → (Int → Int) → (Int) → Prop) (hret : ph_RV X b_F_workOff 5 (S := (Int → Int) × (Int → Int) × (Int → Int) × (Int)) (fun u => [(a_F, .inr (0, [.ref a_pr, .ref a_lf, .ref a_rg, .ref a_nx, .ref a_fd, .int (ph_J (u.2.2.2)), .int (ph_J fl), .int (ph_J fp)])), (a_pr, .inl ((ph_cI X), 144, .inl (ph_f pr))), (a_lf, .inl ((ph_cI X), 144, .inl (ph_f (u.1)))), (a_rg, .inl ((ph_cI X), 10, .inl (ph_f (u.2.1)))), (a_nx, .inl ((ph_cI X), 144, .inl (ph_f (u.2.2.1))))]) (fun u => Q (u.1) (u.2.1) (u.2.2.1) (u.2.2.2))) (Kh : Int → Int → (Int → Int) → (Int → Int) → (Int → Int) → (Int) → Prop) (hKh : ∀ (x3' : Int) (x4' : Int) (lf' : Int → Int) (rg' : Int → Int) (nx' : Int → Int) (wt' : Int) , Kh x3' x4' lf' rg' nx' wt' → ph_G X 0 0 [(a_F, .inr (0, [.ref a_pr, .ref a_lf, .ref a_rg, .ref a_nx, .ref a_fd, .int (ph_J wt'), .int (ph_J fl), .int (ph_J fp)])), (a_pr, .inl ((ph_cI X), 144, .inl (ph_f pr))), (a_lf, .inl ((ph_cI X), 144, .inl (ph_f lf'))), (a_rg, .inl ((ph_cI X), 10, .inl (ph_f rg'))), (a_nx, .inl ((ph_cI X), 144, .inl (ph_f nx')))] 5 [(0, .ref a_F), (1, .int (ph_J x1)), (3, .int (ph_J x3')), (4, .int (ph_J x4'))] 22 []) (x3 : Int) (x4 : Int) (lf : Int → Int) (rg : Int → Int) (nx : Int → Int) (wt : Int) (h : F_workOff_l22 pr x1   Q Kh x3 x4 lf rg nx wt) : ph_G X 0 0 [(a_F, .inr (0, [.ref a_pr, .ref a_lf, .ref a_rg, .ref a_nx, .ref a_fd, .int (ph_J wt), .int (ph_J fl), .int (ph_J fp)])), (a_pr, .inl ((ph_cI X), 144, .inl (ph_f pr))), (a_lf, .inl ((ph_cI X), 144, .inl (ph_f lf))), (a_rg, .inl ((ph_cI X), 10, .inl (ph_f rg))), (a_nx, .inl ((ph_cI X), 144, .inl (ph_f nx)))] 5 [(0, .ref a_F), (1, .int (ph_J x1)), (3, .int (ph_J x3)), (4, .int (ph_J x4))] 22 [] := by
  unfold F_workOff_l22 at h
  refine ph_iload C d_F_workOff_22 3 rfl ?_
  refine ph_sipush C (n := 144) d_F_workOff_24 (by decide) ?_
  refine ph_icmp_ge C (tgt := 64) d_F_workOff_27 (by decide) h (fun h => ?_) (fun h => ?_)
  · exact hret _ _ (lf, rg, nx, wt) d_F_workOff_64 h
  · refine ph_iload_n C d_F_workOff_30 rfl 2 rfl ?_
    refine ph_iconst C (n := (-1)) d_F_workOff_31 rfl ?_
    refine ph_icmp_eq C (tgt := 64) d_F_workOff_32 (by decide) h (fun h => ?_) (fun h => ?_)
    · exact hret _ _ (lf, rg, nx, wt) d_F_workOff_64 h
    · refine ph_aload_n C d_F_workOff_35 rfl 0 rfl ?_
      refine ph_dup C d_F_workOff_36 rfl ?_
      refine gf_F_wt C d_F_workOff_37 0 rfl rfl ?_
      refine ph_iconst C (n := 1) d_F_workOff_40 rfl ?_
      refine ph_isub C d_F_workOff_41 ?_
      refine ph_top C h (fun wt_42 e_wt_42 h => ?_)
      refine pf_F_wt C d_F_workOff_42 0 rfl (Nat.le_of_ble_eq_true rfl) (ws2 := [(a_F, .inr (0, [.ref a_pr, .ref a_lf, .ref a_rg, .ref a_nx, .ref a_fd, .int (ph_J wt_42), .int (ph_J fl), .int (ph_J fp)])), (a_pr, .inl ((ph_cI X), 144, .inl (ph_f pr))), (a_lf, .inl ((ph_cI X), 144, .inl (ph_f lf))), (a_rg, .inl ((ph_cI X), 10, .inl (ph_f rg))), (a_nx, .inl ((ph_cI X), 144, .inl (ph_f nx)))]) rfl ?_
      refine ph_aload_n C d_F_workOff_45 rfl 0 rfl ?_
      refine ph_iload_n C d_F_workOff_46 rfl 2 rfl ?_
      refine ph_iload_n C d_F_workOff_47 rfl 1 rfl ?_
      refine k_F_reachFrom C a_F a_pr a_lf a_rg a_nx a_fd pr lf rg nx wt_42 fl fp x3 x1 _ h q_256 ⟨by decide, Nat.le_of_ble_eq_true rfl⟩ [0, 1, 2, 3, 4] [] [0, 1, 2, 3, 4] (wr := []) (ws2 := fun lf_48 rg_48 nx_48 wt_48 => [(a_F, .inr (0, [.ref a_pr, .ref a_lf, .ref a_rg, .ref a_nx, .ref a_fd, .int (ph_J wt_48), .int (ph_J fl), .int (ph_J fp)])), (a_pr, .inl ((ph_cI X), 144, .inl (ph_f pr))), (a_lf, .inl ((ph_cI X), 144, .inl (ph_f lf_48))), (a_rg, .inl ((ph_cI X), 10, .inl (ph_f rg_48))), (a_nx, .inl ((ph_cI X), 144, .inl (ph_f nx_48)))]) rfl rfl (by decide) (by decide) (by decide) (by decide) (fun _ _ _ _ => rfl) (Nat.le_of_ble_eq_true rfl) d_F_workOff_48 (fun lf_48 rg_48 nx_48 wt_48 h => ?_)
      show ph_G X 0 0 [(a_F, .inr (0, [.ref a_pr, .ref a_lf, .ref a_rg, .ref a_nx, .ref a_fd, .int (ph_J wt_48), .int (ph_J fl), .int (ph_J fp)])), (a_pr, .inl ((ph_cI X), 144, .inl (ph_f pr))), (a_lf, .inl ((ph_cI X), 144, .inl (ph_f lf_48))), (a_rg, .inl ((ph_cI X), 10, .inl (ph_f rg_48))), (a_nx, .inl ((ph_cI X), 144, .inl (ph_f nx_48)))] 5 [(0, .ref a_F), (1, .int (ph_J x1)), (3, .int (ph_J x3)), (4, .int (ph_J x4))] 51 []
      refine ph_aload_n C d_F_workOff_51 rfl 0 rfl ?_
      refine gf_F_nx C d_F_workOff_52 0 rfl rfl ?_
      refine ph_iload_n C d_F_workOff_55 rfl 2 rfl ?_
      refine ph_iald C d_F_workOff_56 4 rfl rfl (Nat.le_of_ble_eq_true rfl) h (fun h => ?_)
      refine ph_top C h (fun x3_57 e_x3_57 h => ?_)
      refine ph_istore_n C (lv' := [(0, .ref a_F), (1, .int (ph_J x1)), (3, .int (ph_J x3_57)), (4, .int (ph_J x4))]) d_F_workOff_57 rfl (by decide) [1, 2, 0, 3] rfl ?_
      refine ph_iinc C 3 d_F_workOff_58 rfl (by decide) [1, 2, 3, 0] (lvp := fun y => [(0, .ref a_F), (1, .int (ph_J x1)), (3, .int (ph_J x3_57)), (4, .int (ph_J y))]) (fun _ => rfl) h (fun x4_58 e_x4_58 h => ?_)
      show ph_G X 0 0 [(a_F, .inr (0, [.ref a_pr, .ref a_lf, .ref a_rg, .ref a_nx, .ref a_fd, .int (ph_J wt_48), .int (ph_J fl), .int (ph_J fp)])), (a_pr, .inl ((ph_cI X), 144, .inl (ph_f pr))), (a_lf, .inl ((ph_cI X), 144, .inl (ph_f lf_48))), (a_rg, .inl ((ph_cI X), 10, .inl (ph_f rg_48))), (a_nx, .inl ((ph_cI X), 144, .inl (ph_f nx_48)))] 5 [(0, .ref a_F), (1, .int (ph_J x1)), (3, .int (ph_J x3_57)), (4, .int (ph_J x4_58))] 61 []
      refine ph_goto C (tgt := 22) d_F_workOff_61 (by decide) ?_
      exact ph_sub [0, 1, 2, 3] rfl (hKh _ _ _ _ _ _ h)
set_option maxRecDepth 20000 in
theorem v_F_workOff_l22 {X : ph_X} (C : ph_C X "PipeHouse$Floor" b_F_workOff 5 ({ frames := 2, cells := 0, slots := 0, locals := 48 } : Room)) (a_F a_pr a_lf a_rg a_nx a_fd : Nat) (pr : Int → Int) (fl : Int) (fp : Int) (x1 : Int) (Q : (Int → Int) → (Int → Int) → (Int → Int) → (Int) → Prop) (hret : ph_RV X b_F_workOff 5 (S := (Int → Int) × (Int → Int) × (Int → Int) × (Int)) (fun u => [(a_F, .inr (0, [.ref a_pr, .ref a_lf, .ref a_rg, .ref a_nx, .ref a_fd, .int (ph_J (u.2.2.2)), .int (ph_J fl), .int (ph_J fp)])), (a_pr, .inl ((ph_cI X), 144, .inl (ph_f pr))), (a_lf, .inl ((ph_cI X), 144, .inl (ph_f (u.1)))), (a_rg, .inl ((ph_cI X), 10, .inl (ph_f (u.2.1)))), (a_nx, .inl ((ph_cI X), 144, .inl (ph_f (u.2.2.1))))]) (fun u => Q (u.1) (u.2.1) (u.2.2.1) (u.2.2.2))) : ∀ (kk : Nat) (x3 : Int) (x4 : Int) (lf : Int → Int) (rg : Int → Int) (nx : Int → Int) (wt : Int) , ph_it (fun _ _ _ _ _ _ => False) (F_workOff_l22 pr x1  Q) kk x3 x4 lf rg nx wt → ph_G X 0 0 [(a_F, .inr (0, [.ref a_pr, .ref a_lf, .ref a_rg, .ref a_nx, .ref a_fd, .int (ph_J wt), .int (ph_J fl), .int (ph_J fp)])), (a_pr, .inl ((ph_cI X), 144, .inl (ph_f pr))), (a_lf, .inl ((ph_cI X), 144, .inl (ph_f lf))), (a_rg, .inl ((ph_cI X), 10, .inl (ph_f rg))), (a_nx, .inl ((ph_cI X), 144, .inl (ph_f nx)))] 5 [(0, .ref a_F), (1, .int (ph_J x1)), (3, .int (ph_J x3)), (4, .int (ph_J x4))] 22 [] := by
  intro kk
  induction kk with
  | zero => intro x3 x4 lf rg nx wt h; exact h.elim
  | succ kk ih => intro x3 x4 lf rg nx wt h; exact w_F_workOff_l22 C a_F a_pr a_lf a_rg a_nx a_fd pr fl fp x1  Q hret  _ ih x3 x4 lf rg nx wt h
set_option maxRecDepth 20000 in
theorem w_F_workOff {X : ph_X} (C : ph_C X "PipeHouse$Floor" b_F_workOff 5 ({ frames := 2, cells := 0, slots := 0, locals := 48 } : Room)) (a_F a_pr a_lf a_rg a_nx a_fd : Nat) (pr : Int → Int) (lf : Int → Int) (rg : Int → Int) (nx : Int → Int) (wt : Int) (fl : Int) (fp : Int) (x1 : Int) (Q : (Int → Int) → (Int → Int) → (Int → Int) → (Int) → Prop) (hret : ph_RV X b_F_workOff 5 (S := (Int → Int) × (Int → Int) × (Int → Int) × (Int)) (fun u => [(a_F, .inr (0, [.ref a_pr, .ref a_lf, .ref a_rg, .ref a_nx, .ref a_fd, .int (ph_J (u.2.2.2)), .int (ph_J fl), .int (ph_J fp)])), (a_pr, .inl ((ph_cI X), 144, .inl (ph_f pr))), (a_lf, .inl ((ph_cI X), 144, .inl (ph_f (u.1)))), (a_rg, .inl ((ph_cI X), 10, .inl (ph_f (u.2.1)))), (a_nx, .inl ((ph_cI X), 144, .inl (ph_f (u.2.2.1))))]) (fun u => Q (u.1) (u.2.1) (u.2.2.1) (u.2.2.2))) (h : F_workOff_wp pr lf rg nx wt x1 Q) : ph_G X 0 0 [(a_F, .inr (0, [.ref a_pr, .ref a_lf, .ref a_rg, .ref a_nx, .ref a_fd, .int (ph_J wt), .int (ph_J fl), .int (ph_J fp)])), (a_pr, .inl ((ph_cI X), 144, .inl (ph_f pr))), (a_lf, .inl ((ph_cI X), 144, .inl (ph_f lf))), (a_rg, .inl ((ph_cI X), 10, .inl (ph_f rg))), (a_nx, .inl ((ph_cI X), 144, .inl (ph_f nx)))] 5 [(0, .ref a_F), (1, .int (ph_J x1))] 0 [] := by
  unfold F_workOff_wp at h
  refine ph_iload_n C d_F_workOff_0 rfl 1 rfl ?_
  refine ph_bipush C (n := 10) d_F_workOff_1 (by decide) ?_
  refine ph_irem C d_F_workOff_3 h (fun h => ?_)
  refine ph_top C h (fun x2_4 e_x2_4 h => ?_)
  refine ph_istore_n C (lv' := [(0, .ref a_F), (1, .int (ph_J x1)), (2, .int (ph_J x2_4))]) d_F_workOff_4 rfl (by decide) [1, 2, 0] rfl ?_
  refine ph_aload_n C d_F_workOff_5 rfl 0 rfl ?_
  refine gf_F_rg C d_F_workOff_6 0 rfl rfl ?_
  refine ph_iload_n C d_F_workOff_9 rfl 2 rfl ?_
  refine ph_iald C d_F_workOff_10 3 rfl rfl (Nat.le_of_ble_eq_true rfl) h (fun h => ?_)
  refine ph_top C h (fun x3_11 e_x3_11 h => ?_)
  refine ph_istore_n C (lv' := [(0, .ref a_F), (1, .int (ph_J x1)), (2, .int (ph_J x2_4)), (3, .int (ph_J x3_11))]) d_F_workOff_11 rfl (by decide) [1, 2, 3, 0] rfl ?_
  refine ph_aload_n C d_F_workOff_12 rfl 0 rfl ?_
  refine gf_F_rg C d_F_workOff_13 0 rfl rfl ?_
  refine ph_iload_n C d_F_workOff_16 rfl 2 rfl ?_
  refine ph_iconst C (n := (-1)) d_F_workOff_17 rfl ?_
  refine ph_iast C (ws2 := fun g2 => [(a_F, .inr (0, [.ref a_pr, .ref a_lf, .ref a_rg, .ref a_nx, .ref a_fd, .int (ph_J wt), .int (ph_J fl), .int (ph_J fp)])), (a_pr, .inl ((ph_cI X), 144, .inl (ph_f pr))), (a_lf, .inl ((ph_cI X), 144, .inl (ph_f lf))), (a_rg, .inl ((ph_cI X), 10, .inl (ph_f g2))), (a_nx, .inl ((ph_cI X), 144, .inl (ph_f nx)))]) d_F_workOff_18 3 rfl (fun _ => rfl) rfl (Nat.le_of_ble_eq_true rfl) h (fun rg_18 e_rg_18 h => ?_)
  show ph_G X 0 0 [(a_F, .inr (0, [.ref a_pr, .ref a_lf, .ref a_rg, .ref a_nx, .ref a_fd, .int (ph_J wt), .int (ph_J fl), .int (ph_J fp)])), (a_pr, .inl ((ph_cI X), 144, .inl (ph_f pr))), (a_lf, .inl ((ph_cI X), 144, .inl (ph_f lf))), (a_rg, .inl ((ph_cI X), 10, .inl (ph_f rg_18))), (a_nx, .inl ((ph_cI X), 144, .inl (ph_f nx)))] 5 [(0, .ref a_F), (1, .int (ph_J x1)), (2, .int (ph_J x2_4)), (3, .int (ph_J x3_11))] 19 []
  refine ph_iconst C (n := 0) d_F_workOff_19 rfl ?_
  refine ph_istore C (lv' := [(0, .ref a_F), (1, .int (ph_J x1)), (2, .int (ph_J x2_4)), (3, .int (ph_J x3_11)), (4, .int (ph_J 0))]) d_F_workOff_20 (by decide) [1, 2, 3, 4, 0] rfl ?_
  obtain ⟨kk, h⟩ := h
  refine ph_sub [0, 1, 3, 4] rfl (v_F_workOff_l22 C a_F a_pr a_lf a_rg a_nx a_fd pr fl fp x1  Q hret  kk x3_11 0 lf rg_18 nx wt h)
set_option maxRecDepth 20000 in
theorem c_F_workOff (l : Launch) (D : va_G) (cI cZ : ClassId) (a_F a_pr a_lf a_rg a_nx a_fd : Nat) (pr : Int → Int) (lf : Int → Int) (rg : Int → Int) (nx : Int → Int) (wt : Int) (fl : Int) (fp : Int) (x1 : Int) (Q : (Int → Int) → (Int → Int) → (Int → Int) → (Int) → Prop) (h : F_workOff_wp pr lf rg nx wt x1 Q) : ph_CoV l D cI cZ y_F_workOff b_F_workOff 5 ({ frames := 2, cells := 0, slots := 0, locals := 48 } : Room) [.ref a_F, .int (ph_J x1)] [(a_F, .inr (0, [.ref a_pr, .ref a_lf, .ref a_rg, .ref a_nx, .ref a_fd, .int (ph_J wt), .int (ph_J fl), .int (ph_J fp)])), (a_pr, .inl (cI, 144, .inl (ph_f pr))), (a_lf, .inl (cI, 144, .inl (ph_f lf))), (a_rg, .inl (cI, 10, .inl (ph_f rg))), (a_nx, .inl (cI, 144, .inl (ph_f nx)))] (S := (Int → Int) × (Int → Int) × (Int → Int) × (Int)) (fun u => [(a_F, .inr (0, [.ref a_pr, .ref a_lf, .ref a_rg, .ref a_nx, .ref a_fd, .int (ph_J (u.2.2.2)), .int (ph_J fl), .int (ph_J fp)])), (a_pr, .inl (cI, 144, .inl (ph_f pr))), (a_lf, .inl (cI, 144, .inl (ph_f (u.1)))), (a_rg, .inl (cI, 10, .inl (ph_f (u.2.1)))), (a_nx, .inl (cI, 144, .inl (ph_f (u.2.2.1))))]) (fun u => Q (u.1) (u.2.1) (u.2.2.1) (u.2.2.2)) :=
  ph_metV (by decide) (Nat.le_of_ble_eq_true rfl) (fun p e s m args below meth c Q0 A C hret => w_F_workOff (X := (p, l, e, ({ frames := 2, cells := 0, slots := 0, locals := 48 } : Room), s, m, args, below, meth, c, Q0, D, cI, cZ, A)) C a_F a_pr a_lf a_rg a_nx a_fd pr lf rg nx wt fl fp x1 Q hret h)
set_option maxRecDepth 20000 in
theorem k_F_workOff {X : ph_X} {own : String} {cc : ByteArray} {nL : Nat} {rm : Room} {ws : va_W} {lv : List (Nat × Value)} {pc : Nat} {st : List Value} {kc ks : Nat} {idx : Nat} (C : ph_C X own cc nL rm) (a_F a_pr a_lf a_rg a_nx a_fd : Nat) (pr : Int → Int) (lf : Int → Int) (rg : Int → Int) (nx : Int → Int) (wt : Int) (fl : Int) (fp : Int) (x1 : Int) (Q : (Int → Int) → (Int → Int) → (Int → Int) → (Int) → Prop) (h : F_workOff_wp pr lf rg nx wt x1 Q) (hlink : Cond.methodLink own idx y_F_workOff ∈ ph_T) (hR : (kc ≤ rm.cells ∧ ks ≤ rm.slots ∧ 2 + 1 ≤ rm.frames) ∧ 8 + (5 + 11) + 48 ≤ rm.locals) (isC isR perm : List Nat) {wr : va_W} {ws2 : (Int → Int) → (Int → Int) → (Int → Int) → (Int) → va_W} (hC : isC.map (fun i => ws[i]?) = ([(a_F, .inr (0, [.ref a_pr, .ref a_lf, .ref a_rg, .ref a_nx, .ref a_fd, .int (ph_J wt), .int (ph_J fl), .int (ph_J fp)])), (a_pr, .inl ((ph_cI X), 144, .inl (ph_f pr))), (a_lf, .inl ((ph_cI X), 144, .inl (ph_f lf))), (a_rg, .inl ((ph_cI X), 10, .inl (ph_f rg))), (a_nx, .inl ((ph_cI X), 144, .inl (ph_f nx)))] : va_W).map some) (hRs : isR.map (fun i => ws[i]?) = wr.map some) (hnc : va_nd isC = true) (hnr : va_nd isR = true) (hdis : ∀ i ∈ isR, i ∉ isC) (hnp : va_nd perm = true) (hp : ∀ (lf' : Int → Int) (rg' : Int → Int) (nx' : Int → Int) (wt' : Int) , perm.map (fun i => (wr ++ [(a_F, .inr (0, [.ref a_pr, .ref a_lf, .ref a_rg, .ref a_nx, .ref a_fd, .int (ph_J wt'), .int (ph_J fl), .int (ph_J fp)])), (a_pr, .inl ((ph_cI X), 144, .inl (ph_f pr))), (a_lf, .inl ((ph_cI X), 144, .inl (ph_f lf'))), (a_rg, .inl ((ph_cI X), 10, .inl (ph_f rg'))), (a_nx, .inl ((ph_cI X), 144, .inl (ph_f nx')))])[i]?) = (ws2 lf' rg' nx' wt').map some) (hroom : (st.map fun v => v.category).sum ≤ 8) (hdg : decode cc pc = .ok (.invokevirtual idx, 3)) (kk : ∀ (lf' : Int → Int) (rg' : Int → Int) (nx' : Int → Int) (wt' : Int) , Q lf' rg' nx' wt' → ph_G X kc ks (ws2 lf' rg' nx' wt') nL lv (pc + 3) st) : ph_G X kc ks ws nL lv pc (.int (ph_J x1) :: .ref a_F :: st) :=
  ph_callVv C (n := 1) (c_F_workOff (ph_l X) (ph_D X) (ph_cI X) (ph_cZ X) a_F a_pr a_lf a_rg a_nx a_fd pr lf rg nx wt fl fp x1 Q h) hlink q_254 q_2 q_38 q_255 ⟨by decide, by decide, by decide +kernel⟩ ⟨⟨rfl, rfl⟩, hR.1.2.2, hR.2⟩ ⟨hR.1.1, hR.1.2.1⟩ 0 rfl rfl rfl isC isR perm (ws2 := fun u => ws2 (u.1) (u.2.1) (u.2.2.1) (u.2.2.2)) hC hRs hnc hnr hdis hnp (fun u => hp (u.1) (u.2.1) (u.2.2.1) (u.2.2.2)) rfl hroom hdg (fun u h2 => kk  (u.1) (u.2.1) (u.2.2.1) (u.2.2.2) h2)
set_option maxRecDepth 20000 in
theorem w_F_searchBackFrom_l51 {X : ph_X} (C : ph_C X "PipeHouse$Floor" b_F_searchBackFrom 3 ({ frames := 3, cells := 0, slots := 0, locals := 72 } : Room)) (a_F a_pr a_lf a_rg a_nx a_fd : Nat) (pr : Int → Int) (fl : Int) (fp : Int) (Q : (Int → Int) → (Int → Int) → (Int → Int) → (Int) → Prop) (hret : ph_RV X b_F_searchBackFrom 3 (S := (Int → Int) × (Int → Int) × (Int → Int) × (Int)) (fun u => [(a_F, .inr (0, [.ref a_pr, .ref a_lf, .ref a_rg, .ref a_nx, .ref a_fd, .int (ph_J (u.2.2.2)), .int (ph_J fl), .int (ph_J fp)])), (a_pr, .inl ((ph_cI X), 144, .inl (ph_f pr))), (a_lf, .inl ((ph_cI X), 144, .inl (ph_f (u.1)))), (a_rg, .inl ((ph_cI X), 10, .inl (ph_f (u.2.1)))), (a_nx, .inl ((ph_cI X), 144, .inl (ph_f (u.2.2.1))))]) (fun u => Q (u.1) (u.2.1) (u.2.2.1) (u.2.2.2))) (Kh : Int → (Int → Int) → (Int → Int) → (Int → Int) → (Int) → Prop) (hKh : ∀ (x2' : Int) (lf' : Int → Int) (rg' : Int → Int) (nx' : Int → Int) (wt' : Int) , Kh x2' lf' rg' nx' wt' → ph_G X 0 0 [(a_F, .inr (0, [.ref a_pr, .ref a_lf, .ref a_rg, .ref a_nx, .ref a_fd, .int (ph_J wt'), .int (ph_J fl), .int (ph_J fp)])), (a_pr, .inl ((ph_cI X), 144, .inl (ph_f pr))), (a_lf, .inl ((ph_cI X), 144, .inl (ph_f lf'))), (a_rg, .inl ((ph_cI X), 10, .inl (ph_f rg'))), (a_nx, .inl ((ph_cI X), 144, .inl (ph_f nx')))] 3 [(0, .ref a_F), (2, .int (ph_J x2'))] 51 []) (x2 : Int) (lf : Int → Int) (rg : Int → Int) (nx : Int → Int) (wt : Int) (h : F_searchBackFrom_l51 pr    Q Kh x2 lf rg nx wt) : ph_G X 0 0 [(a_F, .inr (0, [.ref a_pr, .ref a_lf, .ref a_rg, .ref a_nx, .ref a_fd, .int (ph_J wt), .int (ph_J fl), .int (ph_J fp)])), (a_pr, .inl ((ph_cI X), 144, .inl (ph_f pr))), (a_lf, .inl ((ph_cI X), 144, .inl (ph_f lf))), (a_rg, .inl ((ph_cI X), 10, .inl (ph_f rg))), (a_nx, .inl ((ph_cI X), 144, .inl (ph_f nx)))] 3 [(0, .ref a_F), (2, .int (ph_J x2))] 51 [] := by
  unfold F_searchBackFrom_l51 at h
  refine ph_aload_n C d_F_searchBackFrom_51 rfl 0 rfl ?_
  refine gf_F_wt C d_F_searchBackFrom_52 0 rfl rfl ?_
  refine ph_if_le C (tgt := 76) d_F_searchBackFrom_55 (by decide) h (fun h => ?_) (fun h => ?_)
  · exact hret _ _ (lf, rg, nx, wt) d_F_searchBackFrom_76 h
  · refine ph_iload_n C d_F_searchBackFrom_58 rfl 1 rfl ?_
    refine ph_sipush C (n := 1296) d_F_searchBackFrom_59 (by decide) ?_
    refine ph_icmp_gt C (tgt := 76) d_F_searchBackFrom_62 (by decide) h (fun h => ?_) (fun h => ?_)
    · exact hret _ _ (lf, rg, nx, wt) d_F_searchBackFrom_76 h
    · refine ph_aload_n C d_F_searchBackFrom_65 rfl 0 rfl ?_
      refine ph_iload_n C d_F_searchBackFrom_66 rfl 1 rfl ?_
      refine k_F_workOff C a_F a_pr a_lf a_rg a_nx a_fd pr lf rg nx wt fl fp x2 _ h q_252 ⟨by decide, Nat.le_of_ble_eq_true rfl⟩ [0, 1, 2, 3, 4] [] [0, 1, 2, 3, 4] (wr := []) (ws2 := fun lf_67 rg_67 nx_67 wt_67 => [(a_F, .inr (0, [.ref a_pr, .ref a_lf, .ref a_rg, .ref a_nx, .ref a_fd, .int (ph_J wt_67), .int (ph_J fl), .int (ph_J fp)])), (a_pr, .inl ((ph_cI X), 144, .inl (ph_f pr))), (a_lf, .inl ((ph_cI X), 144, .inl (ph_f lf_67))), (a_rg, .inl ((ph_cI X), 10, .inl (ph_f rg_67))), (a_nx, .inl ((ph_cI X), 144, .inl (ph_f nx_67)))]) rfl rfl (by decide) (by decide) (by decide) (by decide) (fun _ _ _ _ => rfl) (Nat.le_of_ble_eq_true rfl) d_F_searchBackFrom_67 (fun lf_67 rg_67 nx_67 wt_67 h => ?_)
      show ph_G X 0 0 [(a_F, .inr (0, [.ref a_pr, .ref a_lf, .ref a_rg, .ref a_nx, .ref a_fd, .int (ph_J wt_67), .int (ph_J fl), .int (ph_J fp)])), (a_pr, .inl ((ph_cI X), 144, .inl (ph_f pr))), (a_lf, .inl ((ph_cI X), 144, .inl (ph_f lf_67))), (a_rg, .inl ((ph_cI X), 10, .inl (ph_f rg_67))), (a_nx, .inl ((ph_cI X), 144, .inl (ph_f nx_67)))] 3 [(0, .ref a_F), (2, .int (ph_J x2))] 70 []
      refine ph_iinc C 1 d_F_searchBackFrom_70 rfl (by decide) [1, 0] (lvp := fun y => [(0, .ref a_F), (2, .int (ph_J y))]) (fun _ => rfl) h (fun x2_70 e_x2_70 h => ?_)
      show ph_G X 0 0 [(a_F, .inr (0, [.ref a_pr, .ref a_lf, .ref a_rg, .ref a_nx, .ref a_fd, .int (ph_J wt_67), .int (ph_J fl), .int (ph_J fp)])), (a_pr, .inl ((ph_cI X), 144, .inl (ph_f pr))), (a_lf, .inl ((ph_cI X), 144, .inl (ph_f lf_67))), (a_rg, .inl ((ph_cI X), 10, .inl (ph_f rg_67))), (a_nx, .inl ((ph_cI X), 144, .inl (ph_f nx_67)))] 3 [(0, .ref a_F), (2, .int (ph_J x2_70))] 73 []
      refine ph_goto C (tgt := 51) d_F_searchBackFrom_73 (by decide) ?_
      exact ph_sub [0, 1] rfl (hKh _ _ _ _ _ h)
set_option maxRecDepth 20000 in
theorem v_F_searchBackFrom_l51 {X : ph_X} (C : ph_C X "PipeHouse$Floor" b_F_searchBackFrom 3 ({ frames := 3, cells := 0, slots := 0, locals := 72 } : Room)) (a_F a_pr a_lf a_rg a_nx a_fd : Nat) (pr : Int → Int) (fl : Int) (fp : Int) (Q : (Int → Int) → (Int → Int) → (Int → Int) → (Int) → Prop) (hret : ph_RV X b_F_searchBackFrom 3 (S := (Int → Int) × (Int → Int) × (Int → Int) × (Int)) (fun u => [(a_F, .inr (0, [.ref a_pr, .ref a_lf, .ref a_rg, .ref a_nx, .ref a_fd, .int (ph_J (u.2.2.2)), .int (ph_J fl), .int (ph_J fp)])), (a_pr, .inl ((ph_cI X), 144, .inl (ph_f pr))), (a_lf, .inl ((ph_cI X), 144, .inl (ph_f (u.1)))), (a_rg, .inl ((ph_cI X), 10, .inl (ph_f (u.2.1)))), (a_nx, .inl ((ph_cI X), 144, .inl (ph_f (u.2.2.1))))]) (fun u => Q (u.1) (u.2.1) (u.2.2.1) (u.2.2.2))) : ∀ (kk : Nat) (x2 : Int) (lf : Int → Int) (rg : Int → Int) (nx : Int → Int) (wt : Int) , ph_it (fun _ _ _ _ _ => False) (F_searchBackFrom_l51 pr   Q) kk x2 lf rg nx wt → ph_G X 0 0 [(a_F, .inr (0, [.ref a_pr, .ref a_lf, .ref a_rg, .ref a_nx, .ref a_fd, .int (ph_J wt), .int (ph_J fl), .int (ph_J fp)])), (a_pr, .inl ((ph_cI X), 144, .inl (ph_f pr))), (a_lf, .inl ((ph_cI X), 144, .inl (ph_f lf))), (a_rg, .inl ((ph_cI X), 10, .inl (ph_f rg))), (a_nx, .inl ((ph_cI X), 144, .inl (ph_f nx)))] 3 [(0, .ref a_F), (2, .int (ph_J x2))] 51 [] := by
  intro kk
  induction kk with
  | zero => intro x2 lf rg nx wt h; exact h.elim
  | succ kk ih => intro x2 lf rg nx wt h; exact w_F_searchBackFrom_l51 C a_F a_pr a_lf a_rg a_nx a_fd pr fl fp   Q hret  _ ih x2 lf rg nx wt h
set_option maxRecDepth 20000 in
theorem w_F_searchBackFrom {X : ph_X} (C : ph_C X "PipeHouse$Floor" b_F_searchBackFrom 3 ({ frames := 3, cells := 0, slots := 0, locals := 72 } : Room)) (a_F a_pr a_lf a_rg a_nx a_fd : Nat) (pr : Int → Int) (lf : Int → Int) (rg : Int → Int) (nx : Int → Int) (wt : Int) (fl : Int) (fp : Int) (x1 : Int) (Q : (Int → Int) → (Int → Int) → (Int → Int) → (Int) → Prop) (hret : ph_RV X b_F_searchBackFrom 3 (S := (Int → Int) × (Int → Int) × (Int → Int) × (Int)) (fun u => [(a_F, .inr (0, [.ref a_pr, .ref a_lf, .ref a_rg, .ref a_nx, .ref a_fd, .int (ph_J (u.2.2.2)), .int (ph_J fl), .int (ph_J fp)])), (a_pr, .inl ((ph_cI X), 144, .inl (ph_f pr))), (a_lf, .inl ((ph_cI X), 144, .inl (ph_f (u.1)))), (a_rg, .inl ((ph_cI X), 10, .inl (ph_f (u.2.1)))), (a_nx, .inl ((ph_cI X), 144, .inl (ph_f (u.2.2.1))))]) (fun u => Q (u.1) (u.2.1) (u.2.2.1) (u.2.2.2))) (h : F_searchBackFrom_wp pr lf rg nx wt x1 Q) : ph_G X 0 0 [(a_F, .inr (0, [.ref a_pr, .ref a_lf, .ref a_rg, .ref a_nx, .ref a_fd, .int (ph_J wt), .int (ph_J fl), .int (ph_J fp)])), (a_pr, .inl ((ph_cI X), 144, .inl (ph_f pr))), (a_lf, .inl ((ph_cI X), 144, .inl (ph_f lf))), (a_rg, .inl ((ph_cI X), 10, .inl (ph_f rg))), (a_nx, .inl ((ph_cI X), 144, .inl (ph_f nx)))] 3 [(0, .ref a_F), (1, .int (ph_J x1))] 0 [] := by
  unfold F_searchBackFrom_wp at h
  refine ph_aload_n C d_F_searchBackFrom_0 rfl 0 rfl ?_
  refine gf_F_lf C d_F_searchBackFrom_1 0 rfl rfl ?_
  refine ph_ldc C (x := 1073741824) q_247 (by decide) d_F_searchBackFrom_4 ?_
  refine k_A_fill C a_lf 144 (Nat.le_of_ble_eq_true rfl) lf 1073741824 _ h q_61 ⟨by decide, Nat.le_of_ble_eq_true rfl⟩ [2] [0, 1, 3, 4] [0, 1, 4, 2, 3] (wr := [(a_F, .inr (0, [.ref a_pr, .ref a_lf, .ref a_rg, .ref a_nx, .ref a_fd, .int (ph_J wt), .int (ph_J fl), .int (ph_J fp)])), (a_pr, .inl ((ph_cI X), 144, .inl (ph_f pr))), (a_rg, .inl ((ph_cI X), 10, .inl (ph_f rg))), (a_nx, .inl ((ph_cI X), 144, .inl (ph_f nx)))]) (ws2 := fun lf_6 => [(a_F, .inr (0, [.ref a_pr, .ref a_lf, .ref a_rg, .ref a_nx, .ref a_fd, .int (ph_J wt), .int (ph_J fl), .int (ph_J fp)])), (a_pr, .inl ((ph_cI X), 144, .inl (ph_f pr))), (a_lf, .inl ((ph_cI X), 144, .inl (ph_f lf_6))), (a_rg, .inl ((ph_cI X), 10, .inl (ph_f rg))), (a_nx, .inl ((ph_cI X), 144, .inl (ph_f nx)))]) rfl rfl (by decide) (by decide) (by decide) (by decide) (fun _ => rfl) (Nat.le_of_ble_eq_true rfl) d_F_searchBackFrom_6 (fun lf_6 h => ?_)
  show ph_G X 0 0 [(a_F, .inr (0, [.ref a_pr, .ref a_lf, .ref a_rg, .ref a_nx, .ref a_fd, .int (ph_J wt), .int (ph_J fl), .int (ph_J fp)])), (a_pr, .inl ((ph_cI X), 144, .inl (ph_f pr))), (a_lf, .inl ((ph_cI X), 144, .inl (ph_f lf_6))), (a_rg, .inl ((ph_cI X), 10, .inl (ph_f rg))), (a_nx, .inl ((ph_cI X), 144, .inl (ph_f nx)))] 3 [(0, .ref a_F), (1, .int (ph_J x1))] 9 []
  refine ph_aload_n C d_F_searchBackFrom_9 rfl 0 rfl ?_
  refine gf_F_rg C d_F_searchBackFrom_10 0 rfl rfl ?_
  refine ph_iconst C (n := (-1)) d_F_searchBackFrom_13 rfl ?_
  refine k_A_fill C a_rg 10 (Nat.le_of_ble_eq_true rfl) rg (-1) _ h q_61 ⟨by decide, Nat.le_of_ble_eq_true rfl⟩ [3] [0, 1, 2, 4] [0, 1, 2, 4, 3] (wr := [(a_F, .inr (0, [.ref a_pr, .ref a_lf, .ref a_rg, .ref a_nx, .ref a_fd, .int (ph_J wt), .int (ph_J fl), .int (ph_J fp)])), (a_pr, .inl ((ph_cI X), 144, .inl (ph_f pr))), (a_lf, .inl ((ph_cI X), 144, .inl (ph_f lf_6))), (a_nx, .inl ((ph_cI X), 144, .inl (ph_f nx)))]) (ws2 := fun rg_14 => [(a_F, .inr (0, [.ref a_pr, .ref a_lf, .ref a_rg, .ref a_nx, .ref a_fd, .int (ph_J wt), .int (ph_J fl), .int (ph_J fp)])), (a_pr, .inl ((ph_cI X), 144, .inl (ph_f pr))), (a_lf, .inl ((ph_cI X), 144, .inl (ph_f lf_6))), (a_rg, .inl ((ph_cI X), 10, .inl (ph_f rg_14))), (a_nx, .inl ((ph_cI X), 144, .inl (ph_f nx)))]) rfl rfl (by decide) (by decide) (by decide) (by decide) (fun _ => rfl) (Nat.le_of_ble_eq_true rfl) d_F_searchBackFrom_14 (fun rg_14 h => ?_)
  show ph_G X 0 0 [(a_F, .inr (0, [.ref a_pr, .ref a_lf, .ref a_rg, .ref a_nx, .ref a_fd, .int (ph_J wt), .int (ph_J fl), .int (ph_J fp)])), (a_pr, .inl ((ph_cI X), 144, .inl (ph_f pr))), (a_lf, .inl ((ph_cI X), 144, .inl (ph_f lf_6))), (a_rg, .inl ((ph_cI X), 10, .inl (ph_f rg_14))), (a_nx, .inl ((ph_cI X), 144, .inl (ph_f nx)))] 3 [(0, .ref a_F), (1, .int (ph_J x1))] 17 []
  refine ph_aload_n C d_F_searchBackFrom_17 rfl 0 rfl ?_
  refine gf_F_lf C d_F_searchBackFrom_18 0 rfl rfl ?_
  refine ph_iload_n C d_F_searchBackFrom_21 rfl 1 rfl ?_
  refine ph_iconst C (n := 0) d_F_searchBackFrom_22 rfl ?_
  refine ph_iast C (ws2 := fun g2 => [(a_F, .inr (0, [.ref a_pr, .ref a_lf, .ref a_rg, .ref a_nx, .ref a_fd, .int (ph_J wt), .int (ph_J fl), .int (ph_J fp)])), (a_pr, .inl ((ph_cI X), 144, .inl (ph_f pr))), (a_lf, .inl ((ph_cI X), 144, .inl (ph_f g2))), (a_rg, .inl ((ph_cI X), 10, .inl (ph_f rg_14))), (a_nx, .inl ((ph_cI X), 144, .inl (ph_f nx)))]) d_F_searchBackFrom_23 2 rfl (fun _ => rfl) rfl (Nat.le_of_ble_eq_true rfl) h (fun lf_23 e_lf_23 h => ?_)
  show ph_G X 0 0 [(a_F, .inr (0, [.ref a_pr, .ref a_lf, .ref a_rg, .ref a_nx, .ref a_fd, .int (ph_J wt), .int (ph_J fl), .int (ph_J fp)])), (a_pr, .inl ((ph_cI X), 144, .inl (ph_f pr))), (a_lf, .inl ((ph_cI X), 144, .inl (ph_f lf_23))), (a_rg, .inl ((ph_cI X), 10, .inl (ph_f rg_14))), (a_nx, .inl ((ph_cI X), 144, .inl (ph_f nx)))] 3 [(0, .ref a_F), (1, .int (ph_J x1))] 24 []
  refine ph_aload_n C d_F_searchBackFrom_24 rfl 0 rfl ?_
  refine ph_iconst C (n := 0) d_F_searchBackFrom_25 rfl ?_
  refine pf_F_wt C d_F_searchBackFrom_26 0 rfl (Nat.le_of_ble_eq_true rfl) (ws2 := [(a_F, .inr (0, [.ref a_pr, .ref a_lf, .ref a_rg, .ref a_nx, .ref a_fd, .int (ph_J 0), .int (ph_J fl), .int (ph_J fp)])), (a_pr, .inl ((ph_cI X), 144, .inl (ph_f pr))), (a_lf, .inl ((ph_cI X), 144, .inl (ph_f lf_23))), (a_rg, .inl ((ph_cI X), 10, .inl (ph_f rg_14))), (a_nx, .inl ((ph_cI X), 144, .inl (ph_f nx)))]) rfl ?_
  refine ph_aload_n C d_F_searchBackFrom_29 rfl 0 rfl ?_
  refine gf_F_pr C d_F_searchBackFrom_30 0 rfl rfl ?_
  refine ph_iload_n C d_F_searchBackFrom_33 rfl 1 rfl ?_
  refine ph_iald C d_F_searchBackFrom_34 1 rfl rfl (Nat.le_of_ble_eq_true rfl) h (fun h => ?_)
  refine ph_if_le C (tgt := 49) d_F_searchBackFrom_35 (by decide) h (fun h => ?_) (fun h => ?_)
  · refine ph_iconst C (n := 0) d_F_searchBackFrom_49 rfl ?_
    refine ph_istore_n C (lv' := [(0, .ref a_F), (1, .int (ph_J x1)), (2, .int (ph_J 0))]) d_F_searchBackFrom_50 rfl (by decide) [1, 2, 0] rfl ?_
    obtain ⟨kk, h⟩ := h
    refine ph_sub [0, 2] rfl (v_F_searchBackFrom_l51 C a_F a_pr a_lf a_rg a_nx a_fd pr fl fp   Q hret  kk 0 lf_23 rg_14 nx 0 h)
  · refine ph_aload_n C d_F_searchBackFrom_38 rfl 0 rfl ?_
    refine ph_iload_n C d_F_searchBackFrom_39 rfl 1 rfl ?_
    refine ph_aload_n C d_F_searchBackFrom_40 rfl 0 rfl ?_
    refine gf_F_pr C d_F_searchBackFrom_41 0 rfl rfl ?_
    refine ph_iload_n C d_F_searchBackFrom_44 rfl 1 rfl ?_
    refine ph_iald C d_F_searchBackFrom_45 1 rfl rfl (Nat.le_of_ble_eq_true rfl) h (fun h => ?_)
    refine k_F_waitFor C a_F a_pr a_lf a_rg a_nx a_fd rg_14 nx 0 fl fp x1 (pr x1) _ h q_248 ⟨by decide, Nat.le_of_ble_eq_true rfl⟩ [0, 3, 4] [1, 2] [2, 0, 1, 3, 4] (wr := [(a_pr, .inl ((ph_cI X), 144, .inl (ph_f pr))), (a_lf, .inl ((ph_cI X), 144, .inl (ph_f lf_23)))]) (ws2 := fun rg_46 nx_46 wt_46 => [(a_F, .inr (0, [.ref a_pr, .ref a_lf, .ref a_rg, .ref a_nx, .ref a_fd, .int (ph_J wt_46), .int (ph_J fl), .int (ph_J fp)])), (a_pr, .inl ((ph_cI X), 144, .inl (ph_f pr))), (a_lf, .inl ((ph_cI X), 144, .inl (ph_f lf_23))), (a_rg, .inl ((ph_cI X), 10, .inl (ph_f rg_46))), (a_nx, .inl ((ph_cI X), 144, .inl (ph_f nx_46)))]) rfl rfl (by decide) (by decide) (by decide) (by decide) (fun _ _ _ => rfl) (Nat.le_of_ble_eq_true rfl) d_F_searchBackFrom_46 (fun rg_46 nx_46 wt_46 h => ?_)
    show ph_G X 0 0 [(a_F, .inr (0, [.ref a_pr, .ref a_lf, .ref a_rg, .ref a_nx, .ref a_fd, .int (ph_J wt_46), .int (ph_J fl), .int (ph_J fp)])), (a_pr, .inl ((ph_cI X), 144, .inl (ph_f pr))), (a_lf, .inl ((ph_cI X), 144, .inl (ph_f lf_23))), (a_rg, .inl ((ph_cI X), 10, .inl (ph_f rg_46))), (a_nx, .inl ((ph_cI X), 144, .inl (ph_f nx_46)))] 3 [(0, .ref a_F), (1, .int (ph_J x1))] 49 []
    refine ph_iconst C (n := 0) d_F_searchBackFrom_49 rfl ?_
    refine ph_istore_n C (lv' := [(0, .ref a_F), (1, .int (ph_J x1)), (2, .int (ph_J 0))]) d_F_searchBackFrom_50 rfl (by decide) [1, 2, 0] rfl ?_
    obtain ⟨kk, h⟩ := h
    refine ph_sub [0, 2] rfl (v_F_searchBackFrom_l51 C a_F a_pr a_lf a_rg a_nx a_fd pr fl fp   Q hret  kk 0 lf_23 rg_46 nx_46 wt_46 h)
set_option maxRecDepth 20000 in
theorem c_F_searchBackFrom (l : Launch) (D : va_G) (cI cZ : ClassId) (a_F a_pr a_lf a_rg a_nx a_fd : Nat) (pr : Int → Int) (lf : Int → Int) (rg : Int → Int) (nx : Int → Int) (wt : Int) (fl : Int) (fp : Int) (x1 : Int) (Q : (Int → Int) → (Int → Int) → (Int → Int) → (Int) → Prop) (h : F_searchBackFrom_wp pr lf rg nx wt x1 Q) : ph_CoV l D cI cZ y_F_searchBackFrom b_F_searchBackFrom 3 ({ frames := 3, cells := 0, slots := 0, locals := 72 } : Room) [.ref a_F, .int (ph_J x1)] [(a_F, .inr (0, [.ref a_pr, .ref a_lf, .ref a_rg, .ref a_nx, .ref a_fd, .int (ph_J wt), .int (ph_J fl), .int (ph_J fp)])), (a_pr, .inl (cI, 144, .inl (ph_f pr))), (a_lf, .inl (cI, 144, .inl (ph_f lf))), (a_rg, .inl (cI, 10, .inl (ph_f rg))), (a_nx, .inl (cI, 144, .inl (ph_f nx)))] (S := (Int → Int) × (Int → Int) × (Int → Int) × (Int)) (fun u => [(a_F, .inr (0, [.ref a_pr, .ref a_lf, .ref a_rg, .ref a_nx, .ref a_fd, .int (ph_J (u.2.2.2)), .int (ph_J fl), .int (ph_J fp)])), (a_pr, .inl (cI, 144, .inl (ph_f pr))), (a_lf, .inl (cI, 144, .inl (ph_f (u.1)))), (a_rg, .inl (cI, 10, .inl (ph_f (u.2.1)))), (a_nx, .inl (cI, 144, .inl (ph_f (u.2.2.1))))]) (fun u => Q (u.1) (u.2.1) (u.2.2.1) (u.2.2.2)) :=
  ph_metV (by decide) (Nat.le_of_ble_eq_true rfl) (fun p e s m args below meth c Q0 A C hret => w_F_searchBackFrom (X := (p, l, e, ({ frames := 3, cells := 0, slots := 0, locals := 72 } : Room), s, m, args, below, meth, c, Q0, D, cI, cZ, A)) C a_F a_pr a_lf a_rg a_nx a_fd pr lf rg nx wt fl fp x1 Q hret h)
set_option maxRecDepth 20000 in
theorem k_F_searchBackFrom {X : ph_X} {own : String} {cc : ByteArray} {nL : Nat} {rm : Room} {ws : va_W} {lv : List (Nat × Value)} {pc : Nat} {st : List Value} {kc ks : Nat} {idx : Nat} (C : ph_C X own cc nL rm) (a_F a_pr a_lf a_rg a_nx a_fd : Nat) (pr : Int → Int) (lf : Int → Int) (rg : Int → Int) (nx : Int → Int) (wt : Int) (fl : Int) (fp : Int) (x1 : Int) (Q : (Int → Int) → (Int → Int) → (Int → Int) → (Int) → Prop) (h : F_searchBackFrom_wp pr lf rg nx wt x1 Q) (hlink : Cond.methodLink own idx y_F_searchBackFrom ∈ ph_T) (hR : (kc ≤ rm.cells ∧ ks ≤ rm.slots ∧ 3 + 1 ≤ rm.frames) ∧ 8 + (3 + 11) + 72 ≤ rm.locals) (isC isR perm : List Nat) {wr : va_W} {ws2 : (Int → Int) → (Int → Int) → (Int → Int) → (Int) → va_W} (hC : isC.map (fun i => ws[i]?) = ([(a_F, .inr (0, [.ref a_pr, .ref a_lf, .ref a_rg, .ref a_nx, .ref a_fd, .int (ph_J wt), .int (ph_J fl), .int (ph_J fp)])), (a_pr, .inl ((ph_cI X), 144, .inl (ph_f pr))), (a_lf, .inl ((ph_cI X), 144, .inl (ph_f lf))), (a_rg, .inl ((ph_cI X), 10, .inl (ph_f rg))), (a_nx, .inl ((ph_cI X), 144, .inl (ph_f nx)))] : va_W).map some) (hRs : isR.map (fun i => ws[i]?) = wr.map some) (hnc : va_nd isC = true) (hnr : va_nd isR = true) (hdis : ∀ i ∈ isR, i ∉ isC) (hnp : va_nd perm = true) (hp : ∀ (lf' : Int → Int) (rg' : Int → Int) (nx' : Int → Int) (wt' : Int) , perm.map (fun i => (wr ++ [(a_F, .inr (0, [.ref a_pr, .ref a_lf, .ref a_rg, .ref a_nx, .ref a_fd, .int (ph_J wt'), .int (ph_J fl), .int (ph_J fp)])), (a_pr, .inl ((ph_cI X), 144, .inl (ph_f pr))), (a_lf, .inl ((ph_cI X), 144, .inl (ph_f lf'))), (a_rg, .inl ((ph_cI X), 10, .inl (ph_f rg'))), (a_nx, .inl ((ph_cI X), 144, .inl (ph_f nx')))])[i]?) = (ws2 lf' rg' nx' wt').map some) (hroom : (st.map fun v => v.category).sum ≤ 8) (hdg : decode cc pc = .ok (.invokevirtual idx, 3)) (kk : ∀ (lf' : Int → Int) (rg' : Int → Int) (nx' : Int → Int) (wt' : Int) , Q lf' rg' nx' wt' → ph_G X kc ks (ws2 lf' rg' nx' wt') nL lv (pc + 3) st) : ph_G X kc ks ws nL lv pc (.int (ph_J x1) :: .ref a_F :: st) :=
  ph_callVv C (n := 1) (c_F_searchBackFrom (ph_l X) (ph_D X) (ph_cI X) (ph_cZ X) a_F a_pr a_lf a_rg a_nx a_fd pr lf rg nx wt fl fp x1 Q h) hlink q_245 q_0 q_38 q_246 ⟨by decide, by decide, by decide +kernel⟩ ⟨⟨rfl, rfl⟩, hR.1.2.2, hR.2⟩ ⟨hR.1.1, hR.1.2.1⟩ 0 rfl rfl rfl isC isR perm (ws2 := fun u => ws2 (u.1) (u.2.1) (u.2.2.1) (u.2.2.2)) hC hRs hnc hnr hdis hnp (fun u => hp (u.1) (u.2.1) (u.2.2.1) (u.2.2.2)) rfl hroom hdg (fun u h2 => kk  (u.1) (u.2.1) (u.2.2.1) (u.2.2.2) h2)
set_option maxRecDepth 20000 in
theorem w_F_stepFrom_l2 {X : ph_X} (C : ph_C X "PipeHouse$Floor" b_F_stepFrom 4 ({ frames := 1, cells := 0, slots := 0, locals := 22 } : Room)) (a_F a_pr a_lf a_rg a_nx a_fd : Nat) (pr : Int → Int) (lf : Int → Int) (wt : Int) (fl : Int) (fp : Int) (x1 : Int) (Q : Int → Prop) (hret : ph_RI X b_F_stepFrom 4 false (S := Unit) (fun _ => [(a_F, .inr (0, [.ref a_pr, .ref a_lf, .ref a_rg, .ref a_nx, .ref a_fd, .int (ph_J wt), .int (ph_J fl), .int (ph_J fp)])), (a_pr, .inl ((ph_cI X), 144, .inl (ph_f pr))), (a_lf, .inl ((ph_cI X), 144, .inl (ph_f lf)))]) (fun r _ => Q r)) (Kh : Int → Prop) (hKh : ∀ (x2' : Int) , Kh x2' → ph_G X 0 0 [(a_F, .inr (0, [.ref a_pr, .ref a_lf, .ref a_rg, .ref a_nx, .ref a_fd, .int (ph_J wt), .int (ph_J fl), .int (ph_J fp)])), (a_pr, .inl ((ph_cI X), 144, .inl (ph_f pr))), (a_lf, .inl ((ph_cI X), 144, .inl (ph_f lf)))] 4 [(0, .ref a_F), (1, .int (ph_J x1)), (2, .int (ph_J x2'))] 2 []) (x2 : Int) (h : F_stepFrom_l2 pr lf x1   Q Kh x2) : ph_G X 0 0 [(a_F, .inr (0, [.ref a_pr, .ref a_lf, .ref a_rg, .ref a_nx, .ref a_fd, .int (ph_J wt), .int (ph_J fl), .int (ph_J fp)])), (a_pr, .inl ((ph_cI X), 144, .inl (ph_f pr))), (a_lf, .inl ((ph_cI X), 144, .inl (ph_f lf)))] 4 [(0, .ref a_F), (1, .int (ph_J x1)), (2, .int (ph_J x2))] 2 [] := by
  unfold F_stepFrom_l2 at h
  refine ph_iload_n C d_F_stepFrom_2 rfl 2 rfl ?_
  refine ph_iconst C (n := 4) d_F_stepFrom_3 rfl ?_
  refine ph_icmp_ge C (tgt := 63) d_F_stepFrom_4 (by decide) h (fun h => ?_) (fun h => ?_)
  · refine ph_iconst C (n := (-1)) d_F_stepFrom_63 rfl ?_
    exact hret _ _ _ () d_F_stepFrom_64 (fun z => absurd z (by decide)) h
  · refine ph_iload_n C d_F_stepFrom_7 rfl 1 rfl ?_
    refine ph_iload_n C d_F_stepFrom_8 rfl 2 rfl ?_
    refine k_F_beside C  x1 x2 _ h q_260 ⟨by decide, Nat.le_of_ble_eq_true rfl⟩ [] [0, 1, 2] [0, 1, 2] (wr := [(a_F, .inr (0, [.ref a_pr, .ref a_lf, .ref a_rg, .ref a_nx, .ref a_fd, .int (ph_J wt), .int (ph_J fl), .int (ph_J fp)])), (a_pr, .inl ((ph_cI X), 144, .inl (ph_f pr))), (a_lf, .inl ((ph_cI X), 144, .inl (ph_f lf)))]) (ws2 := [(a_F, .inr (0, [.ref a_pr, .ref a_lf, .ref a_rg, .ref a_nx, .ref a_fd, .int (ph_J wt), .int (ph_J fl), .int (ph_J fp)])), (a_pr, .inl ((ph_cI X), 144, .inl (ph_f pr))), (a_lf, .inl ((ph_cI X), 144, .inl (ph_f lf)))]) rfl rfl (by decide) (by decide) (by decide) (by decide) rfl (Nat.le_of_ble_eq_true rfl) d_F_stepFrom_9 (fun r_9 h => ?_)
    show ph_G X 0 0 [(a_F, .inr (0, [.ref a_pr, .ref a_lf, .ref a_rg, .ref a_nx, .ref a_fd, .int (ph_J wt), .int (ph_J fl), .int (ph_J fp)])), (a_pr, .inl ((ph_cI X), 144, .inl (ph_f pr))), (a_lf, .inl ((ph_cI X), 144, .inl (ph_f lf)))] 4 [(0, .ref a_F), (1, .int (ph_J x1)), (2, .int (ph_J x2))] 12 [.int (ph_J r_9)]
    refine ph_istore_n C (lv' := [(0, .ref a_F), (1, .int (ph_J x1)), (2, .int (ph_J x2)), (3, .int (ph_J r_9))]) d_F_stepFrom_12 rfl (by decide) [1, 2, 3, 0] rfl ?_
    refine ph_iload_n C d_F_stepFrom_13 rfl 3 rfl ?_
    refine ph_iconst C (n := (-1)) d_F_stepFrom_14 rfl ?_
    refine ph_icmp_eq C (tgt := 57) d_F_stepFrom_15 (by decide) h (fun h => ?_) (fun h => ?_)
    · refine ph_iinc C 2 d_F_stepFrom_57 rfl (by decide) [1, 2, 0, 3] (lvp := fun y => [(0, .ref a_F), (1, .int (ph_J x1)), (2, .int (ph_J y)), (3, .int (ph_J r_9))]) (fun _ => rfl) h (fun x2_57 e_x2_57 h => ?_)
      show ph_G X 0 0 [(a_F, .inr (0, [.ref a_pr, .ref a_lf, .ref a_rg, .ref a_nx, .ref a_fd, .int (ph_J wt), .int (ph_J fl), .int (ph_J fp)])), (a_pr, .inl ((ph_cI X), 144, .inl (ph_f pr))), (a_lf, .inl ((ph_cI X), 144, .inl (ph_f lf)))] 4 [(0, .ref a_F), (1, .int (ph_J x1)), (2, .int (ph_J x2_57)), (3, .int (ph_J r_9))] 60 []
      refine ph_goto C (tgt := 2) d_F_stepFrom_60 (by decide) ?_
      exact ph_sub [0, 1, 2] rfl (hKh _ h)
    · refine ph_aload_n C d_F_stepFrom_18 rfl 0 rfl ?_
      refine gf_F_pr C d_F_stepFrom_19 0 rfl rfl ?_
      refine ph_iload_n C d_F_stepFrom_22 rfl 3 rfl ?_
      refine ph_iald C d_F_stepFrom_23 1 rfl rfl (Nat.le_of_ble_eq_true rfl) h (fun h => ?_)
      refine ph_if_le C (tgt := 57) d_F_stepFrom_24 (by decide) h (fun h => ?_) (fun h => ?_)
      · refine ph_iinc C 2 d_F_stepFrom_57 rfl (by decide) [1, 2, 0, 3] (lvp := fun y => [(0, .ref a_F), (1, .int (ph_J x1)), (2, .int (ph_J y)), (3, .int (ph_J r_9))]) (fun _ => rfl) h (fun x2_57 e_x2_57 h => ?_)
        show ph_G X 0 0 [(a_F, .inr (0, [.ref a_pr, .ref a_lf, .ref a_rg, .ref a_nx, .ref a_fd, .int (ph_J wt), .int (ph_J fl), .int (ph_J fp)])), (a_pr, .inl ((ph_cI X), 144, .inl (ph_f pr))), (a_lf, .inl ((ph_cI X), 144, .inl (ph_f lf)))] 4 [(0, .ref a_F), (1, .int (ph_J x1)), (2, .int (ph_J x2_57)), (3, .int (ph_J r_9))] 60 []
        refine ph_goto C (tgt := 2) d_F_stepFrom_60 (by decide) ?_
        exact ph_sub [0, 1, 2] rfl (hKh _ h)
      · refine ph_aload_n C d_F_stepFrom_27 rfl 0 rfl ?_
        refine gf_F_lf C d_F_stepFrom_28 0 rfl rfl ?_
        refine ph_iload_n C d_F_stepFrom_31 rfl 3 rfl ?_
        refine ph_iald C d_F_stepFrom_32 2 rfl rfl (Nat.le_of_ble_eq_true rfl) h (fun h => ?_)
        refine ph_aload_n C d_F_stepFrom_33 rfl 0 rfl ?_
        refine gf_F_pr C d_F_stepFrom_34 0 rfl rfl ?_
        refine ph_iload_n C d_F_stepFrom_37 rfl 3 rfl ?_
        refine ph_iald C d_F_stepFrom_38 1 rfl rfl (Nat.le_of_ble_eq_true rfl) h (fun h => ?_)
        refine ph_sipush C (n := 256) d_F_stepFrom_39 (by decide) ?_
        refine ph_imul C d_F_stepFrom_42 ?_
        refine ph_iadd C d_F_stepFrom_43 ?_
        refine ph_iconst C (n := 1) d_F_stepFrom_44 rfl ?_
        refine ph_iadd C d_F_stepFrom_45 ?_
        refine ph_aload_n C d_F_stepFrom_46 rfl 0 rfl ?_
        refine gf_F_lf C d_F_stepFrom_47 0 rfl rfl ?_
        refine ph_iload_n C d_F_stepFrom_50 rfl 1 rfl ?_
        refine ph_iald C d_F_stepFrom_51 2 rfl rfl (Nat.le_of_ble_eq_true rfl) h (fun h => ?_)
        refine ph_icmp_ne C (tgt := 57) d_F_stepFrom_52 (by decide) h (fun h => ?_) (fun h => ?_)
        · refine ph_iinc C 2 d_F_stepFrom_57 rfl (by decide) [1, 2, 0, 3] (lvp := fun y => [(0, .ref a_F), (1, .int (ph_J x1)), (2, .int (ph_J y)), (3, .int (ph_J r_9))]) (fun _ => rfl) h (fun x2_57 e_x2_57 h => ?_)
          show ph_G X 0 0 [(a_F, .inr (0, [.ref a_pr, .ref a_lf, .ref a_rg, .ref a_nx, .ref a_fd, .int (ph_J wt), .int (ph_J fl), .int (ph_J fp)])), (a_pr, .inl ((ph_cI X), 144, .inl (ph_f pr))), (a_lf, .inl ((ph_cI X), 144, .inl (ph_f lf)))] 4 [(0, .ref a_F), (1, .int (ph_J x1)), (2, .int (ph_J x2_57)), (3, .int (ph_J r_9))] 60 []
          refine ph_goto C (tgt := 2) d_F_stepFrom_60 (by decide) ?_
          exact ph_sub [0, 1, 2] rfl (hKh _ h)
        · refine ph_iload_n C d_F_stepFrom_55 rfl 3 rfl ?_
          exact hret _ _ _ () d_F_stepFrom_56 (fun z => absurd z (by decide)) h
set_option maxRecDepth 20000 in
theorem v_F_stepFrom_l2 {X : ph_X} (C : ph_C X "PipeHouse$Floor" b_F_stepFrom 4 ({ frames := 1, cells := 0, slots := 0, locals := 22 } : Room)) (a_F a_pr a_lf a_rg a_nx a_fd : Nat) (pr : Int → Int) (lf : Int → Int) (wt : Int) (fl : Int) (fp : Int) (x1 : Int) (Q : Int → Prop) (hret : ph_RI X b_F_stepFrom 4 false (S := Unit) (fun _ => [(a_F, .inr (0, [.ref a_pr, .ref a_lf, .ref a_rg, .ref a_nx, .ref a_fd, .int (ph_J wt), .int (ph_J fl), .int (ph_J fp)])), (a_pr, .inl ((ph_cI X), 144, .inl (ph_f pr))), (a_lf, .inl ((ph_cI X), 144, .inl (ph_f lf)))]) (fun r _ => Q r)) : ∀ (kk : Nat) (x2 : Int) , ph_it (fun _ => False) (F_stepFrom_l2 pr lf x1  Q) kk x2 → ph_G X 0 0 [(a_F, .inr (0, [.ref a_pr, .ref a_lf, .ref a_rg, .ref a_nx, .ref a_fd, .int (ph_J wt), .int (ph_J fl), .int (ph_J fp)])), (a_pr, .inl ((ph_cI X), 144, .inl (ph_f pr))), (a_lf, .inl ((ph_cI X), 144, .inl (ph_f lf)))] 4 [(0, .ref a_F), (1, .int (ph_J x1)), (2, .int (ph_J x2))] 2 [] := by
  intro kk
  induction kk with
  | zero => intro x2 h; exact h.elim
  | succ kk ih => intro x2 h; exact w_F_stepFrom_l2 C a_F a_pr a_lf a_rg a_nx a_fd pr lf wt fl fp x1  Q hret  _ ih x2 h
set_option maxRecDepth 20000 in
theorem w_F_stepFrom {X : ph_X} (C : ph_C X "PipeHouse$Floor" b_F_stepFrom 4 ({ frames := 1, cells := 0, slots := 0, locals := 22 } : Room)) (a_F a_pr a_lf a_rg a_nx a_fd : Nat) (pr : Int → Int) (lf : Int → Int) (wt : Int) (fl : Int) (fp : Int) (x1 : Int) (Q : Int → Prop) (hret : ph_RI X b_F_stepFrom 4 false (S := Unit) (fun _ => [(a_F, .inr (0, [.ref a_pr, .ref a_lf, .ref a_rg, .ref a_nx, .ref a_fd, .int (ph_J wt), .int (ph_J fl), .int (ph_J fp)])), (a_pr, .inl ((ph_cI X), 144, .inl (ph_f pr))), (a_lf, .inl ((ph_cI X), 144, .inl (ph_f lf)))]) (fun r _ => Q r)) (h : F_stepFrom_wp pr lf x1 Q) : ph_G X 0 0 [(a_F, .inr (0, [.ref a_pr, .ref a_lf, .ref a_rg, .ref a_nx, .ref a_fd, .int (ph_J wt), .int (ph_J fl), .int (ph_J fp)])), (a_pr, .inl ((ph_cI X), 144, .inl (ph_f pr))), (a_lf, .inl ((ph_cI X), 144, .inl (ph_f lf)))] 4 [(0, .ref a_F), (1, .int (ph_J x1))] 0 [] := by
  unfold F_stepFrom_wp at h
  refine ph_iconst C (n := 0) d_F_stepFrom_0 rfl ?_
  refine ph_istore_n C (lv' := [(0, .ref a_F), (1, .int (ph_J x1)), (2, .int (ph_J 0))]) d_F_stepFrom_1 rfl (by decide) [1, 2, 0] rfl ?_
  obtain ⟨kk, h⟩ := h
  refine ph_sub [0, 1, 2] rfl (v_F_stepFrom_l2 C a_F a_pr a_lf a_rg a_nx a_fd pr lf wt fl fp x1  Q hret  kk 0 h)
set_option maxRecDepth 20000 in
theorem c_F_stepFrom (l : Launch) (D : va_G) (cI cZ : ClassId) (a_F a_pr a_lf a_rg a_nx a_fd : Nat) (pr : Int → Int) (lf : Int → Int) (wt : Int) (fl : Int) (fp : Int) (x1 : Int) (Q : Int → Prop) (h : F_stepFrom_wp pr lf x1 Q) : ph_Con l D cI cZ y_F_stepFrom b_F_stepFrom 4 .int ({ frames := 1, cells := 0, slots := 0, locals := 22 } : Room) [.ref a_F, .int (ph_J x1)] [(a_F, .inr (0, [.ref a_pr, .ref a_lf, .ref a_rg, .ref a_nx, .ref a_fd, .int (ph_J wt), .int (ph_J fl), .int (ph_J fp)])), (a_pr, .inl (cI, 144, .inl (ph_f pr))), (a_lf, .inl (cI, 144, .inl (ph_f lf)))] (S := Unit) (fun _ => [(a_F, .inr (0, [.ref a_pr, .ref a_lf, .ref a_rg, .ref a_nx, .ref a_fd, .int (ph_J wt), .int (ph_J fl), .int (ph_J fp)])), (a_pr, .inl (cI, 144, .inl (ph_f pr))), (a_lf, .inl (cI, 144, .inl (ph_f lf)))]) (fun r _ => Q r) :=
  ph_met (bt := false) (Or.inl ⟨rfl, rfl⟩) (by decide) ⟨rfl, rfl⟩ (Nat.le_of_ble_eq_true rfl) (fun p e s m args below meth c Q0 A C hret => w_F_stepFrom (X := (p, l, e, ({ frames := 1, cells := 0, slots := 0, locals := 22 } : Room), s, m, args, below, meth, c, Q0, D, cI, cZ, A)) C a_F a_pr a_lf a_rg a_nx a_fd pr lf wt fl fp x1 Q hret h)
set_option maxRecDepth 20000 in
theorem k_F_stepFrom {X : ph_X} {own : String} {cc : ByteArray} {nL : Nat} {rm : Room} {ws : va_W} {lv : List (Nat × Value)} {pc : Nat} {st : List Value} {kc ks : Nat} {idx : Nat} (C : ph_C X own cc nL rm) (a_F a_pr a_lf a_rg a_nx a_fd : Nat) (pr : Int → Int) (lf : Int → Int) (wt : Int) (fl : Int) (fp : Int) (x1 : Int) (Q : Int → Prop) (h : F_stepFrom_wp pr lf x1 Q) (hlink : Cond.methodLink own idx y_F_stepFrom ∈ ph_T) (hR : (kc ≤ rm.cells ∧ ks ≤ rm.slots ∧ 1 + 1 ≤ rm.frames) ∧ 8 + (4 + 11) + 22 ≤ rm.locals) (isC isR perm : List Nat) {wr : va_W} {ws2 : va_W} (hC : isC.map (fun i => ws[i]?) = ([(a_F, .inr (0, [.ref a_pr, .ref a_lf, .ref a_rg, .ref a_nx, .ref a_fd, .int (ph_J wt), .int (ph_J fl), .int (ph_J fp)])), (a_pr, .inl ((ph_cI X), 144, .inl (ph_f pr))), (a_lf, .inl ((ph_cI X), 144, .inl (ph_f lf)))] : va_W).map some) (hRs : isR.map (fun i => ws[i]?) = wr.map some) (hnc : va_nd isC = true) (hnr : va_nd isR = true) (hdis : ∀ i ∈ isR, i ∉ isC) (hnp : va_nd perm = true) (hp : perm.map (fun i => (wr ++ [(a_F, .inr (0, [.ref a_pr, .ref a_lf, .ref a_rg, .ref a_nx, .ref a_fd, .int (ph_J wt), .int (ph_J fl), .int (ph_J fp)])), (a_pr, .inl ((ph_cI X), 144, .inl (ph_f pr))), (a_lf, .inl ((ph_cI X), 144, .inl (ph_f lf)))])[i]?) = (ws2 ).map some) (hroom : (st.map fun v => v.category).sum ≤ 8) (hdg : decode cc pc = .ok (.invokevirtual idx, 3)) (kk : ∀ (r : Int) , Q r → ph_G X kc ks (ws2 ) nL lv (pc + 3) (.int (ph_J r) :: st)) : ph_G X kc ks ws nL lv pc (.int (ph_J x1) :: .ref a_F :: st) :=
  ph_callV C (n := 1) (c_F_stepFrom (ph_l X) (ph_D X) (ph_cI X) (ph_cZ X) a_F a_pr a_lf a_rg a_nx a_fd pr lf wt fl fp x1 Q h) hlink q_269 q_5 q_38 q_270 ⟨by decide, by decide, by decide +kernel⟩ ⟨⟨rfl, rfl⟩, hR.1.2.2, hR.2⟩ ⟨hR.1.1, hR.1.2.1⟩ 0 rfl rfl rfl isC isR perm (ws2 := fun _ => ws2) hC hRs hnc hnr hdis hnp (fun _ => hp) rfl hroom hdg (fun r u h2 => kk r  h2)
set_option maxRecDepth 20000 in
theorem w_F_walk_l5 {X : ph_X} (C : ph_C X "PipeHouse$Floor" b_F_walk 5 ({ frames := 2, cells := 0, slots := 0, locals := 45 } : Room)) (a_F a_pr a_lf a_rg a_nx a_fd : Nat) (pr : Int → Int) (lf : Int → Int) (wt : Int) (fp : Int) (x2 : Int) (Q : (Int → Int) → (Int) → Prop) (hret : ph_RV X b_F_walk 5 (S := (Int → Int) × (Int)) (fun u => [(a_F, .inr (0, [.ref a_pr, .ref a_lf, .ref a_rg, .ref a_nx, .ref a_fd, .int (ph_J wt), .int (ph_J (u.2)), .int (ph_J fp)])), (a_pr, .inl ((ph_cI X), 144, .inl (ph_f pr))), (a_lf, .inl ((ph_cI X), 144, .inl (ph_f lf))), (a_fd, .inl ((ph_cI X), 144, .inl (ph_f (u.1))))]) (fun u => Q (u.1) (u.2))) (Kh : Int → Int → (Int → Int) → (Int) → Prop) (hKh : ∀ (x3' : Int) (x4' : Int) (fd' : Int → Int) (fl' : Int) , Kh x3' x4' fd' fl' → ph_G X 0 0 [(a_F, .inr (0, [.ref a_pr, .ref a_lf, .ref a_rg, .ref a_nx, .ref a_fd, .int (ph_J wt), .int (ph_J fl'), .int (ph_J fp)])), (a_pr, .inl ((ph_cI X), 144, .inl (ph_f pr))), (a_lf, .inl ((ph_cI X), 144, .inl (ph_f lf))), (a_fd, .inl ((ph_cI X), 144, .inl (ph_f fd')))] 5 [(0, .ref a_F), (2, .int (ph_J x2)), (3, .int (ph_J x3')), (4, .int (ph_J x4'))] 5 []) (x3 : Int) (x4 : Int) (fd : Int → Int) (fl : Int) (h : F_walk_l5 pr lf x2   Q Kh x3 x4 fd fl) : ph_G X 0 0 [(a_F, .inr (0, [.ref a_pr, .ref a_lf, .ref a_rg, .ref a_nx, .ref a_fd, .int (ph_J wt), .int (ph_J fl), .int (ph_J fp)])), (a_pr, .inl ((ph_cI X), 144, .inl (ph_f pr))), (a_lf, .inl ((ph_cI X), 144, .inl (ph_f lf))), (a_fd, .inl ((ph_cI X), 144, .inl (ph_f fd)))] 5 [(0, .ref a_F), (2, .int (ph_J x2)), (3, .int (ph_J x3)), (4, .int (ph_J x4))] 5 [] := by
  unfold F_walk_l5 at h
  refine ph_iload C d_F_walk_5 3 rfl ?_
  refine ph_sipush C (n := 144) d_F_walk_7 (by decide) ?_
  refine ph_icmp_ge C (tgt := 55) d_F_walk_10 (by decide) h (fun h => ?_) (fun h => ?_)
  · exact hret _ _ (fd, fl) d_F_walk_55 h
  · refine ph_iload_n C d_F_walk_13 rfl 2 rfl ?_
    refine ph_iconst C (n := (-1)) d_F_walk_14 rfl ?_
    refine ph_icmp_eq C (tgt := 55) d_F_walk_15 (by decide) h (fun h => ?_) (fun h => ?_)
    · exact hret _ _ (fd, fl) d_F_walk_55 h
    · refine ph_aload_n C d_F_walk_18 rfl 0 rfl ?_
      refine gf_F_fd C d_F_walk_19 0 rfl rfl ?_
      refine ph_iload C d_F_walk_22 3 rfl ?_
      refine ph_iload_n C d_F_walk_24 rfl 2 rfl ?_
      refine ph_iast C (ws2 := fun g2 => [(a_F, .inr (0, [.ref a_pr, .ref a_lf, .ref a_rg, .ref a_nx, .ref a_fd, .int (ph_J wt), .int (ph_J fl), .int (ph_J fp)])), (a_pr, .inl ((ph_cI X), 144, .inl (ph_f pr))), (a_lf, .inl ((ph_cI X), 144, .inl (ph_f lf))), (a_fd, .inl ((ph_cI X), 144, .inl (ph_f g2)))]) d_F_walk_25 3 rfl (fun _ => rfl) rfl (Nat.le_of_ble_eq_true rfl) h (fun fd_25 e_fd_25 h => ?_)
      show ph_G X 0 0 [(a_F, .inr (0, [.ref a_pr, .ref a_lf, .ref a_rg, .ref a_nx, .ref a_fd, .int (ph_J wt), .int (ph_J fl), .int (ph_J fp)])), (a_pr, .inl ((ph_cI X), 144, .inl (ph_f pr))), (a_lf, .inl ((ph_cI X), 144, .inl (ph_f lf))), (a_fd, .inl ((ph_cI X), 144, .inl (ph_f fd_25)))] 5 [(0, .ref a_F), (2, .int (ph_J x2)), (3, .int (ph_J x3)), (4, .int (ph_J x4))] 26 []
      refine ph_aload_n C d_F_walk_26 rfl 0 rfl ?_
      refine ph_iload C d_F_walk_27 3 rfl ?_
      refine ph_iconst C (n := 1) d_F_walk_29 rfl ?_
      refine ph_iadd C d_F_walk_30 ?_
      refine ph_top C h (fun fl_31 e_fl_31 h => ?_)
      refine pf_F_fl C d_F_walk_31 0 rfl (Nat.le_of_ble_eq_true rfl) (ws2 := [(a_F, .inr (0, [.ref a_pr, .ref a_lf, .ref a_rg, .ref a_nx, .ref a_fd, .int (ph_J wt), .int (ph_J fl_31), .int (ph_J fp)])), (a_pr, .inl ((ph_cI X), 144, .inl (ph_f pr))), (a_lf, .inl ((ph_cI X), 144, .inl (ph_f lf))), (a_fd, .inl ((ph_cI X), 144, .inl (ph_f fd_25)))]) rfl ?_
      refine ph_iload_n C d_F_walk_34 rfl 2 rfl ?_
      refine ph_iload_n C d_F_walk_35 rfl 1 rfl ?_
      refine ph_icmp_ne C (tgt := 43) d_F_walk_36 (by decide) h (fun h => ?_) (fun h => ?_)
      · refine ph_aload_n C d_F_walk_43 rfl 0 rfl ?_
        refine ph_iload_n C d_F_walk_44 rfl 2 rfl ?_
        refine k_F_stepFrom C a_F a_pr a_lf a_rg a_nx a_fd pr lf wt fl_31 fp x3 _ h q_267 ⟨by decide, Nat.le_of_ble_eq_true rfl⟩ [0, 1, 2] [3] [1, 2, 3, 0] (wr := [(a_fd, .inl ((ph_cI X), 144, .inl (ph_f fd_25)))]) (ws2 := [(a_F, .inr (0, [.ref a_pr, .ref a_lf, .ref a_rg, .ref a_nx, .ref a_fd, .int (ph_J wt), .int (ph_J fl_31), .int (ph_J fp)])), (a_pr, .inl ((ph_cI X), 144, .inl (ph_f pr))), (a_lf, .inl ((ph_cI X), 144, .inl (ph_f lf))), (a_fd, .inl ((ph_cI X), 144, .inl (ph_f fd_25)))]) rfl rfl (by decide) (by decide) (by decide) (by decide) rfl (Nat.le_of_ble_eq_true rfl) d_F_walk_45 (fun r_45 h => ?_)
        show ph_G X 0 0 [(a_F, .inr (0, [.ref a_pr, .ref a_lf, .ref a_rg, .ref a_nx, .ref a_fd, .int (ph_J wt), .int (ph_J fl_31), .int (ph_J fp)])), (a_pr, .inl ((ph_cI X), 144, .inl (ph_f pr))), (a_lf, .inl ((ph_cI X), 144, .inl (ph_f lf))), (a_fd, .inl ((ph_cI X), 144, .inl (ph_f fd_25)))] 5 [(0, .ref a_F), (2, .int (ph_J x2)), (3, .int (ph_J x3)), (4, .int (ph_J x4))] 48 [.int (ph_J r_45)]
        refine ph_istore_n C (lv' := [(0, .ref a_F), (2, .int (ph_J x2)), (3, .int (ph_J r_45)), (4, .int (ph_J x4))]) d_F_walk_48 rfl (by decide) [1, 2, 0, 3] rfl ?_
        refine ph_iinc C 3 d_F_walk_49 rfl (by decide) [1, 2, 3, 0] (lvp := fun y => [(0, .ref a_F), (2, .int (ph_J x2)), (3, .int (ph_J r_45)), (4, .int (ph_J y))]) (fun _ => rfl) h (fun x4_49 e_x4_49 h => ?_)
        show ph_G X 0 0 [(a_F, .inr (0, [.ref a_pr, .ref a_lf, .ref a_rg, .ref a_nx, .ref a_fd, .int (ph_J wt), .int (ph_J fl_31), .int (ph_J fp)])), (a_pr, .inl ((ph_cI X), 144, .inl (ph_f pr))), (a_lf, .inl ((ph_cI X), 144, .inl (ph_f lf))), (a_fd, .inl ((ph_cI X), 144, .inl (ph_f fd_25)))] 5 [(0, .ref a_F), (2, .int (ph_J x2)), (3, .int (ph_J r_45)), (4, .int (ph_J x4_49))] 52 []
        refine ph_goto C (tgt := 5) d_F_walk_52 (by decide) ?_
        exact ph_sub [0, 1, 2, 3] rfl (hKh _ _ _ _ h)
      · refine ph_iconst C (n := (-1)) d_F_walk_39 rfl ?_
        refine ph_goto C (tgt := 48) d_F_walk_40 (by decide) ?_
        refine ph_istore_n C (lv' := [(0, .ref a_F), (2, .int (ph_J x2)), (3, .int (ph_J (-1))), (4, .int (ph_J x4))]) d_F_walk_48 rfl (by decide) [1, 2, 0, 3] rfl ?_
        refine ph_iinc C 3 d_F_walk_49 rfl (by decide) [1, 2, 3, 0] (lvp := fun y => [(0, .ref a_F), (2, .int (ph_J x2)), (3, .int (ph_J (-1))), (4, .int (ph_J y))]) (fun _ => rfl) h (fun x4_49 e_x4_49 h => ?_)
        show ph_G X 0 0 [(a_F, .inr (0, [.ref a_pr, .ref a_lf, .ref a_rg, .ref a_nx, .ref a_fd, .int (ph_J wt), .int (ph_J fl_31), .int (ph_J fp)])), (a_pr, .inl ((ph_cI X), 144, .inl (ph_f pr))), (a_lf, .inl ((ph_cI X), 144, .inl (ph_f lf))), (a_fd, .inl ((ph_cI X), 144, .inl (ph_f fd_25)))] 5 [(0, .ref a_F), (2, .int (ph_J x2)), (3, .int (ph_J (-1))), (4, .int (ph_J x4_49))] 52 []
        refine ph_goto C (tgt := 5) d_F_walk_52 (by decide) ?_
        exact ph_sub [0, 1, 2, 3] rfl (hKh _ _ _ _ h)
set_option maxRecDepth 20000 in
theorem v_F_walk_l5 {X : ph_X} (C : ph_C X "PipeHouse$Floor" b_F_walk 5 ({ frames := 2, cells := 0, slots := 0, locals := 45 } : Room)) (a_F a_pr a_lf a_rg a_nx a_fd : Nat) (pr : Int → Int) (lf : Int → Int) (wt : Int) (fp : Int) (x2 : Int) (Q : (Int → Int) → (Int) → Prop) (hret : ph_RV X b_F_walk 5 (S := (Int → Int) × (Int)) (fun u => [(a_F, .inr (0, [.ref a_pr, .ref a_lf, .ref a_rg, .ref a_nx, .ref a_fd, .int (ph_J wt), .int (ph_J (u.2)), .int (ph_J fp)])), (a_pr, .inl ((ph_cI X), 144, .inl (ph_f pr))), (a_lf, .inl ((ph_cI X), 144, .inl (ph_f lf))), (a_fd, .inl ((ph_cI X), 144, .inl (ph_f (u.1))))]) (fun u => Q (u.1) (u.2))) : ∀ (kk : Nat) (x3 : Int) (x4 : Int) (fd : Int → Int) (fl : Int) , ph_it (fun _ _ _ _ => False) (F_walk_l5 pr lf x2  Q) kk x3 x4 fd fl → ph_G X 0 0 [(a_F, .inr (0, [.ref a_pr, .ref a_lf, .ref a_rg, .ref a_nx, .ref a_fd, .int (ph_J wt), .int (ph_J fl), .int (ph_J fp)])), (a_pr, .inl ((ph_cI X), 144, .inl (ph_f pr))), (a_lf, .inl ((ph_cI X), 144, .inl (ph_f lf))), (a_fd, .inl ((ph_cI X), 144, .inl (ph_f fd)))] 5 [(0, .ref a_F), (2, .int (ph_J x2)), (3, .int (ph_J x3)), (4, .int (ph_J x4))] 5 [] := by
  intro kk
  induction kk with
  | zero => intro x3 x4 fd fl h; exact h.elim
  | succ kk ih => intro x3 x4 fd fl h; exact w_F_walk_l5 C a_F a_pr a_lf a_rg a_nx a_fd pr lf wt fp x2  Q hret  _ ih x3 x4 fd fl h
set_option maxRecDepth 20000 in
theorem w_F_walk {X : ph_X} (C : ph_C X "PipeHouse$Floor" b_F_walk 5 ({ frames := 2, cells := 0, slots := 0, locals := 45 } : Room)) (a_F a_pr a_lf a_rg a_nx a_fd : Nat) (pr : Int → Int) (lf : Int → Int) (fd : Int → Int) (wt : Int) (fl : Int) (fp : Int) (x1 : Int) (x2 : Int) (Q : (Int → Int) → (Int) → Prop) (hret : ph_RV X b_F_walk 5 (S := (Int → Int) × (Int)) (fun u => [(a_F, .inr (0, [.ref a_pr, .ref a_lf, .ref a_rg, .ref a_nx, .ref a_fd, .int (ph_J wt), .int (ph_J (u.2)), .int (ph_J fp)])), (a_pr, .inl ((ph_cI X), 144, .inl (ph_f pr))), (a_lf, .inl ((ph_cI X), 144, .inl (ph_f lf))), (a_fd, .inl ((ph_cI X), 144, .inl (ph_f (u.1))))]) (fun u => Q (u.1) (u.2))) (h : F_walk_wp pr lf fd fl x1 x2 Q) : ph_G X 0 0 [(a_F, .inr (0, [.ref a_pr, .ref a_lf, .ref a_rg, .ref a_nx, .ref a_fd, .int (ph_J wt), .int (ph_J fl), .int (ph_J fp)])), (a_pr, .inl ((ph_cI X), 144, .inl (ph_f pr))), (a_lf, .inl ((ph_cI X), 144, .inl (ph_f lf))), (a_fd, .inl ((ph_cI X), 144, .inl (ph_f fd)))] 5 [(0, .ref a_F), (1, .int (ph_J x1)), (2, .int (ph_J x2))] 0 [] := by
  unfold F_walk_wp at h
  refine ph_iload_n C d_F_walk_0 rfl 1 rfl ?_
  refine ph_istore_n C (lv' := [(0, .ref a_F), (1, .int (ph_J x1)), (2, .int (ph_J x2)), (3, .int (ph_J x1))]) d_F_walk_1 rfl (by decide) [1, 2, 3, 0] rfl ?_
  refine ph_iconst C (n := 0) d_F_walk_2 rfl ?_
  refine ph_istore C (lv' := [(0, .ref a_F), (1, .int (ph_J x1)), (2, .int (ph_J x2)), (3, .int (ph_J x1)), (4, .int (ph_J 0))]) d_F_walk_3 (by decide) [1, 2, 3, 4, 0] rfl ?_
  obtain ⟨kk, h⟩ := h
  refine ph_sub [0, 2, 3, 4] rfl (v_F_walk_l5 C a_F a_pr a_lf a_rg a_nx a_fd pr lf wt fp x2  Q hret  kk x1 0 fd fl h)
set_option maxRecDepth 20000 in
theorem c_F_walk (l : Launch) (D : va_G) (cI cZ : ClassId) (a_F a_pr a_lf a_rg a_nx a_fd : Nat) (pr : Int → Int) (lf : Int → Int) (fd : Int → Int) (wt : Int) (fl : Int) (fp : Int) (x1 : Int) (x2 : Int) (Q : (Int → Int) → (Int) → Prop) (h : F_walk_wp pr lf fd fl x1 x2 Q) : ph_CoV l D cI cZ y_F_walk b_F_walk 5 ({ frames := 2, cells := 0, slots := 0, locals := 45 } : Room) [.ref a_F, .int (ph_J x1), .int (ph_J x2)] [(a_F, .inr (0, [.ref a_pr, .ref a_lf, .ref a_rg, .ref a_nx, .ref a_fd, .int (ph_J wt), .int (ph_J fl), .int (ph_J fp)])), (a_pr, .inl (cI, 144, .inl (ph_f pr))), (a_lf, .inl (cI, 144, .inl (ph_f lf))), (a_fd, .inl (cI, 144, .inl (ph_f fd)))] (S := (Int → Int) × (Int)) (fun u => [(a_F, .inr (0, [.ref a_pr, .ref a_lf, .ref a_rg, .ref a_nx, .ref a_fd, .int (ph_J wt), .int (ph_J (u.2)), .int (ph_J fp)])), (a_pr, .inl (cI, 144, .inl (ph_f pr))), (a_lf, .inl (cI, 144, .inl (ph_f lf))), (a_fd, .inl (cI, 144, .inl (ph_f (u.1))))]) (fun u => Q (u.1) (u.2)) :=
  ph_metV (by decide) (Nat.le_of_ble_eq_true rfl) (fun p e s m args below meth c Q0 A C hret => w_F_walk (X := (p, l, e, ({ frames := 2, cells := 0, slots := 0, locals := 45 } : Room), s, m, args, below, meth, c, Q0, D, cI, cZ, A)) C a_F a_pr a_lf a_rg a_nx a_fd pr lf fd wt fl fp x1 x2 Q hret h)
set_option maxRecDepth 20000 in
theorem k_F_walk {X : ph_X} {own : String} {cc : ByteArray} {nL : Nat} {rm : Room} {ws : va_W} {lv : List (Nat × Value)} {pc : Nat} {st : List Value} {kc ks : Nat} {idx : Nat} (C : ph_C X own cc nL rm) (a_F a_pr a_lf a_rg a_nx a_fd : Nat) (pr : Int → Int) (lf : Int → Int) (fd : Int → Int) (wt : Int) (fl : Int) (fp : Int) (x1 : Int) (x2 : Int) (Q : (Int → Int) → (Int) → Prop) (h : F_walk_wp pr lf fd fl x1 x2 Q) (hlink : Cond.methodLink own idx y_F_walk ∈ ph_T) (hR : (kc ≤ rm.cells ∧ ks ≤ rm.slots ∧ 2 + 1 ≤ rm.frames) ∧ 8 + (5 + 11) + 45 ≤ rm.locals) (isC isR perm : List Nat) {wr : va_W} {ws2 : (Int → Int) → (Int) → va_W} (hC : isC.map (fun i => ws[i]?) = ([(a_F, .inr (0, [.ref a_pr, .ref a_lf, .ref a_rg, .ref a_nx, .ref a_fd, .int (ph_J wt), .int (ph_J fl), .int (ph_J fp)])), (a_pr, .inl ((ph_cI X), 144, .inl (ph_f pr))), (a_lf, .inl ((ph_cI X), 144, .inl (ph_f lf))), (a_fd, .inl ((ph_cI X), 144, .inl (ph_f fd)))] : va_W).map some) (hRs : isR.map (fun i => ws[i]?) = wr.map some) (hnc : va_nd isC = true) (hnr : va_nd isR = true) (hdis : ∀ i ∈ isR, i ∉ isC) (hnp : va_nd perm = true) (hp : ∀ (fd' : Int → Int) (fl' : Int) , perm.map (fun i => (wr ++ [(a_F, .inr (0, [.ref a_pr, .ref a_lf, .ref a_rg, .ref a_nx, .ref a_fd, .int (ph_J wt), .int (ph_J fl'), .int (ph_J fp)])), (a_pr, .inl ((ph_cI X), 144, .inl (ph_f pr))), (a_lf, .inl ((ph_cI X), 144, .inl (ph_f lf))), (a_fd, .inl ((ph_cI X), 144, .inl (ph_f fd')))])[i]?) = (ws2 fd' fl').map some) (hroom : (st.map fun v => v.category).sum ≤ 8) (hdg : decode cc pc = .ok (.invokevirtual idx, 3)) (kk : ∀ (fd' : Int → Int) (fl' : Int) , Q fd' fl' → ph_G X kc ks (ws2 fd' fl') nL lv (pc + 3) st) : ph_G X kc ks ws nL lv pc (.int (ph_J x2) :: .int (ph_J x1) :: .ref a_F :: st) :=
  ph_callVv C (n := 2) (c_F_walk (ph_l X) (ph_D X) (ph_cI X) (ph_cZ X) a_F a_pr a_lf a_rg a_nx a_fd pr lf fd wt fl fp x1 x2 Q h) hlink q_265 q_4 q_38 q_266 ⟨by decide, by decide, by decide +kernel⟩ ⟨⟨rfl, rfl⟩, hR.1.2.2, hR.2⟩ ⟨hR.1.1, hR.1.2.1⟩ 0 rfl rfl rfl isC isR perm (ws2 := fun u => ws2 (u.1) (u.2)) hC hRs hnc hnr hdis hnp (fun u => hp (u.1) (u.2)) rfl hroom hdg (fun u h2 => kk  (u.1) (u.2) h2)
set_option maxRecDepth 20000 in
theorem w_F_find {X : ph_X} (C : ph_C X "PipeHouse$Floor" b_F_find 3 ({ frames := 4, cells := 0, slots := 0, locals := 94 } : Room)) (a_F a_pr a_lf a_rg a_nx a_fd : Nat) (pr : Int → Int) (lf : Int → Int) (rg : Int → Int) (nx : Int → Int) (fd : Int → Int) (wt : Int) (fl : Int) (fp : Int) (x1 : Int) (x2 : Int) (Q : Int → (Int → Int) → (Int → Int) → (Int → Int) → (Int → Int) → (Int) → (Int) → (Int) → Prop) (hret : ph_RI X b_F_find 3 true (S := (Int → Int) × (Int → Int) × (Int → Int) × (Int → Int) × (Int) × (Int) × (Int)) (fun u => [(a_F, .inr (0, [.ref a_pr, .ref a_lf, .ref a_rg, .ref a_nx, .ref a_fd, .int (ph_J (u.2.2.2.2.1)), .int (ph_J (u.2.2.2.2.2.1)), .int (ph_J (u.2.2.2.2.2.2))])), (a_pr, .inl ((ph_cI X), 144, .inl (ph_f pr))), (a_lf, .inl ((ph_cI X), 144, .inl (ph_f (u.1)))), (a_rg, .inl ((ph_cI X), 10, .inl (ph_f (u.2.1)))), (a_nx, .inl ((ph_cI X), 144, .inl (ph_f (u.2.2.1)))), (a_fd, .inl ((ph_cI X), 144, .inl (ph_f (u.2.2.2.1))))]) (fun r u => Q r (u.1) (u.2.1) (u.2.2.1) (u.2.2.2.1) (u.2.2.2.2.1) (u.2.2.2.2.2.1) (u.2.2.2.2.2.2))) (h : F_find_wp pr lf rg nx fd wt fl fp x1 x2 Q) : ph_G X 0 0 [(a_F, .inr (0, [.ref a_pr, .ref a_lf, .ref a_rg, .ref a_nx, .ref a_fd, .int (ph_J wt), .int (ph_J fl), .int (ph_J fp)])), (a_pr, .inl ((ph_cI X), 144, .inl (ph_f pr))), (a_lf, .inl ((ph_cI X), 144, .inl (ph_f lf))), (a_rg, .inl ((ph_cI X), 10, .inl (ph_f rg))), (a_nx, .inl ((ph_cI X), 144, .inl (ph_f nx))), (a_fd, .inl ((ph_cI X), 144, .inl (ph_f fd)))] 3 [(0, .ref a_F), (1, .int (ph_J x1)), (2, .int (ph_J x2))] 0 [] := by
  unfold F_find_wp at h
  refine ph_aload_n C d_F_find_0 rfl 0 rfl ?_
  refine ph_iconst C (n := 0) d_F_find_1 rfl ?_
  refine pf_F_fl C d_F_find_2 0 rfl (Nat.le_of_ble_eq_true rfl) (ws2 := [(a_F, .inr (0, [.ref a_pr, .ref a_lf, .ref a_rg, .ref a_nx, .ref a_fd, .int (ph_J wt), .int (ph_J 0), .int (ph_J fp)])), (a_pr, .inl ((ph_cI X), 144, .inl (ph_f pr))), (a_lf, .inl ((ph_cI X), 144, .inl (ph_f lf))), (a_rg, .inl ((ph_cI X), 10, .inl (ph_f rg))), (a_nx, .inl ((ph_cI X), 144, .inl (ph_f nx))), (a_fd, .inl ((ph_cI X), 144, .inl (ph_f fd)))]) rfl ?_
  refine ph_aload_n C d_F_find_5 rfl 0 rfl ?_
  refine ph_iload_n C d_F_find_6 rfl 2 rfl ?_
  refine k_F_searchBackFrom C a_F a_pr a_lf a_rg a_nx a_fd pr lf rg nx wt 0 fp x2 _ h q_243 ⟨by decide, Nat.le_of_ble_eq_true rfl⟩ [0, 1, 2, 3, 4] [5] [1, 2, 3, 4, 5, 0] (wr := [(a_fd, .inl ((ph_cI X), 144, .inl (ph_f fd)))]) (ws2 := fun lf_7 rg_7 nx_7 wt_7 => [(a_F, .inr (0, [.ref a_pr, .ref a_lf, .ref a_rg, .ref a_nx, .ref a_fd, .int (ph_J wt_7), .int (ph_J 0), .int (ph_J fp)])), (a_pr, .inl ((ph_cI X), 144, .inl (ph_f pr))), (a_lf, .inl ((ph_cI X), 144, .inl (ph_f lf_7))), (a_rg, .inl ((ph_cI X), 10, .inl (ph_f rg_7))), (a_nx, .inl ((ph_cI X), 144, .inl (ph_f nx_7))), (a_fd, .inl ((ph_cI X), 144, .inl (ph_f fd)))]) rfl rfl (by decide) (by decide) (by decide) (by decide) (fun _ _ _ _ => rfl) (Nat.le_of_ble_eq_true rfl) d_F_find_7 (fun lf_7 rg_7 nx_7 wt_7 h => ?_)
  show ph_G X 0 0 [(a_F, .inr (0, [.ref a_pr, .ref a_lf, .ref a_rg, .ref a_nx, .ref a_fd, .int (ph_J wt_7), .int (ph_J 0), .int (ph_J fp)])), (a_pr, .inl ((ph_cI X), 144, .inl (ph_f pr))), (a_lf, .inl ((ph_cI X), 144, .inl (ph_f lf_7))), (a_rg, .inl ((ph_cI X), 10, .inl (ph_f rg_7))), (a_nx, .inl ((ph_cI X), 144, .inl (ph_f nx_7))), (a_fd, .inl ((ph_cI X), 144, .inl (ph_f fd)))] 3 [(0, .ref a_F), (1, .int (ph_J x1)), (2, .int (ph_J x2))] 10 []
  refine ph_aload_n C d_F_find_10 rfl 0 rfl ?_
  refine gf_F_lf C d_F_find_11 0 rfl rfl ?_
  refine ph_iload_n C d_F_find_14 rfl 1 rfl ?_
  refine ph_iald C d_F_find_15 2 rfl rfl (Nat.le_of_ble_eq_true rfl) h (fun h => ?_)
  refine ph_ldc C (x := 1073741824) q_247 (by decide) d_F_find_16 ?_
  refine ph_icmp_ne C (tgt := 23) d_F_find_18 (by decide) h (fun h => ?_) (fun h => ?_)
  · refine ph_aload_n C d_F_find_23 rfl 0 rfl ?_
    refine ph_aload_n C d_F_find_24 rfl 0 rfl ?_
    refine gf_F_lf C d_F_find_25 0 rfl rfl ?_
    refine ph_iload_n C d_F_find_28 rfl 1 rfl ?_
    refine ph_iald C d_F_find_29 2 rfl rfl (Nat.le_of_ble_eq_true rfl) h (fun h => ?_)
    refine ph_sipush C (n := 256) d_F_find_30 (by decide) ?_
    refine ph_idiv C d_F_find_33 h (fun h => ?_)
    refine ph_top C h (fun fp_34 e_fp_34 h => ?_)
    refine pf_F_fp C d_F_find_34 0 rfl (Nat.le_of_ble_eq_true rfl) (ws2 := [(a_F, .inr (0, [.ref a_pr, .ref a_lf, .ref a_rg, .ref a_nx, .ref a_fd, .int (ph_J wt_7), .int (ph_J 0), .int (ph_J fp_34)])), (a_pr, .inl ((ph_cI X), 144, .inl (ph_f pr))), (a_lf, .inl ((ph_cI X), 144, .inl (ph_f lf_7))), (a_rg, .inl ((ph_cI X), 10, .inl (ph_f rg_7))), (a_nx, .inl ((ph_cI X), 144, .inl (ph_f nx_7))), (a_fd, .inl ((ph_cI X), 144, .inl (ph_f fd)))]) rfl ?_
    refine ph_aload_n C d_F_find_37 rfl 0 rfl ?_
    refine ph_iload_n C d_F_find_38 rfl 1 rfl ?_
    refine ph_iload_n C d_F_find_39 rfl 2 rfl ?_
    refine k_F_walk C a_F a_pr a_lf a_rg a_nx a_fd pr lf_7 fd wt_7 0 fp_34 x1 x2 _ h q_263 ⟨by decide, Nat.le_of_ble_eq_true rfl⟩ [0, 1, 2, 5] [3, 4] [2, 3, 4, 0, 1, 5] (wr := [(a_rg, .inl ((ph_cI X), 10, .inl (ph_f rg_7))), (a_nx, .inl ((ph_cI X), 144, .inl (ph_f nx_7)))]) (ws2 := fun fd_40 fl_40 => [(a_F, .inr (0, [.ref a_pr, .ref a_lf, .ref a_rg, .ref a_nx, .ref a_fd, .int (ph_J wt_7), .int (ph_J fl_40), .int (ph_J fp_34)])), (a_pr, .inl ((ph_cI X), 144, .inl (ph_f pr))), (a_lf, .inl ((ph_cI X), 144, .inl (ph_f lf_7))), (a_rg, .inl ((ph_cI X), 10, .inl (ph_f rg_7))), (a_nx, .inl ((ph_cI X), 144, .inl (ph_f nx_7))), (a_fd, .inl ((ph_cI X), 144, .inl (ph_f fd_40)))]) rfl rfl (by decide) (by decide) (by decide) (by decide) (fun _ _ => rfl) (Nat.le_of_ble_eq_true rfl) d_F_find_40 (fun fd_40 fl_40 h => ?_)
    show ph_G X 0 0 [(a_F, .inr (0, [.ref a_pr, .ref a_lf, .ref a_rg, .ref a_nx, .ref a_fd, .int (ph_J wt_7), .int (ph_J fl_40), .int (ph_J fp_34)])), (a_pr, .inl ((ph_cI X), 144, .inl (ph_f pr))), (a_lf, .inl ((ph_cI X), 144, .inl (ph_f lf_7))), (a_rg, .inl ((ph_cI X), 10, .inl (ph_f rg_7))), (a_nx, .inl ((ph_cI X), 144, .inl (ph_f nx_7))), (a_fd, .inl ((ph_cI X), 144, .inl (ph_f fd_40)))] 3 [(0, .ref a_F), (1, .int (ph_J x1)), (2, .int (ph_J x2))] 43 []
    refine ph_iconst C (n := 1) d_F_find_43 rfl ?_
    exact hret _ _ _ (lf_7, rg_7, nx_7, fd_40, wt_7, fl_40, fp_34) d_F_find_44 (fun _ => h.1) h.2
  · refine ph_iconst C (n := 0) d_F_find_21 rfl ?_
    exact hret _ _ _ (lf_7, rg_7, nx_7, fd, wt_7, 0, fp) d_F_find_22 (fun _ => h.1) h.2
set_option maxRecDepth 20000 in
theorem c_F_find (l : Launch) (D : va_G) (cI cZ : ClassId) (a_F a_pr a_lf a_rg a_nx a_fd : Nat) (pr : Int → Int) (lf : Int → Int) (rg : Int → Int) (nx : Int → Int) (fd : Int → Int) (wt : Int) (fl : Int) (fp : Int) (x1 : Int) (x2 : Int) (Q : Int → (Int → Int) → (Int → Int) → (Int → Int) → (Int → Int) → (Int) → (Int) → (Int) → Prop) (h : F_find_wp pr lf rg nx fd wt fl fp x1 x2 Q) : ph_Con l D cI cZ y_F_find b_F_find 3 .boolean ({ frames := 4, cells := 0, slots := 0, locals := 94 } : Room) [.ref a_F, .int (ph_J x1), .int (ph_J x2)] [(a_F, .inr (0, [.ref a_pr, .ref a_lf, .ref a_rg, .ref a_nx, .ref a_fd, .int (ph_J wt), .int (ph_J fl), .int (ph_J fp)])), (a_pr, .inl (cI, 144, .inl (ph_f pr))), (a_lf, .inl (cI, 144, .inl (ph_f lf))), (a_rg, .inl (cI, 10, .inl (ph_f rg))), (a_nx, .inl (cI, 144, .inl (ph_f nx))), (a_fd, .inl (cI, 144, .inl (ph_f fd)))] (S := (Int → Int) × (Int → Int) × (Int → Int) × (Int → Int) × (Int) × (Int) × (Int)) (fun u => [(a_F, .inr (0, [.ref a_pr, .ref a_lf, .ref a_rg, .ref a_nx, .ref a_fd, .int (ph_J (u.2.2.2.2.1)), .int (ph_J (u.2.2.2.2.2.1)), .int (ph_J (u.2.2.2.2.2.2))])), (a_pr, .inl (cI, 144, .inl (ph_f pr))), (a_lf, .inl (cI, 144, .inl (ph_f (u.1)))), (a_rg, .inl (cI, 10, .inl (ph_f (u.2.1)))), (a_nx, .inl (cI, 144, .inl (ph_f (u.2.2.1)))), (a_fd, .inl (cI, 144, .inl (ph_f (u.2.2.2.1))))]) (fun r u => Q r (u.1) (u.2.1) (u.2.2.1) (u.2.2.2.1) (u.2.2.2.2.1) (u.2.2.2.2.2.1) (u.2.2.2.2.2.2)) :=
  ph_met (bt := true) (Or.inr ⟨rfl, rfl⟩) (by decide) ⟨rfl, rfl⟩ (Nat.le_of_ble_eq_true rfl) (fun p e s m args below meth c Q0 A C hret => w_F_find (X := (p, l, e, ({ frames := 4, cells := 0, slots := 0, locals := 94 } : Room), s, m, args, below, meth, c, Q0, D, cI, cZ, A)) C a_F a_pr a_lf a_rg a_nx a_fd pr lf rg nx fd wt fl fp x1 x2 Q hret h)
set_option maxRecDepth 20000 in
theorem k_F_find {X : ph_X} {own : String} {cc : ByteArray} {nL : Nat} {rm : Room} {ws : va_W} {lv : List (Nat × Value)} {pc : Nat} {st : List Value} {kc ks : Nat} {idx : Nat} (C : ph_C X own cc nL rm) (a_F a_pr a_lf a_rg a_nx a_fd : Nat) (pr : Int → Int) (lf : Int → Int) (rg : Int → Int) (nx : Int → Int) (fd : Int → Int) (wt : Int) (fl : Int) (fp : Int) (x1 : Int) (x2 : Int) (Q : Int → (Int → Int) → (Int → Int) → (Int → Int) → (Int → Int) → (Int) → (Int) → (Int) → Prop) (h : F_find_wp pr lf rg nx fd wt fl fp x1 x2 Q) (hlink : Cond.methodLink own idx y_F_find ∈ ph_T) (hR : (kc ≤ rm.cells ∧ ks ≤ rm.slots ∧ 4 + 1 ≤ rm.frames) ∧ 8 + (3 + 11) + 94 ≤ rm.locals) (isC isR perm : List Nat) {wr : va_W} {ws2 : (Int → Int) → (Int → Int) → (Int → Int) → (Int → Int) → (Int) → (Int) → (Int) → va_W} (hC : isC.map (fun i => ws[i]?) = ([(a_F, .inr (0, [.ref a_pr, .ref a_lf, .ref a_rg, .ref a_nx, .ref a_fd, .int (ph_J wt), .int (ph_J fl), .int (ph_J fp)])), (a_pr, .inl ((ph_cI X), 144, .inl (ph_f pr))), (a_lf, .inl ((ph_cI X), 144, .inl (ph_f lf))), (a_rg, .inl ((ph_cI X), 10, .inl (ph_f rg))), (a_nx, .inl ((ph_cI X), 144, .inl (ph_f nx))), (a_fd, .inl ((ph_cI X), 144, .inl (ph_f fd)))] : va_W).map some) (hRs : isR.map (fun i => ws[i]?) = wr.map some) (hnc : va_nd isC = true) (hnr : va_nd isR = true) (hdis : ∀ i ∈ isR, i ∉ isC) (hnp : va_nd perm = true) (hp : ∀ (lf' : Int → Int) (rg' : Int → Int) (nx' : Int → Int) (fd' : Int → Int) (wt' : Int) (fl' : Int) (fp' : Int) , perm.map (fun i => (wr ++ [(a_F, .inr (0, [.ref a_pr, .ref a_lf, .ref a_rg, .ref a_nx, .ref a_fd, .int (ph_J wt'), .int (ph_J fl'), .int (ph_J fp')])), (a_pr, .inl ((ph_cI X), 144, .inl (ph_f pr))), (a_lf, .inl ((ph_cI X), 144, .inl (ph_f lf'))), (a_rg, .inl ((ph_cI X), 10, .inl (ph_f rg'))), (a_nx, .inl ((ph_cI X), 144, .inl (ph_f nx'))), (a_fd, .inl ((ph_cI X), 144, .inl (ph_f fd')))])[i]?) = (ws2 lf' rg' nx' fd' wt' fl' fp').map some) (hroom : (st.map fun v => v.category).sum ≤ 8) (hdg : decode cc pc = .ok (.invokevirtual idx, 3)) (kk : ∀ (r : Int) (lf' : Int → Int) (rg' : Int → Int) (nx' : Int → Int) (fd' : Int → Int) (wt' : Int) (fl' : Int) (fp' : Int) , Q r lf' rg' nx' fd' wt' fl' fp' → ph_G X kc ks (ws2 lf' rg' nx' fd' wt' fl' fp') nL lv (pc + 3) (.int (ph_J r) :: st)) : ph_G X kc ks ws nL lv pc (.int (ph_J x2) :: .int (ph_J x1) :: .ref a_F :: st) :=
  ph_callV C (n := 2) (c_F_find (ph_l X) (ph_D X) (ph_cI X) (ph_cZ X) a_F a_pr a_lf a_rg a_nx a_fd pr lf rg nx fd wt fl fp x1 x2 Q h) hlink q_240 q_241 q_38 q_242 ⟨by decide, by decide, by decide +kernel⟩ ⟨⟨rfl, rfl⟩, hR.1.2.2, hR.2⟩ ⟨hR.1.1, hR.1.2.1⟩ 0 rfl rfl rfl isC isR perm (ws2 := fun u => ws2 (u.1) (u.2.1) (u.2.2.1) (u.2.2.2.1) (u.2.2.2.2.1) (u.2.2.2.2.2.1) (u.2.2.2.2.2.2)) hC hRs hnc hnr hdis hnp (fun u => hp (u.1) (u.2.1) (u.2.2.1) (u.2.2.2.1) (u.2.2.2.2.1) (u.2.2.2.2.2.1) (u.2.2.2.2.2.2)) rfl hroom hdg (fun r u h2 => kk r (u.1) (u.2.1) (u.2.2.1) (u.2.2.2.1) (u.2.2.2.2.1) (u.2.2.2.2.2.1) (u.2.2.2.2.2.2) h2)
set_option maxRecDepth 20000 in
theorem w_F_foundPrice {X : ph_X} (C : ph_C X "PipeHouse$Floor" b_F_foundPrice 1 ({ frames := 0, cells := 0, slots := 0, locals := 0 } : Room)) (a_F a_pr a_lf a_rg a_nx a_fd : Nat) (wt : Int) (fl : Int) (fp : Int) (Q : Int → Prop) (hret : ph_RI X b_F_foundPrice 1 false (S := Unit) (fun _ => [(a_F, .inr (0, [.ref a_pr, .ref a_lf, .ref a_rg, .ref a_nx, .ref a_fd, .int (ph_J wt), .int (ph_J fl), .int (ph_J fp)]))]) (fun r _ => Q r)) (h : F_foundPrice_wp fp Q) : ph_G X 0 0 [(a_F, .inr (0, [.ref a_pr, .ref a_lf, .ref a_rg, .ref a_nx, .ref a_fd, .int (ph_J wt), .int (ph_J fl), .int (ph_J fp)]))] 1 [(0, .ref a_F)] 0 [] := by
  unfold F_foundPrice_wp at h
  refine ph_aload_n C d_F_foundPrice_0 rfl 0 rfl ?_
  refine gf_F_fp C d_F_foundPrice_1 0 rfl rfl ?_
  exact hret _ _ _ () d_F_foundPrice_4 (fun z => absurd z (by decide)) h
set_option maxRecDepth 20000 in
theorem c_F_foundPrice (l : Launch) (D : va_G) (cI cZ : ClassId) (a_F a_pr a_lf a_rg a_nx a_fd : Nat) (wt : Int) (fl : Int) (fp : Int) (Q : Int → Prop) (h : F_foundPrice_wp fp Q) : ph_Con l D cI cZ y_F_foundPrice b_F_foundPrice 1 .int ({ frames := 0, cells := 0, slots := 0, locals := 0 } : Room) [.ref a_F] [(a_F, .inr (0, [.ref a_pr, .ref a_lf, .ref a_rg, .ref a_nx, .ref a_fd, .int (ph_J wt), .int (ph_J fl), .int (ph_J fp)]))] (S := Unit) (fun _ => [(a_F, .inr (0, [.ref a_pr, .ref a_lf, .ref a_rg, .ref a_nx, .ref a_fd, .int (ph_J wt), .int (ph_J fl), .int (ph_J fp)]))]) (fun r _ => Q r) :=
  ph_met (bt := false) (Or.inl ⟨rfl, rfl⟩) (by decide) ⟨rfl, rfl⟩ (Nat.le_of_ble_eq_true rfl) (fun p e s m args below meth c Q0 A C hret => w_F_foundPrice (X := (p, l, e, ({ frames := 0, cells := 0, slots := 0, locals := 0 } : Room), s, m, args, below, meth, c, Q0, D, cI, cZ, A)) C a_F a_pr a_lf a_rg a_nx a_fd wt fl fp Q hret h)
set_option maxRecDepth 20000 in
theorem k_F_foundPrice {X : ph_X} {own : String} {cc : ByteArray} {nL : Nat} {rm : Room} {ws : va_W} {lv : List (Nat × Value)} {pc : Nat} {st : List Value} {kc ks : Nat} {idx : Nat} (C : ph_C X own cc nL rm) (a_F a_pr a_lf a_rg a_nx a_fd : Nat) (wt : Int) (fl : Int) (fp : Int) (Q : Int → Prop) (h : F_foundPrice_wp fp Q) (hlink : Cond.methodLink own idx y_F_foundPrice ∈ ph_T) (hR : (kc ≤ rm.cells ∧ ks ≤ rm.slots ∧ 0 + 1 ≤ rm.frames) ∧ 8 + (1 + 11) + 0 ≤ rm.locals) (isC isR perm : List Nat) {wr : va_W} {ws2 : va_W} (hC : isC.map (fun i => ws[i]?) = ([(a_F, .inr (0, [.ref a_pr, .ref a_lf, .ref a_rg, .ref a_nx, .ref a_fd, .int (ph_J wt), .int (ph_J fl), .int (ph_J fp)]))] : va_W).map some) (hRs : isR.map (fun i => ws[i]?) = wr.map some) (hnc : va_nd isC = true) (hnr : va_nd isR = true) (hdis : ∀ i ∈ isR, i ∉ isC) (hnp : va_nd perm = true) (hp : perm.map (fun i => (wr ++ [(a_F, .inr (0, [.ref a_pr, .ref a_lf, .ref a_rg, .ref a_nx, .ref a_fd, .int (ph_J wt), .int (ph_J fl), .int (ph_J fp)]))])[i]?) = (ws2 ).map some) (hroom : (st.map fun v => v.category).sum ≤ 8) (hdg : decode cc pc = .ok (.invokevirtual idx, 3)) (kk : ∀ (r : Int) , Q r → ph_G X kc ks (ws2 ) nL lv (pc + 3) (.int (ph_J r) :: st)) : ph_G X kc ks ws nL lv pc (.ref a_F :: st) :=
  ph_callV C (n := 0) (c_F_foundPrice (ph_l X) (ph_D X) (ph_cI X) (ph_cZ X) a_F a_pr a_lf a_rg a_nx a_fd wt fl fp Q h) hlink q_272 q_273 q_38 q_274 ⟨by decide, by decide, by decide +kernel⟩ ⟨⟨rfl, rfl⟩, hR.1.2.2, hR.2⟩ ⟨hR.1.1, hR.1.2.1⟩ 0 rfl rfl rfl isC isR perm (ws2 := fun _ => ws2) hC hRs hnc hnr hdis hnp (fun _ => hp) rfl hroom hdg (fun r u h2 => kk r  h2)
set_option maxRecDepth 20000 in
theorem w_F_foundLength {X : ph_X} (C : ph_C X "PipeHouse$Floor" b_F_foundLength 1 ({ frames := 0, cells := 0, slots := 0, locals := 0 } : Room)) (a_F a_pr a_lf a_rg a_nx a_fd : Nat) (wt : Int) (fl : Int) (fp : Int) (Q : Int → Prop) (hret : ph_RI X b_F_foundLength 1 false (S := Unit) (fun _ => [(a_F, .inr (0, [.ref a_pr, .ref a_lf, .ref a_rg, .ref a_nx, .ref a_fd, .int (ph_J wt), .int (ph_J fl), .int (ph_J fp)]))]) (fun r _ => Q r)) (h : F_foundLength_wp fl Q) : ph_G X 0 0 [(a_F, .inr (0, [.ref a_pr, .ref a_lf, .ref a_rg, .ref a_nx, .ref a_fd, .int (ph_J wt), .int (ph_J fl), .int (ph_J fp)]))] 1 [(0, .ref a_F)] 0 [] := by
  unfold F_foundLength_wp at h
  refine ph_aload_n C d_F_foundLength_0 rfl 0 rfl ?_
  refine gf_F_fl C d_F_foundLength_1 0 rfl rfl ?_
  exact hret _ _ _ () d_F_foundLength_4 (fun z => absurd z (by decide)) h
set_option maxRecDepth 20000 in
theorem c_F_foundLength (l : Launch) (D : va_G) (cI cZ : ClassId) (a_F a_pr a_lf a_rg a_nx a_fd : Nat) (wt : Int) (fl : Int) (fp : Int) (Q : Int → Prop) (h : F_foundLength_wp fl Q) : ph_Con l D cI cZ y_F_foundLength b_F_foundLength 1 .int ({ frames := 0, cells := 0, slots := 0, locals := 0 } : Room) [.ref a_F] [(a_F, .inr (0, [.ref a_pr, .ref a_lf, .ref a_rg, .ref a_nx, .ref a_fd, .int (ph_J wt), .int (ph_J fl), .int (ph_J fp)]))] (S := Unit) (fun _ => [(a_F, .inr (0, [.ref a_pr, .ref a_lf, .ref a_rg, .ref a_nx, .ref a_fd, .int (ph_J wt), .int (ph_J fl), .int (ph_J fp)]))]) (fun r _ => Q r) :=
  ph_met (bt := false) (Or.inl ⟨rfl, rfl⟩) (by decide) ⟨rfl, rfl⟩ (Nat.le_of_ble_eq_true rfl) (fun p e s m args below meth c Q0 A C hret => w_F_foundLength (X := (p, l, e, ({ frames := 0, cells := 0, slots := 0, locals := 0 } : Room), s, m, args, below, meth, c, Q0, D, cI, cZ, A)) C a_F a_pr a_lf a_rg a_nx a_fd wt fl fp Q hret h)
set_option maxRecDepth 20000 in
theorem k_F_foundLength {X : ph_X} {own : String} {cc : ByteArray} {nL : Nat} {rm : Room} {ws : va_W} {lv : List (Nat × Value)} {pc : Nat} {st : List Value} {kc ks : Nat} {idx : Nat} (C : ph_C X own cc nL rm) (a_F a_pr a_lf a_rg a_nx a_fd : Nat) (wt : Int) (fl : Int) (fp : Int) (Q : Int → Prop) (h : F_foundLength_wp fl Q) (hlink : Cond.methodLink own idx y_F_foundLength ∈ ph_T) (hR : (kc ≤ rm.cells ∧ ks ≤ rm.slots ∧ 0 + 1 ≤ rm.frames) ∧ 8 + (1 + 11) + 0 ≤ rm.locals) (isC isR perm : List Nat) {wr : va_W} {ws2 : va_W} (hC : isC.map (fun i => ws[i]?) = ([(a_F, .inr (0, [.ref a_pr, .ref a_lf, .ref a_rg, .ref a_nx, .ref a_fd, .int (ph_J wt), .int (ph_J fl), .int (ph_J fp)]))] : va_W).map some) (hRs : isR.map (fun i => ws[i]?) = wr.map some) (hnc : va_nd isC = true) (hnr : va_nd isR = true) (hdis : ∀ i ∈ isR, i ∉ isC) (hnp : va_nd perm = true) (hp : perm.map (fun i => (wr ++ [(a_F, .inr (0, [.ref a_pr, .ref a_lf, .ref a_rg, .ref a_nx, .ref a_fd, .int (ph_J wt), .int (ph_J fl), .int (ph_J fp)]))])[i]?) = (ws2 ).map some) (hroom : (st.map fun v => v.category).sum ≤ 8) (hdg : decode cc pc = .ok (.invokevirtual idx, 3)) (kk : ∀ (r : Int) , Q r → ph_G X kc ks (ws2 ) nL lv (pc + 3) (.int (ph_J r) :: st)) : ph_G X kc ks ws nL lv pc (.ref a_F :: st) :=
  ph_callV C (n := 0) (c_F_foundLength (ph_l X) (ph_D X) (ph_cI X) (ph_cZ X) a_F a_pr a_lf a_rg a_nx a_fd wt fl fp Q h) hlink q_320 q_321 q_38 q_322 ⟨by decide, by decide, by decide +kernel⟩ ⟨⟨rfl, rfl⟩, hR.1.2.2, hR.2⟩ ⟨hR.1.1, hR.1.2.1⟩ 0 rfl rfl rfl isC isR perm (ws2 := fun _ => ws2) hC hRs hnc hnr hdis hnp (fun _ => hp) rfl hroom hdg (fun r u h2 => kk r  h2)
set_option maxRecDepth 20000 in
theorem w_F_foundCell {X : ph_X} (C : ph_C X "PipeHouse$Floor" b_F_foundCell 2 ({ frames := 0, cells := 0, slots := 0, locals := 0 } : Room)) (a_F a_pr a_lf a_rg a_nx a_fd : Nat) (fd : Int → Int) (wt : Int) (fl : Int) (fp : Int) (x1 : Int) (Q : Int → Prop) (hret : ph_RI X b_F_foundCell 2 false (S := Unit) (fun _ => [(a_F, .inr (0, [.ref a_pr, .ref a_lf, .ref a_rg, .ref a_nx, .ref a_fd, .int (ph_J wt), .int (ph_J fl), .int (ph_J fp)])), (a_fd, .inl ((ph_cI X), 144, .inl (ph_f fd)))]) (fun r _ => Q r)) (h : F_foundCell_wp fd fl x1 Q) : ph_G X 0 0 [(a_F, .inr (0, [.ref a_pr, .ref a_lf, .ref a_rg, .ref a_nx, .ref a_fd, .int (ph_J wt), .int (ph_J fl), .int (ph_J fp)])), (a_fd, .inl ((ph_cI X), 144, .inl (ph_f fd)))] 2 [(0, .ref a_F), (1, .int (ph_J x1))] 0 [] := by
  unfold F_foundCell_wp at h
  refine ph_iload_n C d_F_foundCell_0 rfl 1 rfl ?_
  refine ph_if_lt C (tgt := 21) d_F_foundCell_1 (by decide) h (fun h => ?_) (fun h => ?_)
  · refine ph_iconst C (n := (-1)) d_F_foundCell_21 rfl ?_
    exact hret _ _ _ () d_F_foundCell_22 (fun z => absurd z (by decide)) h
  · refine ph_iload_n C d_F_foundCell_4 rfl 1 rfl ?_
    refine ph_aload_n C d_F_foundCell_5 rfl 0 rfl ?_
    refine gf_F_fl C d_F_foundCell_6 0 rfl rfl ?_
    refine ph_icmp_ge C (tgt := 21) d_F_foundCell_9 (by decide) h (fun h => ?_) (fun h => ?_)
    · refine ph_iconst C (n := (-1)) d_F_foundCell_21 rfl ?_
      exact hret _ _ _ () d_F_foundCell_22 (fun z => absurd z (by decide)) h
    · refine ph_aload_n C d_F_foundCell_12 rfl 0 rfl ?_
      refine gf_F_fd C d_F_foundCell_13 0 rfl rfl ?_
      refine ph_iload_n C d_F_foundCell_16 rfl 1 rfl ?_
      refine ph_iald C d_F_foundCell_17 1 rfl rfl (Nat.le_of_ble_eq_true rfl) h (fun h => ?_)
      refine ph_goto C (tgt := 22) d_F_foundCell_18 (by decide) ?_
      exact hret _ _ _ () d_F_foundCell_22 (fun z => absurd z (by decide)) h
set_option maxRecDepth 20000 in
theorem c_F_foundCell (l : Launch) (D : va_G) (cI cZ : ClassId) (a_F a_pr a_lf a_rg a_nx a_fd : Nat) (fd : Int → Int) (wt : Int) (fl : Int) (fp : Int) (x1 : Int) (Q : Int → Prop) (h : F_foundCell_wp fd fl x1 Q) : ph_Con l D cI cZ y_F_foundCell b_F_foundCell 2 .int ({ frames := 0, cells := 0, slots := 0, locals := 0 } : Room) [.ref a_F, .int (ph_J x1)] [(a_F, .inr (0, [.ref a_pr, .ref a_lf, .ref a_rg, .ref a_nx, .ref a_fd, .int (ph_J wt), .int (ph_J fl), .int (ph_J fp)])), (a_fd, .inl (cI, 144, .inl (ph_f fd)))] (S := Unit) (fun _ => [(a_F, .inr (0, [.ref a_pr, .ref a_lf, .ref a_rg, .ref a_nx, .ref a_fd, .int (ph_J wt), .int (ph_J fl), .int (ph_J fp)])), (a_fd, .inl (cI, 144, .inl (ph_f fd)))]) (fun r _ => Q r) :=
  ph_met (bt := false) (Or.inl ⟨rfl, rfl⟩) (by decide) ⟨rfl, rfl⟩ (Nat.le_of_ble_eq_true rfl) (fun p e s m args below meth c Q0 A C hret => w_F_foundCell (X := (p, l, e, ({ frames := 0, cells := 0, slots := 0, locals := 0 } : Room), s, m, args, below, meth, c, Q0, D, cI, cZ, A)) C a_F a_pr a_lf a_rg a_nx a_fd fd wt fl fp x1 Q hret h)
set_option maxRecDepth 20000 in
theorem k_F_foundCell {X : ph_X} {own : String} {cc : ByteArray} {nL : Nat} {rm : Room} {ws : va_W} {lv : List (Nat × Value)} {pc : Nat} {st : List Value} {kc ks : Nat} {idx : Nat} (C : ph_C X own cc nL rm) (a_F a_pr a_lf a_rg a_nx a_fd : Nat) (fd : Int → Int) (wt : Int) (fl : Int) (fp : Int) (x1 : Int) (Q : Int → Prop) (h : F_foundCell_wp fd fl x1 Q) (hlink : Cond.methodLink own idx y_F_foundCell ∈ ph_T) (hR : (kc ≤ rm.cells ∧ ks ≤ rm.slots ∧ 0 + 1 ≤ rm.frames) ∧ 8 + (2 + 11) + 0 ≤ rm.locals) (isC isR perm : List Nat) {wr : va_W} {ws2 : va_W} (hC : isC.map (fun i => ws[i]?) = ([(a_F, .inr (0, [.ref a_pr, .ref a_lf, .ref a_rg, .ref a_nx, .ref a_fd, .int (ph_J wt), .int (ph_J fl), .int (ph_J fp)])), (a_fd, .inl ((ph_cI X), 144, .inl (ph_f fd)))] : va_W).map some) (hRs : isR.map (fun i => ws[i]?) = wr.map some) (hnc : va_nd isC = true) (hnr : va_nd isR = true) (hdis : ∀ i ∈ isR, i ∉ isC) (hnp : va_nd perm = true) (hp : perm.map (fun i => (wr ++ [(a_F, .inr (0, [.ref a_pr, .ref a_lf, .ref a_rg, .ref a_nx, .ref a_fd, .int (ph_J wt), .int (ph_J fl), .int (ph_J fp)])), (a_fd, .inl ((ph_cI X), 144, .inl (ph_f fd)))])[i]?) = (ws2 ).map some) (hroom : (st.map fun v => v.category).sum ≤ 8) (hdg : decode cc pc = .ok (.invokevirtual idx, 3)) (kk : ∀ (r : Int) , Q r → ph_G X kc ks (ws2 ) nL lv (pc + 3) (.int (ph_J r) :: st)) : ph_G X kc ks ws nL lv pc (.int (ph_J x1) :: .ref a_F :: st) :=
  ph_callV C (n := 1) (c_F_foundCell (ph_l X) (ph_D X) (ph_cI X) (ph_cZ X) a_F a_pr a_lf a_rg a_nx a_fd fd wt fl fp x1 Q h) hlink q_280 q_281 q_38 q_282 ⟨by decide, by decide, by decide +kernel⟩ ⟨⟨rfl, rfl⟩, hR.1.2.2, hR.2⟩ ⟨hR.1.1, hR.1.2.1⟩ 0 rfl rfl rfl isC isR perm (ws2 := fun _ => ws2) hC hRs hnc hnr hdis hnp (fun _ => hp) rfl hroom hdg (fun r u h2 => kk r  h2)
