def ph_PB (D : va_G) (cI cZ : ClassId) (w0 : va_W) (sz : Nat) : State → Prop := fun U => U.heap.size = sz ∧ va_P D classes w0 U.heap ∧ va_K D classes (ph_ty cI cZ) U ∧ va_D (fun _ => True) w0 ∧ ph_Zs (va_A w0 sz) U U.heap
def ph_PE (D : va_G) (cI cZ : ClassId) (w0 : va_W) (sz : Nat) {S : Type} (wf : S → va_W) : S → State → Prop := fun u t => va_P D classes (wf u) t.heap ∧ va_K D classes (ph_ty cI cZ) t ∧ va_D (va_A w0 sz) (wf u)
def ph_Con (l : Launch) (D : va_G) (cI cZ : ClassId) (y : MethodName) (cc : ByteArray) (maxL : Nat) (ret : FieldType) (rm : Room) (av : List Value) (w0 : va_W) {S : Type} (wf : S → va_W) (post : Int → S → Prop) : Prop :=
  ∀ sz : Nat, Met l y (Cond.code y cc maxL (some ret) :: ph_T) rm (va_Pc av (ph_PB D cI cZ w0 sz)) (va_Qi (fun (r : Int32) (u : S) => ∃ x : Int, r = ph_J x ∧ post x u) (ph_PE D cI cZ w0 sz wf) (va_A w0 sz)) 0 0 (va_A w0 sz)
def ph_CoV (l : Launch) (D : va_G) (cI cZ : ClassId) (y : MethodName) (cc : ByteArray) (maxL : Nat) (rm : Room) (av : List Value) (w0 : va_W) {S : Type} (wf : S → va_W) (post : S → Prop) : Prop :=
  ∀ sz : Nat, Met l y (Cond.code y cc maxL none :: ph_T) rm (va_Pc av (ph_PB D cI cZ w0 sz)) (va_Qv (fun (u : S) => post u) (ph_PE D cI cZ w0 sz wf) (va_A w0 sz)) 0 0 (va_A w0 sz)
def ph_RI (X : ph_X) (cc : ByteArray) (nL : Nat) (bt : Bool) {S : Type} (wf : S → va_W) (post : Int → S → Prop) : Prop :=
  ∀ (pc : Nat) (lv : List (Nat × Value)) (r : Int) (u : S), decode cc pc = .ok (.ireturn, 1) → (bt = true → r = 0 ∨ r = 1) → post r u → ph_G X 0 0 (wf u) nL lv pc [.int (ph_J r)]
def ph_RV (X : ph_X) (cc : ByteArray) (nL : Nat) {S : Type} (wf : S → va_W) (post : S → Prop) : Prop :=
  ∀ (pc : Nat) (lv : List (Nat × Value)) (u : S), decode cc pc = .ok (.return_, 1) → post u → ph_G X 0 0 (wf u) nL lv pc []
theorem ph_blind {D : va_G} {cI cZ : ClassId} {w0 : va_W} {sz : Nat} {av : List Value} : FrameBlind (va_Pc av (ph_PB D cI cZ w0 sz)) := by
  intro a U g mk q
  obtain ⟨q0, q1, q2, q3, q4, q5⟩ := q
  exact ⟨q0, q1, q2, va_K.moved (u := U) (U := U.calling g mk a) (Vm.Alike.refl U.vm) q3, q4, ph_Zs_to (u := U) (U := U.calling g mk a) q5 (Vm.Alike.refl U.vm) (fun _ _ _ => rfl) (fun _ h => h)⟩
theorem ph_met {l : Launch} {D : va_G} {cI cZ : ClassId} {y : MethodName} {cc : ByteArray} {maxL : Nat} {ret : FieldType} {bt : Bool} {rm : Room} {av : List Value} {w0 : va_W} {S : Type} {wf : S → va_W} {post : Int → S → Prop} (hret : (ret = .int ∧ bt = false) ∨ (ret = .boolean ∧ bt = true)) (hy : plainName y.cls = true) (hrc : rm.cells = 0 ∧ rm.slots = 0) (hav : (lg_sl av).length ≤ maxL)
    (body : ∀ (p : Program) (e : Env) (s : State) (m : MethodId) (args : Array Value) (below : List Frame) (meth : Method) (c : Code) (Q : State → Prop) (A : Nat → Prop), ph_C (p, l, e, rm, s, m, args, below, meth, c, Q, D, cI, cZ, A) y.cls cc maxL rm → ph_RI (p, l, e, rm, s, m, args, below, meth, c, Q, D, cI, cZ, A) cc maxL bt wf post → ph_G (p, l, e, rm, s, m, args, below, meth, c, Q, D, cI, cZ, A) 0 0 w0 maxL (lv_args 0 av) 0 []) : ph_Con l D cI cZ y cc maxL ret rm av w0 wf post := by
  intro sz
  refine Met.ofW (cc := cc) (maxL := maxL) (ret := some ret) hy rfl ?_
  intro p e s m args below meth c s₁ B hml hv
  obtain ⟨rfl, hsz, hP, hK, hD0, hZ⟩ := hv
  have hx := B.exec
  have hb := B.bytes
  have hr := B.returns
  have hts0 := atoms_spec (ws := Cond.code y cc maxL (some ret) :: ph_T) B.pre
  have hts : ∀ w ∈ ph_T, w.before av.toArray s = true := fun w h => hts0 w (List.mem_cons_of_mem _ h)
  have hown : s.vm.findClass y.cls = some m.cls := findClass_of_methodNamed B.named
  have hlocks := B.notSynchronized
  subst hsz
  have hA : ∀ q : Nat, s.heap.size ≤ q → va_A w0 s.heap.size q := fun q h => Or.inr h
  have hS : va_S (va_A w0 s.heap.size) s.heap s.heap [] := va_S.rf
  have hl := lv_entry av (n := maxL) hav
  rw [lg_entry_eq]
  refine body p e s m av.toArray below meth c _ (va_A w0 s.heap.size) ⟨hx, hb, hml, hown, hts, hK, hA, hZ, rfl⟩ ?_ s.heap [] _ hP (hD0.self (sz := s.heap.size)) hS hl
  intro pc lv r u hdg hbt hpost H locs ls hP hD hS hv
  have hq : ∀ t : State, t.heap = H → s.WarmedH t.vm → va_Qi (fun (r : Int32) (u : S) => ∃ x : Int, r = ph_J x ∧ post x u) (ph_PE D cI cZ w0 s.heap.size wf) (va_A w0 s.heap.size) av.toArray s (.returned (some (.int (ph_J r)))) t := fun t ht hW => ⟨⟨ph_J r, u, rfl, ⟨r, rfl, hpost⟩, by rw [ht]; exact hP, va_K.moved hW.alike hK, hD⟩, hS.F ht⟩
  rcases hret with ⟨h1, h2⟩ | ⟨h1, h2⟩
  · subst h1
    exact W.iret hx hb hr hq hS.2.2 hdg
  · subst h1
    refine W.zret hx hb hr ?_ hq hS.2.2 hdg
    rcases hbt h2 with h3 | h3 <;> subst h3 <;> decide
theorem ph_metV {l : Launch} {D : va_G} {cI cZ : ClassId} {y : MethodName} {cc : ByteArray} {maxL : Nat} {rm : Room} {av : List Value} {w0 : va_W} {S : Type} {wf : S → va_W} {post : S → Prop} (hy : plainName y.cls = true) (hav : (lg_sl av).length ≤ maxL)
    (body : ∀ (p : Program) (e : Env) (s : State) (m : MethodId) (args : Array Value) (below : List Frame) (meth : Method) (c : Code) (Q : State → Prop) (A : Nat → Prop), ph_C (p, l, e, rm, s, m, args, below, meth, c, Q, D, cI, cZ, A) y.cls cc maxL rm → ph_RV (p, l, e, rm, s, m, args, below, meth, c, Q, D, cI, cZ, A) cc maxL wf post → ph_G (p, l, e, rm, s, m, args, below, meth, c, Q, D, cI, cZ, A) 0 0 w0 maxL (lv_args 0 av) 0 []) : ph_CoV l D cI cZ y cc maxL rm av w0 wf post := by
  intro sz
  refine Met.ofW (cc := cc) (maxL := maxL) (ret := none) hy rfl ?_
  intro p e s m args below meth c s₁ B hml hv
  obtain ⟨rfl, hsz, hP, hK, hD0, hZ⟩ := hv
  have hx := B.exec
  have hb := B.bytes
  have hr := B.returns
  have hts0 := atoms_spec (ws := Cond.code y cc maxL none :: ph_T) B.pre
  have hts : ∀ w ∈ ph_T, w.before av.toArray s = true := fun w h => hts0 w (List.mem_cons_of_mem _ h)
  have hown : s.vm.findClass y.cls = some m.cls := findClass_of_methodNamed B.named
  have hlocks := B.notSynchronized
  subst hsz
  have hA : ∀ q : Nat, s.heap.size ≤ q → va_A w0 s.heap.size q := fun q h => Or.inr h
  have hS : va_S (va_A w0 s.heap.size) s.heap s.heap [] := va_S.rf
  have hl := lv_entry av (n := maxL) hav
  rw [lg_entry_eq]
  refine body p e s m av.toArray below meth c _ (va_A w0 s.heap.size) ⟨hx, hb, hml, hown, hts, hK, hA, hZ, rfl⟩ ?_ s.heap [] _ hP (hD0.self (sz := s.heap.size)) hS hl
  intro pc lv u hdg hpost H locs ls hP hD hS hv
  have hq : ∀ t : State, t.heap = H → s.WarmedH t.vm → va_Qv (fun (u : S) => post u) (ph_PE D cI cZ w0 s.heap.size wf) (va_A w0 s.heap.size) av.toArray s (.returned none) t := fun t ht hW => ⟨⟨u, rfl, hpost, by rw [ht]; exact hP, va_K.moved hW.alike hK, hD⟩, hS.F ht⟩
  exact W.vret hx hb hr hq hS.2.2 hdg
section PHC
variable {X : ph_X} {own : String} {cc : ByteArray} {nL : Nat} {rm : Room} {ws : va_W} {lv : List (Nat × Value)} {pc : Nat} {st st0 : List Value} {kc ks : Nat}
theorem ph_callV (C : ph_C X own cc nL rm) {y : MethodName} {bytes : ByteArray} {maxL idx n b ci : Nat} {ret : FieldType} {rm2 : Room} {As : List Value} {wc : va_W} {S : Type} {wf : S → va_W} {post : Int → S → Prop} (M : ph_Con (ph_l X) (ph_D X) (ph_cI X) (ph_cZ X) y bytes maxL ret rm2 (.ref b :: As) wc wf post)
    (hlink : Cond.methodLink own idx y ∈ ph_T) (hinst : Cond.instanceMethod y ∈ ph_T) (hsel : Cond.selects y.cls y y ∈ ph_T) (hini : Cond.initialized y.cls ∈ ph_T) (hcode : Cond.code y bytes maxL (some ret) ∈ ph_T)
    (hd : y.cls ≠ "java/lang/invoke/MethodHandle" ∧ y.cls ≠ "java/lang/invoke/VarHandle" ∧ (parseMethodDescriptor y.desc).map (fun d => d.parameters.length) = some n) (hR : (rm2.cells = 0 ∧ rm2.slots = 0) ∧ rm2.frames + 1 ≤ rm.frames ∧ 8 + (maxL + 11) + rm2.locals ≤ rm.locals) (hkc : kc ≤ rm.cells ∧ ks ≤ rm.slots)
    (j : Nat) {T : u_T} {N : Nat} {fs : List Value} (hrc : wc[j]? = some (b, .inr (ci, fs))) (hcl : classes[ci]? = some (y.cls, T, N)) (hn : As.length = n)
    (isC isR perm : List Nat) {wr : va_W} {ws2 : S → va_W} (hC : isC.map (fun i => ws[i]?) = wc.map some) (hRs : isR.map (fun i => ws[i]?) = wr.map some) (hnc : va_nd isC = true) (hnr : va_nd isR = true) (hdis : ∀ i ∈ isR, i ∉ isC) (hnp : va_nd perm = true) (hp : ∀ u, perm.map (fun i => (wr ++ wf u)[i]?) = (ws2 u).map some)
    (hst : st0 = As.reverse ++ .ref b :: st) (hroom : (st.map fun v => v.category).sum ≤ 8) (hdg : decode cc pc = .ok (.invokevirtual idx, 3))
    (kk : ∀ (r : Int) (u : S), post r u → ph_G X kc ks (ws2 u) nL lv (pc + 3) (.int (ph_J r) :: st)) : ph_G X kc ks ws nL lv pc st0 := by
  obtain ⟨p, l, e, R, s, m, args, below, meth, c, Q, D, cI, cZ, A⟩ := X
  obtain ⟨hx, hb, hml, hown, hts, hK, hA, hZ, hRm⟩ := C
  replace hRm : R = rm := hRm
  subst hRm
  intro H locs ls hP hD hS hv
  have hPc := hP.sub isC (ph_fm hC)
  have hDc := hD.sub isC hnc hC
  have hFc := va_free hD hS hA isC hC
  have hgood : GoodIn ph_T (wsV own idx y.cls y (Cond.code y bytes maxL (some ret) :: ph_T)) := ph_goodIn (fun _ h => h) (fun w hw => by
    rcases List.mem_append.mp hw with h | h
    · simp only [List.mem_cons, List.not_mem_nil, or_false] at h
      rcases h with rfl | rfl | rfl | rfl
      · exact hlink
      · exact hinst
      · exact hsel
      · exact hini
    · rcases List.mem_cons.mp h with rfl | h
      · exact hcode
      · exact h)
  subst hst
  refine va_calli (va_runV (As := As) (rest := st) ⟨hx, hb, hml, hown, hts⟩ (M H.size) (cwV n hts hgood rfl hR.1.1 hR.1.2 ⟨rfl, hd.1, hd.2.1, hd.2.2⟩ ⟨hR.2.1, hR.2.2⟩) ⟨ph_blind, va_recv hK hPc hcl hrc, fun U hU hW => ⟨rfl, by rw [hU], by rw [hU]; exact hPc, va_K.moved hW.alike hK, hDc.weaken (fun _ _ _ _ => trivial), ?_⟩⟩ rfl hn hv.1 rfl (lv_room hroom) hdg ⟨by simpa using hkc.1, by simpa using hkc.2⟩) hS (fun q _ h => hFc q h) hFc (fun r u t H1 locs1 ht hvm hw hB hz1 hk1 hS => ?_)
  · rw [hU]
    exact ph_Zs_to hZ hW.alike hS.2.1 hFc
  · obtain ⟨x, rfl, hw⟩ := hw
    obtain ⟨hP1, hK1, hD1⟩ := hB
    rw [ht] at hP1
    obtain ⟨hP, hD⟩ := va_join hP hD isC isR hC hRs hnr hdis hk1 hFc hP1 hD1
    exact kk x u hw H1 locs1 ls (hP.sub perm (ph_fm (hp u))) (hD.sub perm hnp (hp u)) hS hv
theorem ph_callVv (C : ph_C X own cc nL rm) {y : MethodName} {bytes : ByteArray} {maxL idx n b ci : Nat} {rm2 : Room} {As : List Value} {wc : va_W} {S : Type} {wf : S → va_W} {post : S → Prop} (M : ph_CoV (ph_l X) (ph_D X) (ph_cI X) (ph_cZ X) y bytes maxL rm2 (.ref b :: As) wc wf post)
    (hlink : Cond.methodLink own idx y ∈ ph_T) (hinst : Cond.instanceMethod y ∈ ph_T) (hsel : Cond.selects y.cls y y ∈ ph_T) (hini : Cond.initialized y.cls ∈ ph_T) (hcode : Cond.code y bytes maxL none ∈ ph_T)
    (hd : y.cls ≠ "java/lang/invoke/MethodHandle" ∧ y.cls ≠ "java/lang/invoke/VarHandle" ∧ (parseMethodDescriptor y.desc).map (fun d => d.parameters.length) = some n) (hR : (rm2.cells = 0 ∧ rm2.slots = 0) ∧ rm2.frames + 1 ≤ rm.frames ∧ 8 + (maxL + 11) + rm2.locals ≤ rm.locals) (hkc : kc ≤ rm.cells ∧ ks ≤ rm.slots)
    (j : Nat) {T : u_T} {N : Nat} {fs : List Value} (hrc : wc[j]? = some (b, .inr (ci, fs))) (hcl : classes[ci]? = some (y.cls, T, N)) (hn : As.length = n)
    (isC isR perm : List Nat) {wr : va_W} {ws2 : S → va_W} (hC : isC.map (fun i => ws[i]?) = wc.map some) (hRs : isR.map (fun i => ws[i]?) = wr.map some) (hnc : va_nd isC = true) (hnr : va_nd isR = true) (hdis : ∀ i ∈ isR, i ∉ isC) (hnp : va_nd perm = true) (hp : ∀ u, perm.map (fun i => (wr ++ wf u)[i]?) = (ws2 u).map some)
    (hst : st0 = As.reverse ++ .ref b :: st) (hroom : (st.map fun v => v.category).sum ≤ 8) (hdg : decode cc pc = .ok (.invokevirtual idx, 3))
    (kk : ∀ (u : S), post u → ph_G X kc ks (ws2 u) nL lv (pc + 3) st) : ph_G X kc ks ws nL lv pc st0 := by
  obtain ⟨p, l, e, R, s, m, args, below, meth, c, Q, D, cI, cZ, A⟩ := X
  obtain ⟨hx, hb, hml, hown, hts, hK, hA, hZ, hRm⟩ := C
  replace hRm : R = rm := hRm
  subst hRm
  intro H locs ls hP hD hS hv
  have hPc := hP.sub isC (ph_fm hC)
  have hDc := hD.sub isC hnc hC
  have hFc := va_free hD hS hA isC hC
  have hgood : GoodIn ph_T (wsV own idx y.cls y (Cond.code y bytes maxL none :: ph_T)) := ph_goodIn (fun _ h => h) (fun w hw => by
    rcases List.mem_append.mp hw with h | h
    · simp only [List.mem_cons, List.not_mem_nil, or_false] at h
      rcases h with rfl | rfl | rfl | rfl
      · exact hlink
      · exact hinst
      · exact hsel
      · exact hini
    · rcases List.mem_cons.mp h with rfl | h
      · exact hcode
      · exact h)
  subst hst
  refine va_callv (va_runV (As := As) (rest := st) ⟨hx, hb, hml, hown, hts⟩ (M H.size) (cwV n hts hgood rfl hR.1.1 hR.1.2 ⟨rfl, hd.1, hd.2.1, hd.2.2⟩ ⟨hR.2.1, hR.2.2⟩) ⟨ph_blind, va_recv hK hPc hcl hrc, fun U hU hW => ⟨rfl, by rw [hU], by rw [hU]; exact hPc, va_K.moved hW.alike hK, hDc.weaken (fun _ _ _ _ => trivial), ?_⟩⟩ rfl hn hv.1 rfl (lv_room hroom) hdg ⟨by simpa using hkc.1, by simpa using hkc.2⟩) hS (fun q _ h => hFc q h) hFc (fun u t H1 locs1 ht hvm hw hB hz1 hk1 hS => ?_)
  · rw [hU]
    exact ph_Zs_to hZ hW.alike hS.2.1 hFc
  · obtain ⟨hP1, hK1, hD1⟩ := hB
    rw [ht] at hP1
    obtain ⟨hP, hD⟩ := va_join hP hD isC isR hC hRs hnr hdis hk1 hFc hP1 hD1
    exact kk u hw H1 locs1 ls (hP.sub perm (ph_fm (hp u))) (hD.sub perm hnp (hp u)) hS hv
theorem ph_callS (C : ph_C X own cc nL rm) {y : MethodName} {bytes : ByteArray} {maxL idx n : Nat} {ret : FieldType} {rm2 : Room} {As : List Value} {wc : va_W} {S : Type} {wf : S → va_W} {post : Int → S → Prop} (M : ph_Con (ph_l X) (ph_D X) (ph_cI X) (ph_cZ X) y bytes maxL ret rm2 As wc wf post)
    (hlink : Cond.methodLink own idx y ∈ ph_T) (hinst : Cond.static y ∈ ph_T) (hini : Cond.initialized y.cls ∈ ph_T) (hcode : Cond.code y bytes maxL (some ret) ∈ ph_T)
    (hd : y.cls ≠ "java/lang/invoke/MethodHandle" ∧ y.cls ≠ "java/lang/invoke/VarHandle" ∧ (parseMethodDescriptor y.desc).map (fun d => d.parameters.length) = some n) (hR : (rm2.cells = 0 ∧ rm2.slots = 0) ∧ rm2.frames + 1 ≤ rm.frames ∧ 8 + (maxL + 11) + rm2.locals ≤ rm.locals) (hkc : kc ≤ rm.cells ∧ ks ≤ rm.slots)
    (hn : As.length = n)
    (isC isR perm : List Nat) {wr : va_W} {ws2 : S → va_W} (hC : isC.map (fun i => ws[i]?) = wc.map some) (hRs : isR.map (fun i => ws[i]?) = wr.map some) (hnc : va_nd isC = true) (hnr : va_nd isR = true) (hdis : ∀ i ∈ isR, i ∉ isC) (hnp : va_nd perm = true) (hp : ∀ u, perm.map (fun i => (wr ++ wf u)[i]?) = (ws2 u).map some)
    (hst : st0 = As.reverse ++ st) (hroom : (st.map fun v => v.category).sum ≤ 8) (hdg : decode cc pc = .ok (.invokestatic idx, 3))
    (kk : ∀ (r : Int) (u : S), post r u → ph_G X kc ks (ws2 u) nL lv (pc + 3) (.int (ph_J r) :: st)) : ph_G X kc ks ws nL lv pc st0 := by
  obtain ⟨p, l, e, R, s, m, args, below, meth, c, Q, D, cI, cZ, A⟩ := X
  obtain ⟨hx, hb, hml, hown, hts, hK, hA, hZ, hRm⟩ := C
  replace hRm : R = rm := hRm
  subst hRm
  intro H locs ls hP hD hS hv
  have hPc := hP.sub isC (ph_fm hC)
  have hDc := hD.sub isC hnc hC
  have hFc := va_free hD hS hA isC hC
  have hgood : GoodIn ph_T (va_wsS own idx y (Cond.code y bytes maxL (some ret) :: ph_T)) := ph_goodIn (fun _ h => h) (fun w hw => by
    rcases List.mem_append.mp hw with h | h
    · simp only [List.mem_cons, List.not_mem_nil, or_false] at h
      rcases h with rfl | rfl | rfl
      · exact hlink
      · exact hinst
      · exact hini
    · rcases List.mem_cons.mp h with rfl | h
      · exact hcode
      · exact h)
  subst hst
  refine va_calli (va_runS (As := As) (rest := st) ⟨hx, hb, hml, hown, hts⟩ (M H.size) (va_cwS n hts hgood rfl hR.1.1 hR.1.2 ⟨hd.1, hd.2.1, hd.2.2⟩ ⟨hR.2.1, hR.2.2⟩) ⟨ph_blind, fun U hU hW => ⟨rfl, by rw [hU], by rw [hU]; exact hPc, va_K.moved hW.alike hK, hDc.weaken (fun _ _ _ _ => trivial), ?_⟩⟩ rfl hn hv.1 rfl (lv_room hroom) hdg ⟨by simpa using hkc.1, by simpa using hkc.2⟩) hS (fun q _ h => hFc q h) hFc (fun r u t H1 locs1 ht hvm hw hB hz1 hk1 hS => ?_)
  · rw [hU]
    exact ph_Zs_to hZ hW.alike hS.2.1 hFc
  · obtain ⟨x, rfl, hw⟩ := hw
    obtain ⟨hP1, hK1, hD1⟩ := hB
    rw [ht] at hP1
    obtain ⟨hP, hD⟩ := va_join hP hD isC isR hC hRs hnr hdis hk1 hFc hP1 hD1
    exact kk x u hw H1 locs1 ls (hP.sub perm (ph_fm (hp u))) (hD.sub perm hnp (hp u)) hS hv
theorem ph_callSv (C : ph_C X own cc nL rm) {y : MethodName} {bytes : ByteArray} {maxL idx n : Nat} {rm2 : Room} {As : List Value} {wc : va_W} {S : Type} {wf : S → va_W} {post : S → Prop} (M : ph_CoV (ph_l X) (ph_D X) (ph_cI X) (ph_cZ X) y bytes maxL rm2 As wc wf post)
    (hlink : Cond.methodLink own idx y ∈ ph_T) (hinst : Cond.static y ∈ ph_T) (hini : Cond.initialized y.cls ∈ ph_T) (hcode : Cond.code y bytes maxL none ∈ ph_T)
    (hd : y.cls ≠ "java/lang/invoke/MethodHandle" ∧ y.cls ≠ "java/lang/invoke/VarHandle" ∧ (parseMethodDescriptor y.desc).map (fun d => d.parameters.length) = some n) (hR : (rm2.cells = 0 ∧ rm2.slots = 0) ∧ rm2.frames + 1 ≤ rm.frames ∧ 8 + (maxL + 11) + rm2.locals ≤ rm.locals) (hkc : kc ≤ rm.cells ∧ ks ≤ rm.slots)
    (hn : As.length = n)
    (isC isR perm : List Nat) {wr : va_W} {ws2 : S → va_W} (hC : isC.map (fun i => ws[i]?) = wc.map some) (hRs : isR.map (fun i => ws[i]?) = wr.map some) (hnc : va_nd isC = true) (hnr : va_nd isR = true) (hdis : ∀ i ∈ isR, i ∉ isC) (hnp : va_nd perm = true) (hp : ∀ u, perm.map (fun i => (wr ++ wf u)[i]?) = (ws2 u).map some)
    (hst : st0 = As.reverse ++ st) (hroom : (st.map fun v => v.category).sum ≤ 8) (hdg : decode cc pc = .ok (.invokestatic idx, 3))
    (kk : ∀ (u : S), post u → ph_G X kc ks (ws2 u) nL lv (pc + 3) st) : ph_G X kc ks ws nL lv pc st0 := by
  obtain ⟨p, l, e, R, s, m, args, below, meth, c, Q, D, cI, cZ, A⟩ := X
  obtain ⟨hx, hb, hml, hown, hts, hK, hA, hZ, hRm⟩ := C
  replace hRm : R = rm := hRm
  subst hRm
  intro H locs ls hP hD hS hv
  have hPc := hP.sub isC (ph_fm hC)
  have hDc := hD.sub isC hnc hC
  have hFc := va_free hD hS hA isC hC
  have hgood : GoodIn ph_T (va_wsS own idx y (Cond.code y bytes maxL none :: ph_T)) := ph_goodIn (fun _ h => h) (fun w hw => by
    rcases List.mem_append.mp hw with h | h
    · simp only [List.mem_cons, List.not_mem_nil, or_false] at h
      rcases h with rfl | rfl | rfl
      · exact hlink
      · exact hinst
      · exact hini
    · rcases List.mem_cons.mp h with rfl | h
      · exact hcode
      · exact h)
  subst hst
  refine va_callv (va_runS (As := As) (rest := st) ⟨hx, hb, hml, hown, hts⟩ (M H.size) (va_cwS n hts hgood rfl hR.1.1 hR.1.2 ⟨hd.1, hd.2.1, hd.2.2⟩ ⟨hR.2.1, hR.2.2⟩) ⟨ph_blind, fun U hU hW => ⟨rfl, by rw [hU], by rw [hU]; exact hPc, va_K.moved hW.alike hK, hDc.weaken (fun _ _ _ _ => trivial), ?_⟩⟩ rfl hn hv.1 rfl (lv_room hroom) hdg ⟨by simpa using hkc.1, by simpa using hkc.2⟩) hS (fun q _ h => hFc q h) hFc (fun u t H1 locs1 ht hvm hw hB hz1 hk1 hS => ?_)
  · rw [hU]
    exact ph_Zs_to hZ hW.alike hS.2.1 hFc
  · obtain ⟨hP1, hK1, hD1⟩ := hB
    rw [ht] at hP1
    obtain ⟨hP, hD⟩ := va_join hP hD isC isR hC hRs hnr hdis hk1 hFc hP1 hD1
    exact kk u hw H1 locs1 ls (hP.sub perm (ph_fm (hp u))) (hD.sub perm hnp (hp u)) hS hv
end PHC
