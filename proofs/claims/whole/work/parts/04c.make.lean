def ph_CoN (l : Launch) (D : va_G) (cI cZ : ClassId) (y : MethodName) (cc : ByteArray) (maxL : Nat) (rm : Room) (av : List Value) (w0 : va_W) (E0 : State → Prop) (mc ms : Nat) {S : Type} (wf : S → va_W) (post : S → Prop) : Prop :=
  ∀ sz : Nat, Met l y (Cond.code y cc maxL none :: ph_T) rm (va_Pc av (fun U => ph_PB D cI cZ w0 sz U ∧ E0 U)) (va_Qv (fun (u : S) => post u) (ph_PE D cI cZ w0 sz wf) (va_A w0 sz)) mc ms (va_A w0 sz)
def ph_RN (X : ph_X) (cc : ByteArray) (nL : Nat) (mc ms : Nat) {S : Type} (wf : S → va_W) (post : S → Prop) : Prop :=
  ∀ (pc : Nat) (lv : List (Nat × Value)) (u : S), decode cc pc = .ok (.return_, 1) → post u → ph_G X mc ms (wf u) nL lv pc []
def ph_nm0 (X : ph_X) : Prop :=
  match X with
  | (_, _, _, _, _, _, _, _, meth, _, _, _, _, _, _) => meth.name = "<init>"
def ph_st (X : ph_X) (E0 : State → Prop) : Prop :=
  match X with
  | (_, _, _, _, s, _, _, _, _, _, _, _, _, _, _) => E0 s
def ph_sw (X : ph_X) (E0 : State → Prop) : Prop :=
  match X with
  | (_, _, _, _, s, _, _, _, _, _, _, _, _, _, _) => ∀ U : State, s.WarmedH U.vm → E0 U
theorem ph_blindN {D : va_G} {cI cZ : ClassId} {w0 : va_W} {sz : Nat} {av : List Value} {E0 : State → Prop} (hE : ∀ (U : State) (g : JFrame) (mk : MethodId) (a : Array Value), E0 U → E0 (U.calling g mk a)) : FrameBlind (va_Pc av (fun U => ph_PB D cI cZ w0 sz U ∧ E0 U)) := by
  intro a U g mk q
  exact ⟨q.1, (ph_blind (av := av) a U g mk ⟨q.1, q.2.1⟩).2, hE U g mk a q.2.2⟩
theorem ph_metN {l : Launch} {D : va_G} {cI cZ : ClassId} {y : MethodName} {cc : ByteArray} {maxL : Nat} {rm : Room} {av : List Value} {w0 : va_W} {E0 : State → Prop} {mc ms : Nat} {S : Type} {wf : S → va_W} {post : S → Prop} (hy : plainName y.cls = true) (hy2 : y.name = "<init>") (hav : (lg_sl av).length ≤ maxL)
    (body : ∀ (p : Program) (e : Env) (s : State) (m : MethodId) (args : Array Value) (below : List Frame) (meth : Method) (c : Code) (Q : State → Prop) (A : Nat → Prop), ph_C (p, l, e, rm, s, m, args, below, meth, c, Q, D, cI, cZ, A) y.cls cc maxL rm → ph_nm0 (p, l, e, rm, s, m, args, below, meth, c, Q, D, cI, cZ, A) → ph_st (p, l, e, rm, s, m, args, below, meth, c, Q, D, cI, cZ, A) E0 → ph_RN (p, l, e, rm, s, m, args, below, meth, c, Q, D, cI, cZ, A) cc maxL mc ms wf post → ph_G (p, l, e, rm, s, m, args, below, meth, c, Q, D, cI, cZ, A) 0 0 w0 maxL (lv_args 0 av) 0 []) : ph_CoN l D cI cZ y cc maxL rm av w0 E0 mc ms wf post := by
  intro sz
  refine Met.ofW (cc := cc) (maxL := maxL) (ret := none) hy rfl ?_
  intro p e s m args below meth c s₁ B hml hv
  obtain ⟨rfl, ⟨hsz, hP, hK, hD0, hZ⟩, hE⟩ := hv
  have hx := B.exec
  have hb := B.bytes
  have hr := B.returns
  have hts0 := atoms_spec (ws := Cond.code y cc maxL none :: ph_T) B.pre
  have hts : ∀ w ∈ ph_T, w.before av.toArray s = true := fun w h => hts0 w (List.mem_cons_of_mem _ h)
  have hown : s.vm.findClass y.cls = some m.cls := findClass_of_methodNamed B.named
  have hlocks := B.notSynchronized
  have hin : meth.name = "<init>" := (name_of_methodNamed B.named B.method).1.trans hy2
  subst hsz
  have hA : ∀ q : Nat, s.heap.size ≤ q → va_A w0 s.heap.size q := fun q h => Or.inr h
  have hS : va_S (va_A w0 s.heap.size) s.heap s.heap [] := va_S.rf
  have hl := lv_entry av (n := maxL) hav
  rw [lg_entry_eq]
  refine body p e s m av.toArray below meth c _ (va_A w0 s.heap.size) ⟨hx, hb, hml, hown, hts, hK, hA, hZ, rfl⟩ hin hE ?_ s.heap [] _ hP (hD0.self (sz := s.heap.size)) hS hl
  intro pc lv u hdg hpost H locs ls hP hD hS hv
  have hq : ∀ t : State, t.heap = H → s.WarmedH t.vm → va_Qv (fun (u : S) => post u) (ph_PE D cI cZ w0 s.heap.size wf) (va_A w0 s.heap.size) av.toArray s (.returned none) t := fun t ht hW => ⟨⟨u, rfl, hpost, by rw [ht]; exact hP, va_K.moved hW.alike hK, hD⟩, hS.F ht⟩
  exact W.vret hx hb hr hq hS.2.2 hdg
section PHN
variable {X : ph_X} {own : String} {cc : ByteArray} {nL : Nat} {rm : Room} {ws : va_W} {lv : List (Nat × Value)} {pc : Nat} {st st0 : List Value} {kc ks : Nat}
theorem ph_objInit (C : ph_C X own cc nL rm) {i a : Nat} (hlink : Cond.methodLink own i Lib.objectInit ∈ ph_T) (hinst : Cond.instanceMethod Lib.objectInit ∈ ph_T) (hcode : Cond.code Lib.objectInit ⟨#[0xb1]⟩ 1 none ∈ ph_T) (hfr : 1 ≤ rm.frames) (hlo : (st.map fun v => v.category).sum + 12 ≤ rm.locals) (hdg : decode cc pc = .ok (.invokespecial i, 3)) (kk : ph_G X kc ks ws nL lv (pc + 3) st) : ph_G X kc ks ws nL lv pc (.ref a :: st) := by
  obtain ⟨p, l, e, R, s, m, args, below, meth, c, Q, D, cI, cZ, A⟩ := X
  obtain ⟨hx, hb, hml, hown, hts, hK, hA, hZ, hRm⟩ := C
  replace hRm : R = rm := hRm
  subst hRm
  intro H locs ls hP hD hS hv
  refine W.objInit hx hb hown (hts _ hlink) (hts _ hinst) (hts _ hcode) rfl (by rw [hml]; exact hv.1) rfl hdg hfr (by show 2 * 0 + _ + 12 ≤ _; omega) ?_
  exact kk H locs ls hP hD hS hv
theorem ph_newI (C : ph_C X own cc nL rm) {n : Int} {N : Nat} {ws2 : Nat → va_W} (harr : Cond.arrayClass .int ∈ ph_T) (hn : n = (N : Int)) (hN : N ≤ 65536) (hkc : kc + 1 ≤ rm.cells) (hks : ks + N ≤ rm.slots) (hdg : decode cc pc = .ok (.newarray .int, 2)) (hw : ∀ q : Nat, ws ++ [(q, .inl (ph_cI X, N, .inl (ph_f (fun _ => 0))))] = ws2 q) (kk : ∀ q : Nat, ph_G X (kc + 1) (ks + N) (ws2 q) nL lv (pc + 2) (.ref q :: st)) : ph_G X kc ks ws nL lv pc (.int (ph_J n) :: st) := by
  obtain ⟨p, l, e, R, s, m, args, below, meth, c, Q, D, cI, cZ, A⟩ := X
  obtain ⟨hx, hb, hml, hown, hts, hK, hA, hZ, hRm⟩ := C
  replace hRm : R = rm := hRm
  subst hRm
  intro H locs ls hP hD hS hv
  subst hn
  have hN2 : (ph_J (N : Int)).toNatClampNeg = N := by
    have h := ph_J_cl (i := (N : Int)) (n := N + 1) ⟨by omega, by omega⟩ (by omega)
    omega
  have hn0 : ¬ ph_J (N : Int) < 0 := by
    have h := ph_J_lt (a := (N : Int)) (b := 0) ⟨by omega, by omega⟩ ⟨by decide, by decide⟩
    intro q
    have := h.mp q
    omega
  refine va_newa (atype := .int) hx hb (hts _ harr) (ty := .int) rfl hK hP hD hS hA (a0 := (N, .inl (ph_f (fun _ => 0)))) (fun _ => rfl) hn0 hN2 (by show N * 4 ≤ _; omega) hkc hks hdg (fun q cA H1 hK1 hP1 hD1 hS1 => ?_)
  have hc : cA = cI := by
    have h1 := (hK1.2 2 (cA, .int) rfl).2
    have h2 := (hK.2 0 (cI, .int) rfl).2
    exact Option.some.inj ((show s.vm.findClass _ = some cA from h1).symm.trans (show s.vm.findClass _ = some cI from h2))
  subst hc
  have hw2 := hw q
  dsimp only [ph_cI] at hw2
  rw [hw2] at hP1 hD1
  exact kk q H1 locs ls hP1 hD1 hS1 hv
theorem ph_newZ (C : ph_C X own cc nL rm) {n : Int} {N : Nat} {ws2 : Nat → va_W} (harr : Cond.arrayClass .boolean ∈ ph_T) (hn : n = (N : Int)) (hN : N ≤ 65536) (hkc : kc + 1 ≤ rm.cells) (hks : ks + N ≤ rm.slots) (hdg : decode cc pc = .ok (.newarray .boolean, 2)) (hw : ∀ q : Nat, ws ++ [(q, .inl (ph_cZ X, N, .inl (ph_f (fun _ => 0))))] = ws2 q) (kk : ∀ q : Nat, ph_G X (kc + 1) (ks + N) (ws2 q) nL lv (pc + 2) (.ref q :: st)) : ph_G X kc ks ws nL lv pc (.int (ph_J n) :: st) := by
  obtain ⟨p, l, e, R, s, m, args, below, meth, c, Q, D, cI, cZ, A⟩ := X
  obtain ⟨hx, hb, hml, hown, hts, hK, hA, hZ, hRm⟩ := C
  replace hRm : R = rm := hRm
  subst hRm
  intro H locs ls hP hD hS hv
  subst hn
  have hN2 : (ph_J (N : Int)).toNatClampNeg = N := by
    have h := ph_J_cl (i := (N : Int)) (n := N + 1) ⟨by omega, by omega⟩ (by omega)
    omega
  have hn0 : ¬ ph_J (N : Int) < 0 := by
    have h := ph_J_lt (a := (N : Int)) (b := 0) ⟨by omega, by omega⟩ ⟨by decide, by decide⟩
    intro q
    have := h.mp q
    omega
  refine va_newa (atype := .boolean) hx hb (hts _ harr) (ty := .boolean) rfl hK hP hD hS hA (a0 := (N, .inl (ph_f (fun _ => 0)))) (fun _ => rfl) hn0 hN2 (by show N * 1 ≤ _; omega) hkc hks hdg (fun q cA H1 hK1 hP1 hD1 hS1 => ?_)
  have hc : cA = cZ := by
    have h1 := (hK1.2 2 (cA, .boolean) rfl).2
    have h2 := (hK.2 1 (cZ, .boolean) rfl).2
    exact Option.some.inj ((show s.vm.findClass _ = some cA from h1).symm.trans (show s.vm.findClass _ = some cZ from h2))
  subst hc
  have hw2 := hw q
  dsimp only [ph_cZ] at hw2
  rw [hw2] at hP1 hD1
  exact kk q H1 locs ls hP1 hD1 hS1 hv
theorem ph_putF (C : ph_C X own cc nL rm) (h0 : ph_nm0 X) {C0 : String} {T : u_T} {N ci i a b : Nat} {fs : List Value} {ty : FieldType} (hin : ∀ w ∈ u_ws C0 T N, w ∈ ph_T) (ty0 : Nat → FieldType) (hty : ∀ k, k < N → parseFieldDescriptor (T k).2.2.1 = some (ty0 k)) (hnm : ∀ a, a < N → ∀ b, b < N → a ≠ b → (T a).2.1 ≠ (T b).2.1) (hc : classes[ci]? = some (C0, T, N)) (k : Nat) (hk : k < N) (hfin : (T k).2.2.2 = true) (hdecl : (T k).1 = own) (hd : parseFieldDescriptor (T k).2.2.1 = some ty) (hn : narrow ty (.ref b) = .ref b) (hfit : fits ty (.ref b) = true) (hlink : Cond.fieldLink own i (T k).1 (T k).2.1 (T k).2.2.1 ∈ ph_T) (hdg : decode cc pc = .ok (.putfield i, 3)) (q0 : Nat) (he : ws[q0]? = some (a, .inr (ci, fs))) (hl : k < fs.length) {ws2 : va_W} (hw : ws.set q0 (a, .inr (ci, fs.set k (.ref b))) = ws2) (kk : ph_G X kc ks ws2 nL lv (pc + 3) st) : ph_G X kc ks ws nL lv pc (.ref b :: .ref a :: st) := by
  obtain ⟨p, l, e, R, s, m, args, below, meth, c, Q, D, cI, cZ, A⟩ := X
  intro H locs ls hP hD hS hv
  subst hw
  exact va_putF C.1 C.2.1 C.2.2.2.2.1 hin ty0 hty hnm C.2.2.2.1 C.2.2.2.2.2.1 hP hD hS q0 he hc k hk (C.2.2.2.2.1 _ hlink) (fun _ h9 => h9) hfin h0 hdecl hd hn hfit hl hdg (fun H1 locs1 hP1 hD1 hS1 => kk H1 locs1 ls hP1 hD1 hS1 hv)
theorem ph_new (C : ph_C X own cc nL rm) {C0 : String} {T : u_T} {N ci i : Nat} {fs : List Value} (hin : ∀ w ∈ u_ws C0 T N, w ∈ ph_T) (ty : Nat → FieldType) (hty : ∀ k, k < N → parseFieldDescriptor (T k).2.2.1 = some (ty k)) (hcl : Cond.classLink own i C0 ∈ ph_T) (hinst : Cond.instantiable C0 N ∈ ph_T) (hini : Cond.initialized C0 ∈ ph_T) (hc : classes[ci]? = some (C0, T, N)) (hfs : ∀ j, j < N → defaultValue (ty j) = vp_V fs j) (hkc : kc + 1 ≤ rm.cells) (hks : ks + N ≤ rm.slots) (hdg : decode cc pc = .ok (.new i, 3)) {ws2 : Nat → va_W} (hw : ∀ q : Nat, ws ++ [(q, .inr (ci, fs))] = ws2 q) (kk : ∀ q : Nat, ph_G X (kc + 1) (ks + N) (ws2 q) nL lv (pc + 3) (.ref q :: st)) : ph_G X kc ks ws nL lv pc st := by
  obtain ⟨p, l, e, R, s, m, args, below, meth, c, Q, D, cI, cZ, A⟩ := X
  obtain ⟨hx, hb, hml, hown, hts, hK, hA, hZ, hRm⟩ := C
  replace hRm : R = rm := hRm
  subst hRm
  intro H locs ls hP hD hS hv
  refine va_new hx hb hts hin ty hty hown (hts _ hcl) (hts _ hinst) (hts _ hini) hK hP hD hS hA hc hfs hkc hks hdg (fun q H1 hP1 hD1 hS1 => ?_)
  rw [hw q] at hP1 hD1
  exact kk q H1 locs ls hP1 hD1 hS1 hv
theorem ph_callI (C : ph_C X own cc nL rm) {y : MethodName} {bytes : ByteArray} {maxL idx b mc ms : Nat} {rm2 : Room} {wc : va_W} {E0 : State → Prop} {S : Type} {wf : S → va_W} {post : S → Prop} (M : ph_CoN (ph_l X) (ph_D X) (ph_cI X) (ph_cZ X) y bytes maxL rm2 [.ref b] wc E0 mc ms wf post)
    (hEb : ∀ (U : State) (g : JFrame) (mk : MethodId) (a : Array Value), E0 U → E0 (U.calling g mk a)) (hE : ph_sw X E0)
    (hlink : Cond.methodLink own idx y ∈ ph_T) (hinst : Cond.instanceMethod y ∈ ph_T) (hini : Cond.initialized y.cls ∈ ph_T) (hcode : Cond.code y bytes maxL none ∈ ph_T) (hy1 : y.name = "<init>")
    (hd : y.cls ≠ "java/lang/invoke/MethodHandle" ∧ y.cls ≠ "java/lang/invoke/VarHandle" ∧ (parseMethodDescriptor y.desc).map (fun d => d.parameters.length) = some 0) (hR : (rm2.cells = mc ∧ rm2.slots = ms) ∧ rm2.frames + 1 ≤ rm.frames ∧ 8 + (maxL + 11) + rm2.locals ≤ rm.locals) (hkc : kc + mc ≤ rm.cells ∧ ks + ms ≤ rm.slots)
    (isC isR : List Nat) {wr : va_W} {ws2 : S → va_W} (hC : isC.map (fun i => ws[i]?) = wc.map some) (hRs : isR.map (fun i => ws[i]?) = wr.map some) (hnc : va_nd isC = true) (hnr : va_nd isR = true) (hdis : ∀ i ∈ isR, i ∉ isC) (hp : ∀ u, wr ++ wf u = ws2 u)
    (hroom : (st.map fun v => v.category).sum ≤ 8) (hdg : decode cc pc = .ok (.invokespecial idx, 3))
    (kk : ∀ (u : S), post u → ph_G X (kc + mc) (ks + ms) (ws2 u) nL lv (pc + 3) st) : ph_G X kc ks ws nL lv pc (.ref b :: st) := by
  obtain ⟨p, l, e, R, s, m, args, below, meth, c, Q, D, cI, cZ, A⟩ := X
  obtain ⟨hx, hb, hml, hown, hts, hK, hA, hZ, hRm⟩ := C
  replace hRm : R = rm := hRm
  subst hRm
  intro H locs ls hP hD hS hv
  have hPc := hP.sub isC (ph_fm hC)
  have hDc := hD.sub isC hnc hC
  have hFc := va_free hD hS hA isC hC
  have hgood : GoodIn ph_T (Cond.code y bytes maxL none :: ph_T) := ph_goodIn (fun _ h => h) (fun w hw => by
    rcases List.mem_cons.mp hw with rfl | h
    · exact hcode
    · exact h)
  refine va_callv (va_runI (As := []) (rest := st) ⟨hx, hb, hml, hown, hts⟩ (M H.size) (cwI 0 hts hgood rfl hR.1.1 hR.1.2 (hts _ hini) (hts _ hlink) (hts _ hinst) hy1 hd ⟨hR.2.1, hR.2.2⟩) ⟨ph_blindN hEb, fun U hU hW => ⟨rfl, ⟨by rw [hU], by rw [hU]; exact hPc, va_K.moved hW.alike hK, hDc.weaken (fun _ _ _ _ => trivial), ?_⟩, hE U hW⟩⟩ rfl rfl hv.1 rfl (lv_room hroom) hdg hkc) hS (fun q _ h => hFc q h) hFc (fun u t H1 locs1 ht hvm hw hB hz1 hk1 hS => ?_)
  · rw [hU]
    exact ph_Zs_to hZ hW.alike hS.2.1 hFc
  · obtain ⟨hP1, hK1, hD1⟩ := hB
    rw [ht] at hP1
    obtain ⟨hP, hD⟩ := va_join hP hD isC isR hC hRs hnr hdis hk1 hFc hP1 hD1
    rw [hp u] at hP hD
    exact kk u hw H1 locs1 ls hP hD hS hv
theorem ph_callIN (C : ph_C X own cc nL rm) {y : MethodName} {bytes : ByteArray} {maxL idx b mc ms : Nat} {host : String} {rm2 : Room} {wc : va_W} {E0 : State → Prop} {S : Type} {wf : S → va_W} {post : S → Prop} (M : ph_CoN (ph_l X) (ph_D X) (ph_cI X) (ph_cZ X) y bytes maxL rm2 [.ref b] wc E0 mc ms wf post)
    (hEb : ∀ (U : State) (g : JFrame) (mk : MethodId) (a : Array Value), E0 U → E0 (U.calling g mk a)) (hE : ph_sw X E0)
    (hlink : ph_st X (va_Nw (.methodLinkNest own idx y host))) (hinst : Cond.instanceMethod y ∈ ph_T) (hini : Cond.initialized y.cls ∈ ph_T) (hcode : Cond.code y bytes maxL none ∈ ph_T) (hy1 : y.name = "<init>")
    (hd : y.cls ≠ "java/lang/invoke/MethodHandle" ∧ y.cls ≠ "java/lang/invoke/VarHandle" ∧ (parseMethodDescriptor y.desc).map (fun d => d.parameters.length) = some 0) (hR : (rm2.cells = mc ∧ rm2.slots = ms) ∧ rm2.frames + 1 ≤ rm.frames ∧ 8 + (maxL + 11) + rm2.locals ≤ rm.locals) (hkc : kc + mc ≤ rm.cells ∧ ks + ms ≤ rm.slots)
    (isC isR : List Nat) {wr : va_W} {ws2 : S → va_W} (hC : isC.map (fun i => ws[i]?) = wc.map some) (hRs : isR.map (fun i => ws[i]?) = wr.map some) (hnc : va_nd isC = true) (hnr : va_nd isR = true) (hdis : ∀ i ∈ isR, i ∉ isC) (hp : ∀ u, wr ++ wf u = ws2 u)
    (hroom : (st.map fun v => v.category).sum ≤ 8) (hdg : decode cc pc = .ok (.invokespecial idx, 3))
    (kk : ∀ (u : S), post u → ph_G X (kc + mc) (ks + ms) (ws2 u) nL lv (pc + 3) st) : ph_G X kc ks ws nL lv pc (.ref b :: st) := by
  obtain ⟨p, l, e, R, s, m, args, below, meth, c, Q, D, cI, cZ, A⟩ := X
  obtain ⟨hx, hb, hml, hown, hts, hK, hA, hZ, hRm⟩ := C
  replace hRm : R = rm := hRm
  subst hRm
  intro H locs ls hP hD hS hv
  have hPc := hP.sub isC (ph_fm hC)
  have hDc := hD.sub isC hnc hC
  have hFc := va_free hD hS hA isC hC
  have hgood : GoodIn ph_T (Cond.code y bytes maxL none :: ph_T) := ph_goodIn (fun _ h => h) (fun w hw => by
    rcases List.mem_cons.mp hw with rfl | h
    · exact hcode
    · exact h)
  refine va_callv (va_runIN (As := []) (rest := st) ⟨hx, hb, hml, hown, hts⟩ (M H.size) ⟨va_cnB 0 hts hgood rfl hR.1.1 hR.1.2 hlink (hts _ hini) hd ⟨hR.2.1, hR.2.2⟩, hy1, hts _ hinst⟩ ⟨ph_blindN hEb, fun U hU hW => ⟨rfl, ⟨by rw [hU], by rw [hU]; exact hPc, va_K.moved hW.alike hK, hDc.weaken (fun _ _ _ _ => trivial), ?_⟩, hE U hW⟩⟩ rfl rfl hv.1 rfl (lv_room hroom) hdg hkc) hS (fun q _ h => hFc q h) hFc (fun u t H1 locs1 ht hvm hw hB hz1 hk1 hS => ?_)
  · rw [hU]
    exact ph_Zs_to hZ hW.alike hS.2.1 hFc
  · obtain ⟨hP1, hK1, hD1⟩ := hB
    rw [ht] at hP1
    obtain ⟨hP, hD⟩ := va_join hP hD isC isR hC hRs hnr hdis hk1 hFc hP1 hD1
    rw [hp u] at hP hD
    exact kk u hw H1 locs1 ls hP hD hS hv
end PHN
