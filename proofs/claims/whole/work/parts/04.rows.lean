
abbrev ph_X : Type := Program × Launch × Env × Room × State × MethodId × Array Value × List Frame × Method × Code × (State → Prop) × va_G × ClassId × ClassId × (Nat → Prop)
def ph_ty (cI cZ : ClassId) : List (ClassId × FieldType) := [(cI, .int), (cZ, .boolean)]
def ph_least (j : Int) : Int := if j = 0 then 1 else if j = 1 then 0 else if j = 2 then 1 else 50
def ph_most (j : Int) : Int := if j = 0 then 20 else if j = 1 then 2000 else if j = 2 then 500 else 2000
def ph_Zs (A : Nat → Prop) (U : State) (H : Heap) : Prop := ∃ t1 t2 : Nat, va_Z "PipeHouse$Rules" "LEAST" "[I" (.ref t1) A U H ∧ va_T .int t1 4 (fun j => .int (ph_f ph_least j)) A U H ∧ va_Z "PipeHouse$Rules" "MOST" "[I" (.ref t2) A U H ∧ va_T .int t2 4 (fun j => .int (ph_f ph_most j)) A U H
theorem ph_Zs_to {A B : Nat → Prop} {u U : State} {H H1 : Heap} (h : ph_Zs A u H) (hvm : u.vm.Alike U.vm) (hq : ∀ a : Nat, a < H.size → ¬ A a → H1[a]? = H[a]?) (hAB : ∀ q, B q → A q) : ph_Zs B U H1 := by
  obtain ⟨t1, t2, h1, h2, h3, h4⟩ := h
  exact ⟨t1, t2, ((h1.moved hvm).kept hq).narrow hAB, ((h2.moved hvm).kept hq).narrow hAB, ((h3.moved hvm).kept hq).narrow hAB, ((h4.moved hvm).kept hq).narrow hAB⟩
def ph_G (X : ph_X) (kc ks : Nat) (ws : va_W) (nL : Nat) (lv : List (Nat × Value)) (pc : Nat) (st : List Value) : Prop :=
  match X with
  | (p, l, e, R, s, m, args, below, meth, c, Q, D, _, _, A) => ∀ (H : Heap) (locs : List Loc) (ls : Array Slot), va_P D classes ws H → va_D A ws → va_S A s.heap H locs → lv_has ls nL lv → W p l e R s m args below meth c H locs kc ks Q (F0 m pc ls st)
def ph_C (X : ph_X) (own : String) (cc : ByteArray) (nL : Nat) (rm : Room) : Prop :=
  match X with
  | (p, _, _, R, s, m, args, _, _, c, _, D, cI, cZ, A) => p.tables.exec = Jvm.exec ∧ c.code = cc ∧ c.maxLocals = nL ∧ s.vm.findClass own = some m.cls ∧ (∀ w ∈ ph_T, w.before args s = true) ∧ va_K D classes (ph_ty cI cZ) s ∧ (∀ q, s.heap.size ≤ q → A q) ∧ ph_Zs A s s.heap ∧ R = rm
def ph_l (X : ph_X) : Launch := X.2.1
def ph_D (X : ph_X) : va_G := X.2.2.2.2.2.2.2.2.2.2.2.1
def ph_cI (X : ph_X) : ClassId := X.2.2.2.2.2.2.2.2.2.2.2.2.1
def ph_cZ (X : ph_X) : ClassId := X.2.2.2.2.2.2.2.2.2.2.2.2.2.1
theorem ph_fm {α β : Type} {f : α → Option β} : ∀ {is : List α} {w : List β}, is.map f = w.map some → is.filterMap f = w
  | [], [], _ => rfl
  | [], _ :: _, h => by cases h
  | _ :: _, [], h => by cases h
  | i :: is, b :: w, h => by
    rw [List.map_cons, List.map_cons] at h
    have h1 := (List.cons.inj h).1
    have h2 := (List.cons.inj h).2
    rw [List.filterMap_cons, h1, ph_fm h2]
section PHR
variable {X : ph_X} {own : String} {cc : ByteArray} {nL : Nat} {rm : Room} {kc ks : Nat} {ws : va_W} {lv : List (Nat × Value)} {pc : Nat} {st : List Value}
theorem ph_sub {lv' : List (Nat × Value)} (js : List Nat) (hl : lv_pick lv js = lv') (kk : ph_G X kc ks ws nL lv' pc st) : ph_G X kc ks ws nL lv pc st := by
  obtain ⟨p, l, e, R, s, m, args, below, meth, c, Q, D, cI, cZ, A⟩ := X
  intro H locs ls hP hD hS hv
  exact kk H locs ls hP hD hS (lv_sub hv js hl)

theorem ph_iconst (C : ph_C X own cc nL rm) {n : Int} (hdg : decode cc pc = .ok (.iconst n, 1)) (hn : Int32.ofInt n = ph_J n) (kk : ph_G X kc ks ws nL lv (pc + 1) (.int (ph_J n) :: st)) : ph_G X kc ks ws nL lv pc st := by
  obtain ⟨p, l, e, R, s, m, args, below, meth, c, Q, D, cI, cZ, A⟩ := X
  intro H locs ls hP hD hS hv
  exact lv_iconst C.1 C.2.1 hdg hn (kk H locs ls hP hD hS hv)
theorem ph_bipush (C : ph_C X own cc nL rm) {n : Int} (hdg : decode cc pc = .ok (.bipush n, 2)) (hn : (Int8.ofInt n).toInt32 = ph_J n) (kk : ph_G X kc ks ws nL lv (pc + 2) (.int (ph_J n) :: st)) : ph_G X kc ks ws nL lv pc st := by
  obtain ⟨p, l, e, R, s, m, args, below, meth, c, Q, D, cI, cZ, A⟩ := X
  intro H locs ls hP hD hS hv
  exact lv_bipush C.1 C.2.1 hdg hn (kk H locs ls hP hD hS hv)
theorem ph_sipush (C : ph_C X own cc nL rm) {n : Int} (hdg : decode cc pc = .ok (.sipush n, 3)) (hn : (Int16.ofInt n).toInt32 = ph_J n) (kk : ph_G X kc ks ws nL lv (pc + 3) (.int (ph_J n) :: st)) : ph_G X kc ks ws nL lv pc st := by
  obtain ⟨p, l, e, R, s, m, args, below, meth, c, Q, D, cI, cZ, A⟩ := X
  intro H locs ls hP hD hS hv
  exact lv_sipush C.1 C.2.1 hdg hn (kk H locs ls hP hD hS hv)
theorem ph_lconst (C : ph_C X own cc nL rm) {n : Fin 2} {x : Int} (hdg : decode cc pc = .ok (.lconst n, 1)) (hn : Int64.ofNat (n : Nat) = ph_L x) (kk : ph_G X kc ks ws nL lv (pc + 1) (.long (ph_L x) :: st)) : ph_G X kc ks ws nL lv pc st := by
  obtain ⟨p, l, e, R, s, m, args, below, meth, c, Q, D, cI, cZ, A⟩ := X
  intro H locs ls hP hD hS hv
  exact lv_lconst C.1 C.2.1 hdg hn (kk H locs ls hP hD hS hv)
theorem ph_ldc (C : ph_C X own cc nL rm) {i : Nat} {v : Int32} {x : Int} (hq : Cond.constant own i v ∈ ph_T) (hv0 : v = ph_J x) (hdg : decode cc pc = .ok (.ldc i, 2)) (kk : ph_G X kc ks ws nL lv (pc + 2) (.int (ph_J x) :: st)) : ph_G X kc ks ws nL lv pc st := by
  obtain ⟨p, l, e, R, s, m, args, below, meth, c, Q, D, cI, cZ, A⟩ := X
  intro H locs ls hP hD hS hv
  subst hv0
  exact lv_ldc C.1 C.2.1 C.2.2.2.1 (C.2.2.2.2.1 _ hq) hdg (kk H locs ls hP hD hS hv)
theorem ph_ldc2 (C : ph_C X own cc nL rm) {i : Nat} {v : Int64} {x : Int} (hq : Cond.constantLong own i v ∈ ph_T) (hv0 : v = ph_L x) (hdg : decode cc pc = .ok (.ldc2_w i, 3)) (kk : ph_G X kc ks ws nL lv (pc + 3) (.long (ph_L x) :: st)) : ph_G X kc ks ws nL lv pc st := by
  obtain ⟨p, l, e, R, s, m, args, below, meth, c, Q, D, cI, cZ, A⟩ := X
  intro H locs ls hP hD hS hv
  subst hv0
  exact lv_ldc2 C.1 C.2.1 C.2.2.2.1 (C.2.2.2.2.1 _ hq) hdg (kk H locs ls hP hD hS hv)
theorem ph_iload_n (C : ph_C X own cc nL rm) {k : Fin 4} {i : Nat} {x : Int32} (hdg : decode cc pc = .ok (.iload_n k, 1)) (hi : (k : Nat) = i) (j : Nat) (hl : lv[j]? = some (i, .int x)) (kk : ph_G X kc ks ws nL lv (pc + 1) (.int x :: st)) : ph_G X kc ks ws nL lv pc st := by
  obtain ⟨p, l, e, R, s, m, args, below, meth, c, Q, D, cI, cZ, A⟩ := X
  intro H locs ls hP hD hS hv
  exact lv_iload_n C.1 C.2.1 hdg hi (lv_at hv j hl) (kk H locs ls hP hD hS hv)
theorem ph_iload (C : ph_C X own cc nL rm) {i : Nat} {x : Int32} (hdg : decode cc pc = .ok (.iload i, 2)) (j : Nat) (hl : lv[j]? = some (i, .int x)) (kk : ph_G X kc ks ws nL lv (pc + 2) (.int x :: st)) : ph_G X kc ks ws nL lv pc st := by
  obtain ⟨p, l, e, R, s, m, args, below, meth, c, Q, D, cI, cZ, A⟩ := X
  intro H locs ls hP hD hS hv
  exact lv_iload C.1 C.2.1 hdg (lv_at hv j hl) (kk H locs ls hP hD hS hv)
theorem ph_aload_n (C : ph_C X own cc nL rm) {k : Fin 4} {i : Nat} {x : Nat} (hdg : decode cc pc = .ok (.aload_n k, 1)) (hi : (k : Nat) = i) (j : Nat) (hl : lv[j]? = some (i, .ref x)) (kk : ph_G X kc ks ws nL lv (pc + 1) (.ref x :: st)) : ph_G X kc ks ws nL lv pc st := by
  obtain ⟨p, l, e, R, s, m, args, below, meth, c, Q, D, cI, cZ, A⟩ := X
  intro H locs ls hP hD hS hv
  exact lv_aload_n C.1 C.2.1 hdg hi (lv_at hv j hl) (kk H locs ls hP hD hS hv)
theorem ph_aload (C : ph_C X own cc nL rm) {i : Nat} {x : Nat} (hdg : decode cc pc = .ok (.aload i, 2)) (j : Nat) (hl : lv[j]? = some (i, .ref x)) (kk : ph_G X kc ks ws nL lv (pc + 2) (.ref x :: st)) : ph_G X kc ks ws nL lv pc st := by
  obtain ⟨p, l, e, R, s, m, args, below, meth, c, Q, D, cI, cZ, A⟩ := X
  intro H locs ls hP hD hS hv
  exact lv_aload C.1 C.2.1 hdg (lv_at hv j hl) (kk H locs ls hP hD hS hv)
theorem ph_lload_n (C : ph_C X own cc nL rm) {k : Fin 4} {i : Nat} {x : Int64} (hdg : decode cc pc = .ok (.lload_n k, 1)) (hi : (k : Nat) = i) (j : Nat) (hl : lv[j]? = some (i, .long x)) (kk : ph_G X kc ks ws nL lv (pc + 1) (.long x :: st)) : ph_G X kc ks ws nL lv pc st := by
  obtain ⟨p, l, e, R, s, m, args, below, meth, c, Q, D, cI, cZ, A⟩ := X
  intro H locs ls hP hD hS hv
  exact lv_lload_n C.1 C.2.1 hdg hi (lv_at hv j hl) (kk H locs ls hP hD hS hv)
theorem ph_lload (C : ph_C X own cc nL rm) {i : Nat} {x : Int64} (hdg : decode cc pc = .ok (.lload i, 2)) (j : Nat) (hl : lv[j]? = some (i, .long x)) (kk : ph_G X kc ks ws nL lv (pc + 2) (.long x :: st)) : ph_G X kc ks ws nL lv pc st := by
  obtain ⟨p, l, e, R, s, m, args, below, meth, c, Q, D, cI, cZ, A⟩ := X
  intro H locs ls hP hD hS hv
  exact lv_lload C.1 C.2.1 hdg (lv_at hv j hl) (kk H locs ls hP hD hS hv)
theorem ph_istore_n (C : ph_C X own cc nL rm) {k : Fin 4} {i : Nat} {x : Int32} {lv' : List (Nat × Value)} (hdg : decode cc pc = .ok (.istore_n k, 1)) (hi : (k : Nat) = i) (hn : i < nL) (js : List Nat) (hl : lv_pick ((i, Value.int x) :: lv.filter (fun q => !(q.1 == i) && !(q.1 + 1 == i && q.2.category == 2))) js = lv') (kk : ph_G X kc ks ws nL lv' (pc + 1) st) : ph_G X kc ks ws nL lv pc (.int x :: st) := by
  obtain ⟨p, l, e, R, s, m, args, below, meth, c, Q, D, cI, cZ, A⟩ := X
  intro H locs ls hP hD hS hv
  exact lv_istore_n C.1 C.2.1 hdg hi hv hn rfl (fun ls2 hv2 => kk H locs ls2 hP hD hS (lv_sub hv2 js hl))
theorem ph_istore (C : ph_C X own cc nL rm) {i : Nat} {x : Int32} {lv' : List (Nat × Value)} (hdg : decode cc pc = .ok (.istore i, 2)) (hn : i < nL) (js : List Nat) (hl : lv_pick ((i, Value.int x) :: lv.filter (fun q => !(q.1 == i) && !(q.1 + 1 == i && q.2.category == 2))) js = lv') (kk : ph_G X kc ks ws nL lv' (pc + 2) st) : ph_G X kc ks ws nL lv pc (.int x :: st) := by
  obtain ⟨p, l, e, R, s, m, args, below, meth, c, Q, D, cI, cZ, A⟩ := X
  intro H locs ls hP hD hS hv
  exact lv_istore C.1 C.2.1 hdg hv hn rfl (fun ls2 hv2 => kk H locs ls2 hP hD hS (lv_sub hv2 js hl))
theorem ph_astore_n (C : ph_C X own cc nL rm) {k : Fin 4} {i : Nat} {x : Nat} {lv' : List (Nat × Value)} (hdg : decode cc pc = .ok (.astore_n k, 1)) (hi : (k : Nat) = i) (hn : i < nL) (js : List Nat) (hl : lv_pick ((i, Value.ref x) :: lv.filter (fun q => !(q.1 == i) && !(q.1 + 1 == i && q.2.category == 2))) js = lv') (kk : ph_G X kc ks ws nL lv' (pc + 1) st) : ph_G X kc ks ws nL lv pc (.ref x :: st) := by
  obtain ⟨p, l, e, R, s, m, args, below, meth, c, Q, D, cI, cZ, A⟩ := X
  intro H locs ls hP hD hS hv
  exact lv_astore_n C.1 C.2.1 hdg hi hv hn rfl (fun ls2 hv2 => kk H locs ls2 hP hD hS (lv_sub hv2 js hl))
theorem ph_astore (C : ph_C X own cc nL rm) {i : Nat} {x : Nat} {lv' : List (Nat × Value)} (hdg : decode cc pc = .ok (.astore i, 2)) (hn : i < nL) (js : List Nat) (hl : lv_pick ((i, Value.ref x) :: lv.filter (fun q => !(q.1 == i) && !(q.1 + 1 == i && q.2.category == 2))) js = lv') (kk : ph_G X kc ks ws nL lv' (pc + 2) st) : ph_G X kc ks ws nL lv pc (.ref x :: st) := by
  obtain ⟨p, l, e, R, s, m, args, below, meth, c, Q, D, cI, cZ, A⟩ := X
  intro H locs ls hP hD hS hv
  exact lv_astore C.1 C.2.1 hdg hv hn rfl (fun ls2 hv2 => kk H locs ls2 hP hD hS (lv_sub hv2 js hl))
theorem ph_iinc (C : ph_C X own cc nL rm) {i : Nat} {n a : Int} (k : Nat) (hdg : decode cc pc = .ok (.iinc i n, 3)) (hk : lv[k]? = some (i, .int (ph_J a))) (hn : i < nL) (js : List Nat) {lvp : Int → List (Nat × Value)} (hl : ∀ y : Int, lv_pick ((i, Value.int (ph_J y)) :: lv.filter (fun q => !(q.1 == i) && !(q.1 + 1 == i && q.2.category == 2))) js = lvp y) {A0 : Int → Prop} (h : ph_nm (a + n) A0) (kk : ∀ y : Int, y = a + n → A0 y → ph_G X kc ks ws nL (lvp y) (pc + 3) st) : ph_G X kc ks ws nL lv pc st := by
  obtain ⟨p, l, e, R, s, m, args, below, meth, c, Q, D, cI, cZ, A⟩ := X
  intro H locs ls hP hD hS hv
  exact lv_iinc (v := ph_J (a + n)) C.1 C.2.1 hdg hv hk (ph_J_add a n) hn rfl (fun ls2 hv2 => kk _ rfl (h _ rfl) H locs ls2 hP hD hS (lv_sub hv2 js (hl _)))
theorem ph_iadd (C : ph_C X own cc nL rm) {a b : Int} (hdg : decode cc pc = .ok (.iadd, 1)) (kk : ph_G X kc ks ws nL lv (pc + 1) (.int (ph_J (a + b)) :: st)) : ph_G X kc ks ws nL lv pc (.int (ph_J b) :: .int (ph_J a) :: st) := by
  obtain ⟨p, l, e, R, s, m, args, below, meth, c, Q, D, cI, cZ, A⟩ := X
  intro H locs ls hP hD hS hv
  refine lv_iadd C.1 C.2.1 hdg ?_
  rw [ph_J_add]
  exact kk H locs ls hP hD hS hv
theorem ph_isub (C : ph_C X own cc nL rm) {a b : Int} (hdg : decode cc pc = .ok (.isub, 1)) (kk : ph_G X kc ks ws nL lv (pc + 1) (.int (ph_J (a - b)) :: st)) : ph_G X kc ks ws nL lv pc (.int (ph_J b) :: .int (ph_J a) :: st) := by
  obtain ⟨p, l, e, R, s, m, args, below, meth, c, Q, D, cI, cZ, A⟩ := X
  intro H locs ls hP hD hS hv
  refine lv_isub C.1 C.2.1 hdg ?_
  rw [ph_J_sub]
  exact kk H locs ls hP hD hS hv
theorem ph_imul (C : ph_C X own cc nL rm) {a b : Int} (hdg : decode cc pc = .ok (.imul, 1)) (kk : ph_G X kc ks ws nL lv (pc + 1) (.int (ph_J (a * b)) :: st)) : ph_G X kc ks ws nL lv pc (.int (ph_J b) :: .int (ph_J a) :: st) := by
  obtain ⟨p, l, e, R, s, m, args, below, meth, c, Q, D, cI, cZ, A⟩ := X
  intro H locs ls hP hD hS hv
  refine lv_imul C.1 C.2.1 hdg ?_
  rw [ph_J_mul]
  exact kk H locs ls hP hD hS hv
theorem ph_iand (C : ph_C X own cc nL rm) {a b : Int} (hdg : decode cc pc = .ok (.iand, 1)) (kk : ph_G X kc ks ws nL lv (pc + 1) (.int (ph_J (ph_and a b)) :: st)) : ph_G X kc ks ws nL lv pc (.int (ph_J b) :: .int (ph_J a) :: st) := by
  obtain ⟨p, l, e, R, s, m, args, below, meth, c, Q, D, cI, cZ, A⟩ := X
  intro H locs ls hP hD hS hv
  refine lv_iand C.1 C.2.1 hdg ?_
  rw [ph_J_and]
  exact kk H locs ls hP hD hS hv
theorem ph_ixor (C : ph_C X own cc nL rm) {a b : Int} (hdg : decode cc pc = .ok (.ixor, 1)) (kk : ph_G X kc ks ws nL lv (pc + 1) (.int (ph_J (ph_xor a b)) :: st)) : ph_G X kc ks ws nL lv pc (.int (ph_J b) :: .int (ph_J a) :: st) := by
  obtain ⟨p, l, e, R, s, m, args, below, meth, c, Q, D, cI, cZ, A⟩ := X
  intro H locs ls hP hD hS hv
  refine lv_ixor C.1 C.2.1 hdg ?_
  rw [ph_J_xor]
  exact kk H locs ls hP hD hS hv
theorem ph_ishl (C : ph_C X own cc nL rm) {a b : Int} (hdg : decode cc pc = .ok (.ishl, 1)) (kk : ph_G X kc ks ws nL lv (pc + 1) (.int (ph_J (ph_shl a b)) :: st)) : ph_G X kc ks ws nL lv pc (.int (ph_J b) :: .int (ph_J a) :: st) := by
  obtain ⟨p, l, e, R, s, m, args, below, meth, c, Q, D, cI, cZ, A⟩ := X
  intro H locs ls hP hD hS hv
  refine lv_ishl C.1 C.2.1 hdg ?_
  rw [ph_J_shl]
  exact kk H locs ls hP hD hS hv
theorem ph_ishr (C : ph_C X own cc nL rm) {a b : Int} (hdg : decode cc pc = .ok (.ishr, 1)) (kk : ph_G X kc ks ws nL lv (pc + 1) (.int (ph_J (ph_shr a b)) :: st)) : ph_G X kc ks ws nL lv pc (.int (ph_J b) :: .int (ph_J a) :: st) := by
  obtain ⟨p, l, e, R, s, m, args, below, meth, c, Q, D, cI, cZ, A⟩ := X
  intro H locs ls hP hD hS hv
  refine lv_ishr C.1 C.2.1 hdg ?_
  rw [ph_J_shr]
  exact kk H locs ls hP hD hS hv
theorem ph_ineg (C : ph_C X own cc nL rm) {a : Int} (hdg : decode cc pc = .ok (.ineg, 1)) (kk : ph_G X kc ks ws nL lv (pc + 1) (.int (ph_J (-a)) :: st)) : ph_G X kc ks ws nL lv pc (.int (ph_J a) :: st) := by
  obtain ⟨p, l, e, R, s, m, args, below, meth, c, Q, D, cI, cZ, A⟩ := X
  intro H locs ls hP hD hS hv
  refine lv_ineg C.1 C.2.1 hdg ?_
  have e0 : (0 : Int32) - ph_J a = ph_J (-a) := by rw [← ph_J_neg]; simp
  first | (rw [ph_J_neg]; exact kk H locs ls hP hD hS hv) | (rw [e0]; exact kk H locs ls hP hD hS hv)
theorem ph_idiv (C : ph_C X own cc nL rm) {a b : Int} {A0 : Prop} (hdg : decode cc pc = .ok (.idiv, 1)) (h : ph_dv a b A0) (kk : A0 → ph_G X kc ks ws nL lv (pc + 1) (.int (ph_J (a / b)) :: st)) : ph_G X kc ks ws nL lv pc (.int (ph_J b) :: .int (ph_J a) :: st) := by
  obtain ⟨p, l, e, R, s, m, args, below, meth, c, Q, D, cI, cZ, A⟩ := X
  intro H locs ls hP hD hS hv
  refine lv_idiv C.1 C.2.1 hdg (ph_J_nz h.1.2) ?_
  rw [ph_J_div h.1.1 h.1.2]
  exact kk h.2 H locs ls hP hD hS hv
theorem ph_irem (C : ph_C X own cc nL rm) {a b : Int} {A0 : Prop} (hdg : decode cc pc = .ok (.irem, 1)) (h : ph_dv a b A0) (kk : A0 → ph_G X kc ks ws nL lv (pc + 1) (.int (ph_J (a % b)) :: st)) : ph_G X kc ks ws nL lv pc (.int (ph_J b) :: .int (ph_J a) :: st) := by
  obtain ⟨p, l, e, R, s, m, args, below, meth, c, Q, D, cI, cZ, A⟩ := X
  intro H locs ls hP hD hS hv
  refine lv_irem C.1 C.2.1 hdg (ph_J_nz h.1.2) ?_
  rw [ph_J_rem h.1.1 h.1.2]
  exact kk h.2 H locs ls hP hD hS hv
theorem ph_dup (C : ph_C X own cc nL rm) {v : Value} (hdg : decode cc pc = .ok (.dup, 1)) (hc : v.category = 1) (kk : ph_G X kc ks ws nL lv (pc + 1) (v :: v :: st)) : ph_G X kc ks ws nL lv pc (v :: st) := by
  obtain ⟨p, l, e, R, s, m, args, below, meth, c, Q, D, cI, cZ, A⟩ := X
  intro H locs ls hP hD hS hv
  exact lv_dup C.1 C.2.1 hdg hc (kk H locs ls hP hD hS hv)
theorem ph_dup2 (C : ph_C X own cc nL rm) {v w : Value} (hdg : decode cc pc = .ok (.dup2, 1)) (hc : v.category = 1) (hc2 : w.category = 1) (kk : ph_G X kc ks ws nL lv (pc + 1) (v :: w :: v :: w :: st)) : ph_G X kc ks ws nL lv pc (v :: w :: st) := by
  obtain ⟨p, l, e, R, s, m, args, below, meth, c, Q, D, cI, cZ, A⟩ := X
  intro H locs ls hP hD hS hv
  exact lv_dup2_11 C.1 C.2.1 hdg hc hc2 (kk H locs ls hP hD hS hv)
theorem ph_pop (C : ph_C X own cc nL rm) {v : Value} (hdg : decode cc pc = .ok (.pop, 1)) (hc : v.category = 1) (kk : ph_G X kc ks ws nL lv (pc + 1) st) : ph_G X kc ks ws nL lv pc (v :: st) := by
  obtain ⟨p, l, e, R, s, m, args, below, meth, c, Q, D, cI, cZ, A⟩ := X
  intro H locs ls hP hD hS hv
  exact lv_pop C.1 C.2.1 hdg hc (kk H locs ls hP hD hS hv)
theorem ph_top (C : ph_C X own cc nL rm) {a : Int} {A0 : Int → Prop} (h : ph_nm a A0) (kk : ∀ y : Int, y = a → A0 y → ph_G X kc ks ws nL lv pc (.int (ph_J y) :: st)) : ph_G X kc ks ws nL lv pc (.int (ph_J a) :: st) := by
  obtain ⟨p, l, e, R, s, m, args, below, meth, c, Q, D, cI, cZ, A⟩ := X
  intro H locs ls hP hD hS hv
  exact kk a rfl (h a rfl) H locs ls hP hD hS hv
theorem ph_rrow (C : ph_C X own cc nL rm) {a : Int} {A0 : Prop} (h : ph_rr a A0) (kk : ph_R a → A0 → ph_G X kc ks ws nL lv pc st) : ph_G X kc ks ws nL lv pc st := by
  obtain ⟨p, l, e, R, s, m, args, below, meth, c, Q, D, cI, cZ, A⟩ := X
  intro H locs ls hP hD hS hv
  exact kk h.1 h.2 H locs ls hP hD hS hv
theorem ph_icmp_eq (C : ph_C X own cc nL rm) {a b : Int} {A0 B0 : Prop} {off : Int} {tgt : Nat} (hdg : decode cc pc = .ok (.if_icmp .eq off, 3)) (ht : (pc : Int) + off = (tgt : Int)) (h : ph_eq a b A0 B0) (kt : A0 → ph_G X kc ks ws nL lv tgt st) (kf : B0 → ph_G X kc ks ws nL lv (pc + 3) st) : ph_G X kc ks ws nL lv pc (.int (ph_J b) :: .int (ph_J a) :: st) := by
  obtain ⟨p, l, e, R, s, m, args, below, meth, c, Q, D, cI, cZ, A⟩ := X
  intro H locs ls hP hD hS hv
  exact lv_icmp_eq C.1 C.2.1 hdg ht (fun z => kt (h.2.2.1 ((ph_J_eq h.1 h.2.1).mp z)) H locs ls hP hD hS hv) (fun z => kf (h.2.2.2 (fun y => z ((ph_J_eq h.1 h.2.1).mpr y))) H locs ls hP hD hS hv)
theorem ph_if_eq (C : ph_C X own cc nL rm) {a : Int} {A0 B0 : Prop} {off : Int} {tgt : Nat} (hdg : decode cc pc = .ok (.ifCond .eq off, 3)) (ht : (pc : Int) + off = (tgt : Int)) (h : ph_eq a 0 A0 B0) (kt : A0 → ph_G X kc ks ws nL lv tgt st) (kf : B0 → ph_G X kc ks ws nL lv (pc + 3) st) : ph_G X kc ks ws nL lv pc (.int (ph_J a) :: st) := by
  obtain ⟨p, l, e, R, s, m, args, below, meth, c, Q, D, cI, cZ, A⟩ := X
  intro H locs ls hP hD hS hv
  exact lv_if_eq C.1 C.2.1 hdg ht (fun z => kt (h.2.2.1 ((ph_J_eq h.1 h.2.1).mp z)) H locs ls hP hD hS hv) (fun z => kf (h.2.2.2 (fun y => z ((ph_J_eq h.1 h.2.1).mpr y))) H locs ls hP hD hS hv)
theorem ph_icmp_ne (C : ph_C X own cc nL rm) {a b : Int} {A0 B0 : Prop} {off : Int} {tgt : Nat} (hdg : decode cc pc = .ok (.if_icmp .ne off, 3)) (ht : (pc : Int) + off = (tgt : Int)) (h : ph_eq a b A0 B0) (kt : B0 → ph_G X kc ks ws nL lv tgt st) (kf : A0 → ph_G X kc ks ws nL lv (pc + 3) st) : ph_G X kc ks ws nL lv pc (.int (ph_J b) :: .int (ph_J a) :: st) := by
  obtain ⟨p, l, e, R, s, m, args, below, meth, c, Q, D, cI, cZ, A⟩ := X
  intro H locs ls hP hD hS hv
  exact lv_icmp_ne C.1 C.2.1 hdg ht (fun z => kt (h.2.2.2 (fun y => z ((ph_J_eq h.1 h.2.1).mpr y))) H locs ls hP hD hS hv) (fun z => kf (h.2.2.1 ((ph_J_eq h.1 h.2.1).mp z)) H locs ls hP hD hS hv)
theorem ph_if_ne (C : ph_C X own cc nL rm) {a : Int} {A0 B0 : Prop} {off : Int} {tgt : Nat} (hdg : decode cc pc = .ok (.ifCond .ne off, 3)) (ht : (pc : Int) + off = (tgt : Int)) (h : ph_eq a 0 A0 B0) (kt : B0 → ph_G X kc ks ws nL lv tgt st) (kf : A0 → ph_G X kc ks ws nL lv (pc + 3) st) : ph_G X kc ks ws nL lv pc (.int (ph_J a) :: st) := by
  obtain ⟨p, l, e, R, s, m, args, below, meth, c, Q, D, cI, cZ, A⟩ := X
  intro H locs ls hP hD hS hv
  exact lv_if_ne C.1 C.2.1 hdg ht (fun z => kt (h.2.2.2 (fun y => z ((ph_J_eq h.1 h.2.1).mpr y))) H locs ls hP hD hS hv) (fun z => kf (h.2.2.1 ((ph_J_eq h.1 h.2.1).mp z)) H locs ls hP hD hS hv)
theorem ph_icmp_lt (C : ph_C X own cc nL rm) {a b : Int} {A0 B0 : Prop} {off : Int} {tgt : Nat} (hdg : decode cc pc = .ok (.if_icmp .lt off, 3)) (ht : (pc : Int) + off = (tgt : Int)) (h : ph_lt a b A0 B0) (kt : A0 → ph_G X kc ks ws nL lv tgt st) (kf : B0 → ph_G X kc ks ws nL lv (pc + 3) st) : ph_G X kc ks ws nL lv pc (.int (ph_J b) :: .int (ph_J a) :: st) := by
  obtain ⟨p, l, e, R, s, m, args, below, meth, c, Q, D, cI, cZ, A⟩ := X
  intro H locs ls hP hD hS hv
  exact lv_icmp_lt C.1 C.2.1 hdg ht (fun z => kt (h.2.2.1 ((ph_J_lt h.1 h.2.1).mp z)) H locs ls hP hD hS hv) (fun z => kf (h.2.2.2 (fun y => z ((ph_J_lt h.1 h.2.1).mpr y))) H locs ls hP hD hS hv)
theorem ph_if_lt (C : ph_C X own cc nL rm) {a : Int} {A0 B0 : Prop} {off : Int} {tgt : Nat} (hdg : decode cc pc = .ok (.ifCond .lt off, 3)) (ht : (pc : Int) + off = (tgt : Int)) (h : ph_lt a 0 A0 B0) (kt : A0 → ph_G X kc ks ws nL lv tgt st) (kf : B0 → ph_G X kc ks ws nL lv (pc + 3) st) : ph_G X kc ks ws nL lv pc (.int (ph_J a) :: st) := by
  obtain ⟨p, l, e, R, s, m, args, below, meth, c, Q, D, cI, cZ, A⟩ := X
  intro H locs ls hP hD hS hv
  exact lv_if_lt C.1 C.2.1 hdg ht (fun z => kt (h.2.2.1 ((ph_J_lt h.1 h.2.1).mp z)) H locs ls hP hD hS hv) (fun z => kf (h.2.2.2 (fun y => z ((ph_J_lt h.1 h.2.1).mpr y))) H locs ls hP hD hS hv)
theorem ph_icmp_ge (C : ph_C X own cc nL rm) {a b : Int} {A0 B0 : Prop} {off : Int} {tgt : Nat} (hdg : decode cc pc = .ok (.if_icmp .ge off, 3)) (ht : (pc : Int) + off = (tgt : Int)) (h : ph_lt a b A0 B0) (kt : B0 → ph_G X kc ks ws nL lv tgt st) (kf : A0 → ph_G X kc ks ws nL lv (pc + 3) st) : ph_G X kc ks ws nL lv pc (.int (ph_J b) :: .int (ph_J a) :: st) := by
  obtain ⟨p, l, e, R, s, m, args, below, meth, c, Q, D, cI, cZ, A⟩ := X
  intro H locs ls hP hD hS hv
  exact lv_icmp_ge C.1 C.2.1 hdg ht (fun z => kt (h.2.2.2 (Int.not_lt.mpr ((ph_J_le h.2.1 h.1).mp z))) H locs ls hP hD hS hv) (fun z => kf (h.2.2.1 (Int.not_le.mp (fun y => z ((ph_J_le h.2.1 h.1).mpr y)))) H locs ls hP hD hS hv)
theorem ph_if_ge (C : ph_C X own cc nL rm) {a : Int} {A0 B0 : Prop} {off : Int} {tgt : Nat} (hdg : decode cc pc = .ok (.ifCond .ge off, 3)) (ht : (pc : Int) + off = (tgt : Int)) (h : ph_lt a 0 A0 B0) (kt : B0 → ph_G X kc ks ws nL lv tgt st) (kf : A0 → ph_G X kc ks ws nL lv (pc + 3) st) : ph_G X kc ks ws nL lv pc (.int (ph_J a) :: st) := by
  obtain ⟨p, l, e, R, s, m, args, below, meth, c, Q, D, cI, cZ, A⟩ := X
  intro H locs ls hP hD hS hv
  exact lv_if_ge C.1 C.2.1 hdg ht (fun z => kt (h.2.2.2 (Int.not_lt.mpr ((ph_J_le h.2.1 h.1).mp z))) H locs ls hP hD hS hv) (fun z => kf (h.2.2.1 (Int.not_le.mp (fun y => z ((ph_J_le h.2.1 h.1).mpr y)))) H locs ls hP hD hS hv)
theorem ph_icmp_gt (C : ph_C X own cc nL rm) {a b : Int} {A0 B0 : Prop} {off : Int} {tgt : Nat} (hdg : decode cc pc = .ok (.if_icmp .gt off, 3)) (ht : (pc : Int) + off = (tgt : Int)) (h : ph_lt b a A0 B0) (kt : A0 → ph_G X kc ks ws nL lv tgt st) (kf : B0 → ph_G X kc ks ws nL lv (pc + 3) st) : ph_G X kc ks ws nL lv pc (.int (ph_J b) :: .int (ph_J a) :: st) := by
  obtain ⟨p, l, e, R, s, m, args, below, meth, c, Q, D, cI, cZ, A⟩ := X
  intro H locs ls hP hD hS hv
  exact lv_icmp_gt C.1 C.2.1 hdg ht (fun z => kt (h.2.2.1 ((ph_J_lt h.1 h.2.1).mp z)) H locs ls hP hD hS hv) (fun z => kf (h.2.2.2 (fun y => z ((ph_J_lt h.1 h.2.1).mpr y))) H locs ls hP hD hS hv)
theorem ph_if_gt (C : ph_C X own cc nL rm) {a : Int} {A0 B0 : Prop} {off : Int} {tgt : Nat} (hdg : decode cc pc = .ok (.ifCond .gt off, 3)) (ht : (pc : Int) + off = (tgt : Int)) (h : ph_lt 0 a A0 B0) (kt : A0 → ph_G X kc ks ws nL lv tgt st) (kf : B0 → ph_G X kc ks ws nL lv (pc + 3) st) : ph_G X kc ks ws nL lv pc (.int (ph_J a) :: st) := by
  obtain ⟨p, l, e, R, s, m, args, below, meth, c, Q, D, cI, cZ, A⟩ := X
  intro H locs ls hP hD hS hv
  exact lv_if_gt C.1 C.2.1 hdg ht (fun z => kt (h.2.2.1 ((ph_J_lt h.1 h.2.1).mp z)) H locs ls hP hD hS hv) (fun z => kf (h.2.2.2 (fun y => z ((ph_J_lt h.1 h.2.1).mpr y))) H locs ls hP hD hS hv)
theorem ph_icmp_le (C : ph_C X own cc nL rm) {a b : Int} {A0 B0 : Prop} {off : Int} {tgt : Nat} (hdg : decode cc pc = .ok (.if_icmp .le off, 3)) (ht : (pc : Int) + off = (tgt : Int)) (h : ph_lt b a A0 B0) (kt : B0 → ph_G X kc ks ws nL lv tgt st) (kf : A0 → ph_G X kc ks ws nL lv (pc + 3) st) : ph_G X kc ks ws nL lv pc (.int (ph_J b) :: .int (ph_J a) :: st) := by
  obtain ⟨p, l, e, R, s, m, args, below, meth, c, Q, D, cI, cZ, A⟩ := X
  intro H locs ls hP hD hS hv
  exact lv_icmp_le C.1 C.2.1 hdg ht (fun z => kt (h.2.2.2 (Int.not_lt.mpr ((ph_J_le h.2.1 h.1).mp z))) H locs ls hP hD hS hv) (fun z => kf (h.2.2.1 (Int.not_le.mp (fun y => z ((ph_J_le h.2.1 h.1).mpr y)))) H locs ls hP hD hS hv)
theorem ph_if_le (C : ph_C X own cc nL rm) {a : Int} {A0 B0 : Prop} {off : Int} {tgt : Nat} (hdg : decode cc pc = .ok (.ifCond .le off, 3)) (ht : (pc : Int) + off = (tgt : Int)) (h : ph_lt 0 a A0 B0) (kt : B0 → ph_G X kc ks ws nL lv tgt st) (kf : A0 → ph_G X kc ks ws nL lv (pc + 3) st) : ph_G X kc ks ws nL lv pc (.int (ph_J a) :: st) := by
  obtain ⟨p, l, e, R, s, m, args, below, meth, c, Q, D, cI, cZ, A⟩ := X
  intro H locs ls hP hD hS hv
  exact lv_if_le C.1 C.2.1 hdg ht (fun z => kt (h.2.2.2 (Int.not_lt.mpr ((ph_J_le h.2.1 h.1).mp z))) H locs ls hP hD hS hv) (fun z => kf (h.2.2.1 (Int.not_le.mp (fun y => z ((ph_J_le h.2.1 h.1).mpr y)))) H locs ls hP hD hS hv)
theorem ph_goto (C : ph_C X own cc nL rm) {off : Int} {tgt : Nat} (hdg : decode cc pc = .ok (.goto off, 3)) (ht : (pc : Int) + off = (tgt : Int)) (kk : ph_G X kc ks ws nL lv tgt st) : ph_G X kc ks ws nL lv pc st := by
  obtain ⟨p, l, e, R, s, m, args, below, meth, c, Q, D, cI, cZ, A⟩ := X
  intro H locs ls hP hD hS hv
  exact lv_goto C.1 C.2.1 hdg ht (kk H locs ls hP hD hS hv)
theorem ph_tabIn (C : ph_C X own cc nL rm) {a : Int} {dflt lo hi : Int} {offs : Array Int} {len : Nat} {off : Int} {tgt : Nat} (hdg : decode cc pc = .ok (.tableswitch dflt lo hi offs, len)) (ha : ph_R a) (hlo : lo ≤ a) (hhi : a ≤ hi) (ho : offs[(a - lo).toNat]? = some off) (ht : (pc : Int) + off = (tgt : Int)) (kk : ph_G X kc ks ws nL lv tgt st) : ph_G X kc ks ws nL lv pc (.int (ph_J a) :: st) := by
  obtain ⟨p, l, e, R, s, m, args, below, meth, c, Q, D, cI, cZ, A⟩ := X
  intro H locs ls hP hD hS hv
  have e0 := ph_J_int ha
  exact lv_tableIn C.1 C.2.1 hdg (by rw [e0]; omega) (by rw [e0]; omega) (by rw [e0]; exact ho) ht (kk H locs ls hP hD hS hv)
theorem ph_tabOut (C : ph_C X own cc nL rm) {a : Int} {dflt lo hi : Int} {offs : Array Int} {len : Nat} {tgt : Nat} (hdg : decode cc pc = .ok (.tableswitch dflt lo hi offs, len)) (ha : ph_R a) (hlo : a < lo ∨ hi < a) (ht : (pc : Int) + dflt = (tgt : Int)) (kk : ph_G X kc ks ws nL lv tgt st) : ph_G X kc ks ws nL lv pc (.int (ph_J a) :: st) := by
  obtain ⟨p, l, e, R, s, m, args, below, meth, c, Q, D, cI, cZ, A⟩ := X
  intro H locs ls hP hD hS hv
  have e0 := ph_J_int ha
  exact lv_tableOut C.1 C.2.1 hdg (by rw [e0]; exact hlo) ht (kk H locs ls hP hD hS hv)
theorem ph_look (C : ph_C X own cc nL rm) {a : Int} {dflt : Int} {ps : Array (Int × Int)} {len : Nat} {off : Int} {tgt : Nat} (hdg : decode cc pc = .ok (.lookupswitch dflt ps, len)) (hp : (ps.toList.zip (ps.toList.drop 1)).all (fun (a, next) => a.1 < next.1) = true) (ha : ph_R a) (ho : Op.lookupswitch.offset ps.toList dflt a = off) (ht : (pc : Int) + off = (tgt : Int)) (kk : ph_G X kc ks ws nL lv tgt st) : ph_G X kc ks ws nL lv pc (.int (ph_J a) :: st) := by
  obtain ⟨p, l, e, R, s, m, args, below, meth, c, Q, D, cI, cZ, A⟩ := X
  intro H locs ls hP hD hS hv
  exact lv_lookup C.1 C.2.1 hdg hp (by rw [ph_J_int ha]; exact ho) ht (kk H locs ls hP hD hS hv)
theorem ph_i2l (C : ph_C X own cc nL rm) {a : Int} {A0 : Prop} (hdg : decode cc pc = .ok (.i2l, 1)) (h : ph_rr a A0) (kk : A0 → ph_G X kc ks ws nL lv (pc + 1) (.long (ph_L a) :: st)) : ph_G X kc ks ws nL lv pc (.int (ph_J a) :: st) := by
  obtain ⟨p, l, e, R, s, m, args, below, meth, c, Q, D, cI, cZ, A⟩ := X
  intro H locs ls hP hD hS hv
  exact lv_i2l C.1 C.2.1 hdg (ph_J_long h.1) (kk h.2 H locs ls hP hD hS hv)
theorem ph_lcmp (C : ph_C X own cc nL rm) {a b : Int} {A0 : Prop} (hdg : decode cc pc = .ok (.lcmp, 1)) (h : ph_r2 a b A0) (kk : A0 → ph_G X kc ks ws nL lv (pc + 1) (.int (ph_J (ph_cm a b)) :: st)) : ph_G X kc ks ws nL lv pc (.long (ph_L b) :: .long (ph_L a) :: st) := by
  obtain ⟨p, l, e, R, s, m, args, below, meth, c, Q, D, cI, cZ, A⟩ := X
  intro H locs ls hP hD hS hv
  refine W.lcmp C.1 C.2.1 hdg ?_
  rw [ph_L_cmp h.1.1 h.1.2]
  exact kk h.2 H locs ls hP hD hS hv
theorem ph_iald (C : ph_C X own cc nL rm) {a n : Nat} {N i : Int} {g : Int → Int} {A0 : Prop} (hdg : decode cc pc = .ok (.iaload, 1)) (q0 : Nat) (ha : ws[q0]? = some (a, .inl (ph_cI X, n, .inl (ph_f g)))) (hN : N = (n : Int)) (hn : n ≤ 2147483648) (h : ph_ix i N A0) (kk : A0 → ph_G X kc ks ws nL lv (pc + 1) (.int (ph_J (g i)) :: st)) : ph_G X kc ks ws nL lv pc (.int (ph_J i) :: .ref a :: st) := by
  obtain ⟨p, l, e, R, s, m, args, below, meth, c, Q, D, cI, cZ, A⟩ := X
  intro H locs ls hP hD hS hv
  subst hN
  refine va_iald C.1 C.2.1 C.2.2.2.2.2.1 hP q0 0 ha rfl (ph_J_in h.1 hn) hdg ?_
  rw [ph_f_at h.1 hn]
  exact kk h.2 H locs ls hP hD hS hv
theorem ph_zald (C : ph_C X own cc nL rm) {a n : Nat} {N i : Int} {g : Int → Int} {A0 : Prop} (hdg : decode cc pc = .ok (.baload, 1)) (q0 : Nat) (ha : ws[q0]? = some (a, .inl (ph_cZ X, n, .inl (ph_f g)))) (hN : N = (n : Int)) (hn : n ≤ 2147483648) (h : ph_ix i N A0) (kk : A0 → ph_G X kc ks ws nL lv (pc + 1) (.int (ph_J (g i)) :: st)) : ph_G X kc ks ws nL lv pc (.int (ph_J i) :: .ref a :: st) := by
  obtain ⟨p, l, e, R, s, m, args, below, meth, c, Q, D, cI, cZ, A⟩ := X
  intro H locs ls hP hD hS hv
  subst hN
  refine va_zald C.1 C.2.1 C.2.2.2.2.2.1 hP q0 1 ha rfl (ph_J_in h.1 hn) hdg ?_
  rw [ph_f_at h.1 hn]
  exact kk h.2 H locs ls hP hD hS hv
theorem ph_iast (C : ph_C X own cc nL rm) {a n : Nat} {N i v : Int} {g : Int → Int} {A0 : (Int → Int) → Prop} {ws2 : (Int → Int) → va_W} (hdg : decode cc pc = .ok (.iastore, 1)) (q0 : Nat) (ha : ws[q0]? = some (a, .inl (ph_cI X, n, .inl (ph_f g)))) (hw : ∀ g2 : Int → Int, ws.set q0 (a, .inl (ph_cI X, n, .inl (ph_f g2))) = ws2 g2) (hN : N = (n : Int)) (hn : n ≤ 2147483648) (h : ph_ix i N (ph_nm (ph_u g i v) A0)) (kk : ∀ g2 : Int → Int, g2 = ph_u g i v → A0 g2 → ph_G X kc ks (ws2 g2) nL lv (pc + 1) st) : ph_G X kc ks ws nL lv pc (.int (ph_J v) :: .int (ph_J i) :: .ref a :: st) := by
  obtain ⟨p, l, e, R, s, m, args, below, meth, c, Q, D, cI, cZ, A⟩ := X
  intro H locs ls hP hD hS hv
  subst hN
  refine va_iast C.1 C.2.1 C.2.2.2.2.2.1 hP hD hS q0 0 ha rfl (ph_J_in h.1 hn) hdg (fun H1 locs1 hP1 hD1 hS1 => ?_)
  rw [ph_f_up h.1 hn, hw] at hP1 hD1
  exact kk _ rfl (h.2 _ rfl) H1 locs1 ls hP1 hD1 hS1 hv
theorem ph_zast (C : ph_C X own cc nL rm) {a n : Nat} {N i v : Int} {g : Int → Int} {A0 : (Int → Int) → Prop} {ws2 : (Int → Int) → va_W} (hdg : decode cc pc = .ok (.bastore, 1)) (q0 : Nat) (ha : ws[q0]? = some (a, .inl (ph_cZ X, n, .inl (ph_f g)))) (hw : ∀ g2 : Int → Int, ws.set q0 (a, .inl (ph_cZ X, n, .inl (ph_f g2))) = ws2 g2) (hN : N = (n : Int)) (hn : n ≤ 2147483648) (h : ph_bo v (ph_ix i N (ph_nm (ph_u g i v) A0))) (kk : ∀ g2 : Int → Int, g2 = ph_u g i v → A0 g2 → ph_G X kc ks (ws2 g2) nL lv (pc + 1) st) : ph_G X kc ks ws nL lv pc (.int (ph_J v) :: .int (ph_J i) :: .ref a :: st) := by
  obtain ⟨p, l, e, R, s, m, args, below, meth, c, Q, D, cI, cZ, A⟩ := X
  intro H locs ls hP hD hS hv
  subst hN
  have e0 : vp_nar .boolean (ph_J v) = ph_J v := by
    rcases h.1 with h1 | h1 <;> subst h1 <;> decide
  refine va_zast C.1 C.2.1 C.2.2.2.2.2.1 hP hD hS q0 1 ha rfl (ph_J_in h.2.1 hn) hdg (fun H1 locs1 hP1 hD1 hS1 => ?_)
  rw [e0, ph_f_up h.2.1 hn, hw] at hP1 hD1
  exact kk _ rfl (h.2.2 _ rfl) H1 locs1 ls hP1 hD1 hS1 hv
theorem ph_alen (C : ph_C X own cc nL rm) {a n : Nat} {ca : ClassId} {g : Nat → Int32} {ty : FieldType} (t0 : Nat) (hdg : decode cc pc = .ok (.arraylength, 1)) (q0 : Nat) (ha : ws[q0]? = some (a, .inl (ca, n, .inl g))) (ht : (ph_ty (ph_cI X) (ph_cZ X))[t0]? = some (ca, ty)) (kk : ph_G X kc ks ws nL lv (pc + 1) (.int (ph_J (n : Int)) :: st)) : ph_G X kc ks ws nL lv pc (.ref a :: st) := by
  obtain ⟨p, l, e, R, s, m, args, below, meth, c, Q, D, cI, cZ, A⟩ := X
  intro H locs ls hP hD hS hv
  exact va_alen C.1 C.2.1 C.2.2.2.2.2.1 hP q0 t0 ha ht rfl hdg (kk H locs ls hP hD hS hv)
theorem ph_mmax (C : ph_C X own cc nL rm) {a b : Int} {A0 : Prop} {i : Nat} (hlink : Cond.methodLink own i Lib.Math.max.name ∈ ph_T) (hst : Cond.static Lib.Math.max.name ∈ ph_T) (hini : Cond.initialized "java/lang/Math" ∈ ph_T) (hcode : Cond.code Lib.Math.max.name Lib.Math.max.code 2 (some .int) ∈ ph_T) (hfr : 1 ≤ rm.frames) (hlo : (st.map fun v => v.category).sum + 13 ≤ rm.locals) (hkc : kc ≤ rm.cells) (hks : ks ≤ rm.slots) (hdg : decode cc pc = .ok (.invokestatic i, 3)) (h : ph_r2 a b A0) (kk : A0 → ph_G X kc ks ws nL lv (pc + 3) (.int (ph_J (max a b)) :: st)) : ph_G X kc ks ws nL lv pc (.int (ph_J b) :: .int (ph_J a) :: st) := by
  obtain ⟨p, l, e, R, s, m, args, below, meth, c, Q, D, cI, cZ, A⟩ := X
  intro H locs ls hP hD hS hv
  obtain ⟨hx, hb, hml, hown, hts, hK, hA, hZ, hR⟩ := C
  replace hR : R = rm := hR
  subst hR
  refine va_mmax hx hb (hml.trans hv.1.symm) hown (hts _ hlink) (hts _ hst) (hts _ hini) (hts _ hcode) hfr hlo hkc hks hdg ?_
  rw [ph_J_max h.1.1 h.1.2]
  exact kk h.2 H locs ls hP hD hS hv
theorem ph_mmin (C : ph_C X own cc nL rm) {a b : Int} {A0 : Prop} {i : Nat} (hlink : Cond.methodLink own i Lib.Math.min.name ∈ ph_T) (hst : Cond.static Lib.Math.min.name ∈ ph_T) (hini : Cond.initialized "java/lang/Math" ∈ ph_T) (hcode : Cond.code Lib.Math.min.name Lib.Math.min.code 2 (some .int) ∈ ph_T) (hfr : 1 ≤ rm.frames) (hlo : (st.map fun v => v.category).sum + 13 ≤ rm.locals) (hkc : kc ≤ rm.cells) (hks : ks ≤ rm.slots) (hdg : decode cc pc = .ok (.invokestatic i, 3)) (h : ph_r2 a b A0) (kk : A0 → ph_G X kc ks ws nL lv (pc + 3) (.int (ph_J (min a b)) :: st)) : ph_G X kc ks ws nL lv pc (.int (ph_J b) :: .int (ph_J a) :: st) := by
  obtain ⟨p, l, e, R, s, m, args, below, meth, c, Q, D, cI, cZ, A⟩ := X
  intro H locs ls hP hD hS hv
  obtain ⟨hx, hb, hml, hown, hts, hK, hA, hZ, hR⟩ := C
  replace hR : R = rm := hR
  subst hR
  refine va_mmin hx hb (hml.trans hv.1.symm) hown (hts _ hlink) (hts _ hst) (hts _ hini) (hts _ hcode) hfr hlo hkc hks hdg ?_
  rw [ph_J_min h.1.1 h.1.2]
  exact kk h.2 H locs ls hP hD hS hv
theorem ph_mabs (C : ph_C X own cc nL rm) {a : Int} {A0 : Prop} {i : Nat} (hlink : Cond.methodLink own i Lib.Math.abs.name ∈ ph_T) (hst : Cond.static Lib.Math.abs.name ∈ ph_T) (hini : Cond.initialized "java/lang/Math" ∈ ph_T) (hcode : Cond.code Lib.Math.abs.name Lib.Math.abs.code 1 (some .int) ∈ ph_T) (hfr : 1 ≤ rm.frames) (hlo : (st.map fun v => v.category).sum + 13 ≤ rm.locals) (hkc : kc ≤ rm.cells) (hks : ks ≤ rm.slots) (hdg : decode cc pc = .ok (.invokestatic i, 3)) (h : ph_rr a A0) (kk : A0 → ph_G X kc ks ws nL lv (pc + 3) (.int (ph_J (ph_ab a)) :: st)) : ph_G X kc ks ws nL lv pc (.int (ph_J a) :: st) := by
  obtain ⟨p, l, e, R, s, m, args, below, meth, c, Q, D, cI, cZ, A⟩ := X
  intro H locs ls hP hD hS hv
  obtain ⟨hx, hb, hml, hown, hts, hK, hA, hZ, hR⟩ := C
  replace hR : R = rm := hR
  subst hR
  refine va_mabs hx hb (hml.trans hv.1.symm) hown (hts _ hlink) (hts _ hst) (hts _ hini) (hts _ hcode) hfr hlo hkc hks hdg ?_
  rw [ph_J_abs h.1]
  exact kk h.2 H locs ls hP hD hS hv
theorem ph_get (C : ph_C X own cc nL rm) {C0 : String} {T : u_T} {N ci i a : Nat} {fs : List Value} {v : Value} (hin : ∀ w ∈ u_ws C0 T N, w ∈ ph_T) (hc : classes[ci]? = some (C0, T, N)) (k : Nat) (hk : k < N) (hlink : Cond.fieldLink own i (T k).1 (T k).2.1 (T k).2.2.1 ∈ ph_T) (hdg : decode cc pc = .ok (.getfield i, 3)) (q0 : Nat) (he : ws[q0]? = some (a, .inr (ci, fs))) (hv0 : fs[k]? = some v) (kk : ph_G X kc ks ws nL lv (pc + 3) (v :: st)) : ph_G X kc ks ws nL lv pc (.ref a :: st) := by
  obtain ⟨p, l, e, R, s, m, args, below, meth, c, Q, D, cI, cZ, A⟩ := X
  intro H locs ls hP hD hS hv
  exact va_get C.1 C.2.1 C.2.2.2.2.1 hin C.2.2.2.1 C.2.2.2.2.2.1 hP q0 he hc k hk (C.2.2.2.2.1 _ hlink) (fun _ h9 => h9) hv0 hdg (kk H locs ls hP hD hS hv)
theorem ph_put (C : ph_C X own cc nL rm) {C0 : String} {T : u_T} {N ci i a : Nat} {fs : List Value} {x : Int} (hin : ∀ w ∈ u_ws C0 T N, w ∈ ph_T) (ty0 : Nat → FieldType) (hty : ∀ k, k < N → parseFieldDescriptor (T k).2.2.1 = some (ty0 k)) (hnm : ∀ a, a < N → ∀ b, b < N → a ≠ b → (T a).2.1 ≠ (T b).2.1) (hc : classes[ci]? = some (C0, T, N)) (k : Nat) (hk : k < N) (hfin : (T k).2.2.2 = false) (hd : parseFieldDescriptor (T k).2.2.1 = some .int) (hlink : Cond.fieldLink own i (T k).1 (T k).2.1 (T k).2.2.1 ∈ ph_T) (hdg : decode cc pc = .ok (.putfield i, 3)) (q0 : Nat) (he : ws[q0]? = some (a, .inr (ci, fs))) (hl : k < fs.length) {ws2 : va_W} (hw : ws.set q0 (a, .inr (ci, fs.set k (.int (ph_J x)))) = ws2) (kk : ph_G X kc ks ws2 nL lv (pc + 3) st) : ph_G X kc ks ws nL lv pc (.int (ph_J x) :: .ref a :: st) := by
  obtain ⟨p, l, e, R, s, m, args, below, meth, c, Q, D, cI, cZ, A⟩ := X
  intro H locs ls hP hD hS hv
  subst hw
  exact va_put C.1 C.2.1 C.2.2.2.2.1 hin ty0 hty hnm C.2.2.2.1 C.2.2.2.2.2.1 hP hD hS q0 he hc k hk (C.2.2.2.2.1 _ hlink) (fun _ h9 => h9) hfin hd rfl rfl hl hdg (fun H1 locs1 hP1 hD1 hS1 => kk H1 locs1 ls hP1 hD1 hS1 hv)
theorem ph_sleast (C : ph_C X own cc nL rm) {i : Nat} (hlink : Cond.fieldLink own i "PipeHouse$Rules" "LEAST" "[I" ∈ ph_T) (hdg : decode cc pc = .ok (.getstatic i, 3)) (kx : ∀ t : Nat, (∀ {pc2 : Nat} {st2 : List Value} {ix : Int} {A0 : Prop}, decode cc pc2 = .ok (.iaload, 1) → ph_ix ix 4 A0 → (A0 → ph_G X kc ks ws nL lv (pc2 + 1) (.int (ph_J (ph_least ix)) :: st2)) → ph_G X kc ks ws nL lv pc2 (.int (ph_J ix) :: .ref t :: st2)) → ph_G X kc ks ws nL lv (pc + 3) (.ref t :: st))  : ph_G X kc ks ws nL lv pc st := by
  obtain ⟨p, l, e, R, s, m, args, below, meth, c, Q, D, cI, cZ, A⟩ := X
  intro H locs ls hP hD hS hv
  obtain ⟨t1, t2, z1, z2, z3, z4⟩ := C.2.2.2.2.2.2.2.1
  refine va_gets C.1 C.2.1 z1 hS C.2.2.2.1 (C.2.2.2.2.1 _ hlink) (fun _ h9 => h9) hdg ?_
  refine kx t1 (fun {pc2 st2 ix A0} hd2 h2 k2 => ?_) H locs ls hP hD hS hv
  intro H locs ls hP hD hS hv
  exact va_ti C.1 C.2.1 z2 hS (ph_J_in (n := 4) h2.1 (by decide)) (by rw [ph_f_at (n := 4) h2.1 (by decide)]) hd2 (k2 h2.2 H locs ls hP hD hS hv)
theorem ph_smost (C : ph_C X own cc nL rm) {i : Nat} (hlink : Cond.fieldLink own i "PipeHouse$Rules" "MOST" "[I" ∈ ph_T) (hdg : decode cc pc = .ok (.getstatic i, 3)) (kx : ∀ t : Nat, (∀ {pc2 : Nat} {st2 : List Value} {ix : Int} {A0 : Prop}, decode cc pc2 = .ok (.iaload, 1) → ph_ix ix 4 A0 → (A0 → ph_G X kc ks ws nL lv (pc2 + 1) (.int (ph_J (ph_most ix)) :: st2)) → ph_G X kc ks ws nL lv pc2 (.int (ph_J ix) :: .ref t :: st2)) → ph_G X kc ks ws nL lv (pc + 3) (.ref t :: st))  : ph_G X kc ks ws nL lv pc st := by
  obtain ⟨p, l, e, R, s, m, args, below, meth, c, Q, D, cI, cZ, A⟩ := X
  intro H locs ls hP hD hS hv
  obtain ⟨t1, t2, z1, z2, z3, z4⟩ := C.2.2.2.2.2.2.2.1
  refine va_gets C.1 C.2.1 z3 hS C.2.2.2.1 (C.2.2.2.2.1 _ hlink) (fun _ h9 => h9) hdg ?_
  refine kx t2 (fun {pc2 st2 ix A0} hd2 h2 k2 => ?_) H locs ls hP hD hS hv
  intro H locs ls hP hD hS hv
  exact va_ti C.1 C.2.1 z4 hS (ph_J_in (n := 4) h2.1 (by decide)) (by rw [ph_f_at (n := 4) h2.1 (by decide)]) hd2 (k2 h2.2 H locs ls hP hD hS hv)
end PHR
