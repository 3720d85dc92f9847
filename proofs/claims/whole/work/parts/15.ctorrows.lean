/-! constructors: a world that grows -/
def AA (h0 sz : Nat) : Nat → Prop := fun q => q = h0 ∨ sz ≤ q
def EC (E : EnvT) (U : State) : Prop := va_K (eD E) vwCl (tysE E) U ∧ (∀ w ∈ lw_tbl, isNest w = true → va_Nw w U) ∧ va_AO "BenchOrders$Node" U ∧ va_AO "BenchOrders$State" U
theorem EC.move {E : EnvT} {s U : State} (h : EC E s) (hW : s.WarmedH U.vm) : EC E U := by
  obtain ⟨h1, h2, h3, h4⟩ := h
  refine ⟨va_K.moved hW.alike h1, fun w hw hn => ?_, h3.moved hW.alike, h4.moved hW.alike⟩
  have h := h2 w hw hn
  cases w <;> first | exact va_Nw.warmM hW h | (simp [isNest] at hn)
theorem EC.same {E : EnvT} {u U : State} (hv : U.vm = u.vm) (h : EC E u) : EC E U := by
  obtain ⟨h1, h2, h3, h4⟩ := h
  have ha : u.vm.Alike U.vm := by rw [hv]; exact Vm.Alike.refl _
  refine ⟨va_K.moved ha h1, fun w hw hn => ?_, h3.moved ha, h4.moved ha⟩
  have h := h2 w hw hn
  cases w <;> first | exact va_Nw.same rfl hv.symm h | (simp [isNest] at hn)
def QI (E : EnvT) (A : Nat → Prop) (post : va_W → Prop) : Array Value → State → Outcome → State → Prop := fun _ st oc t => oc = .returned none ∧ (∃ w, post w ∧ va_P (eD E) vwCl w t.heap ∧ va_D A w) ∧ va_F A st t
def PI (E : EnvT) (ci : Nat) (fs0 : List Value) (h0 sz : Nat) (U : State) : Prop := U.heap.size = sz ∧ EC E U ∧ va_P (eD E) vwCl [(h0, .inr (ci, fs0))] U.heap
def CI (l : Launch) (E : EnvT) (y : MethodName) (cc : ByteArray) (nL : Nat) (R : Room) (mc ms : Nat) (av : List Value) (ci : Nat) (fs0 : List Value) (post : Nat → va_W → Prop) : Prop :=
  ∀ (h0 sz : Nat), Met l y (.code y cc nL none :: tb) R (va_Pc (.ref h0 :: av) (PI E ci fs0 h0 sz)) (QI E (AA h0 sz) (post h0)) mc ms (AA h0 sz)
def FxC (E : EnvT) (own : String) (cc : ByteArray) (nL : Nat) (p : Program) (s : State) (m : MethodId) (args : Array Value) (meth : Method) (c : Code) : Prop :=
  p.tables.exec = Jvm.exec ∧ c.code = cc ∧ c.maxLocals = nL ∧ meth.sig.returnType = none ∧ meth.locks = false ∧ s.vm.findClass own = some m.cls ∧ (∀ w ∈ tb, w.before args s = true) ∧ EC E s ∧ meth.name = "<init>"
def VC (l : Launch) (E : EnvT) (own : String) (cc : ByteArray) (nL : Nat) (R : Room) (A : Nat → Prop) (sz : Nat) (post : va_W → Prop) (mc ms : Nat) (ws : va_W) (cells slots pc : Nat) (lv : List (Nat × Value)) (st : List Value) : Prop :=
  ∀ (p : Program) (e : Env) (s : State) (m : MethodId) (args : Array Value) (below : List Frame) (meth : Method) (c : Code) (H : Heap) (locs : List Loc) (ls : Array Slot), FxC E own cc nL p s m args meth c → s.heap.size = sz → (∀ q, sz ≤ q → A q) → va_P (eD E) vwCl ws H → va_D A ws → va_S A s.heap H locs → lv_has ls nL lv → W p l e R s m args below meth c H locs cells slots (MQ below (QI E A post) args s mc ms A) (F0 m pc ls st)
theorem D_one {A : Nat → Prop} {q : Nat} {e : va_E} (h : A q) : va_D A [(q, e)] := by
  refine ⟨fun i j p q hi hj _ => ?_, fun k x hx => ?_⟩
  · have h1 : i < 1 := (List.getElem?_eq_some_iff.mp hi).1
    have h2 : j < 1 := (List.getElem?_eq_some_iff.mp hj).1
    omega
  · have h1 : k < 1 := (List.getElem?_eq_some_iff.mp hx).1
    rw [show k = 0 by omega] at hx
    cases hx
    exact h
theorem CI.ofVC {l : Launch} {E : EnvT} {y : MethodName} {own : String} {cc : ByteArray} {nL : Nat} {R : Room} {mc ms : Nat} {av : List Value} {ci : Nat} {fs0 : List Value} {post : Nat → va_W → Prop} (hy : plainName y.cls = true) (ho : y.cls = own) (hn : y.name = "<init>") (hlen : ∀ h0 : Nat, (lg_sl (.ref h0 :: av)).length ≤ nL) (h : ∀ h0 sz : Nat, VC l E own cc nL R (AA h0 sz) sz (post h0) mc ms [(h0, .inr (ci, fs0))] 0 0 0 (lv_args 0 (.ref h0 :: av)) []) : CI l E y cc nL R mc ms av ci fs0 post := by
  intro h0 sz
  refine Met.ofW (cc := cc) (maxL := nL) (ret := none) hy rfl ?_
  intro p e s m args below meth c s₁ B hml hv
  obtain ⟨rfl, hsz, hE, hP⟩ := hv
  have hts := atoms_spec (ws := .code y cc nL none :: tb) B.pre
  rw [lg_entry_eq]
  exact h h0 sz p e s m _ below meth c s.heap [] _ ⟨B.exec, B.bytes, hml, B.returns, B.notSynchronized, by rw [← ho]; exact findClass_of_methodNamed B.named, fun w hw => hts w (List.mem_cons_of_mem _ hw), hE, ((name_of_methodNamed B.named B.method).1).trans hn⟩ hsz (fun q hq => Or.inr hq) hP (D_one (Or.inl rfl)) va_S.rf (lv_entry _ (hlen h0))
theorem PI_blind {E : EnvT} {ci : Nat} {fs0 : List Value} {h0 sz : Nat} {av : List Value} : FrameBlind (va_Pc av (PI E ci fs0 h0 sz)) := fun a U g mk q => ⟨q.1, q.2.1, EC.same (u := U) rfl q.2.2.1, q.2.2.2⟩
theorem joinA {A0 : Nat → Prop} {D : va_G} {cl : List vw_C} {wr w1 : va_W} {q : Nat} {e : va_E} {H H1 : Heap} (hP : va_P D cl (wr ++ [(q, e)]) H) (hD : va_D A0 (wr ++ [(q, e)])) (hA : ∀ x, H.size ≤ x → A0 x) (hk : ∀ x : Nat, x < H.size → ¬ AA q H.size x → H1[x]? = H[x]?) (hP1 : va_P D cl w1 H1) (hD1 : va_D (AA q H.size) w1) : va_P D cl (wr ++ w1) H1 ∧ va_D A0 (wr ++ w1) := by
  have inl : ∀ (k : Nat) (x : Nat × va_E), wr[k]? = some x → (wr ++ [(q, e)])[k]? = some x := by
    intro k x hx
    rw [List.getElem?_append_left (List.getElem?_eq_some_iff.mp hx).1]
    exact hx
  have lst : (wr ++ [(q, e)])[wr.length]? = some (q, e) := by rw [List.getElem?_append_right (Nat.le_refl _)]; simp
  have apart : ∀ (k : Nat) (x : Nat × va_E), wr[k]? = some x → x.1 < H.size ∧ x.1 ≠ q := by
    intro k x hx
    refine ⟨(hP k x (inl k x hx)).lt, fun h => ?_⟩
    have h1 := hD.1 k wr.length x (q, e) (inl k x hx) lst h
    have h2 := (List.getElem?_eq_some_iff.mp hx).1
    omega
  refine ⟨va_P.app (fun k x hx => ?_) hP1, va_D.app ⟨fun i j x y hi hj h => hD.1 i j x y (inl i x hi) (inl j y hj) h, fun k x hx => hD.2 k x (inl k x hx)⟩ (hD1.weaken (fun k x _ h => ?_)) (fun i j x y hx hy hxy => ?_)⟩
  · obtain ⟨a1, a2⟩ := apart k x hx
    refine (hP k x (inl k x hx)).kept (hk x.1 a1 (fun h => ?_))
    rcases h with h | h
    · exact a2 h
    · omega
  · rcases h with h | h
    · rw [h]; exact hD.2 wr.length (q, e) lst
    · exact hA _ h
  · obtain ⟨a1, a2⟩ := apart i x hx
    have h := hD1.2 j y hy
    rcases h with h | h
    · exact a2 (hxy.trans h)
    · omega
section CRows
variable {l : Launch} {E : EnvT} {own : String} {cc : ByteArray} {nL : Nat} {R : Room} {A : Nat → Prop} {sz : Nat} {post : va_W → Prop} {mc ms : Nat} {ws ws' : va_W} {cells slots pc : Nat} {lv : List (Nat × Value)} {st : List Value}
theorem vi_eq (h : ws = ws') (k : VC l E own cc nL R A sz post mc ms ws' cells slots pc lv st) : VC l E own cc nL R A sz post mc ms ws cells slots pc lv st := by subst h; exact k
theorem vi_aload {k0 : Fin 4} {i x : Nat} (d : decode cc pc = .ok (.aload_n k0, 1)) (hi : (k0 : Nat) = i) (j : Nat) (hj : lv[j]? = some (i, .ref x)) (k : VC l E own cc nL R A sz post mc ms ws cells slots (pc + 1) lv (.ref x :: st)) : VC l E own cc nL R A sz post mc ms ws cells slots pc lv st := by
  intro p e s m args below meth c H locs ls F hsz hA hP hD hS hl
  exact lv_aload_n F.1 F.2.1 d hi (lv_at hl j hj) (k p e s m args below meth c H locs ls F hsz hA hP hD hS hl)
theorem vi_iload {k0 : Fin 4} {i : Nat} {x : Int32} (d : decode cc pc = .ok (.iload_n k0, 1)) (hi : (k0 : Nat) = i) (j : Nat) (hj : lv[j]? = some (i, .int x)) (k : VC l E own cc nL R A sz post mc ms ws cells slots (pc + 1) lv (.int x :: st)) : VC l E own cc nL R A sz post mc ms ws cells slots pc lv st := by
  intro p e s m args below meth c H locs ls F hsz hA hP hD hS hl
  exact lv_iload_n F.1 F.2.1 d hi (lv_at hl j hj) (k p e s m args below meth c H locs ls F hsz hA hP hD hS hl)
theorem vi_iconst {n : Int} {v : Int32} (d : decode cc pc = .ok (.iconst n, 1)) (hv : Int32.ofInt n = v) (k : VC l E own cc nL R A sz post mc ms ws cells slots (pc + 1) lv (.int v :: st)) : VC l E own cc nL R A sz post mc ms ws cells slots pc lv st := by
  intro p e s m args below meth c H locs ls F hsz hA hP hD hS hl
  exact lv_iconst F.1 F.2.1 d hv (k p e s m args below meth c H locs ls F hsz hA hP hD hS hl)
theorem vi_bipush {n : Int} {v : Int32} (d : decode cc pc = .ok (.bipush n, 2)) (hv : (Int8.ofInt n).toInt32 = v) (k : VC l E own cc nL R A sz post mc ms ws cells slots (pc + 2) lv (.int v :: st)) : VC l E own cc nL R A sz post mc ms ws cells slots pc lv st := by
  intro p e s m args below meth c H locs ls F hsz hA hP hD hS hl
  exact lv_bipush F.1 F.2.1 d hv (k p e s m args below meth c H locs ls F hsz hA hP hD hS hl)
theorem vi_sipush {n : Int} {v : Int32} (d : decode cc pc = .ok (.sipush n, 3)) (hv : (Int16.ofInt n).toInt32 = v) (k : VC l E own cc nL R A sz post mc ms ws cells slots (pc + 3) lv (.int v :: st)) : VC l E own cc nL R A sz post mc ms ws cells slots pc lv st := by
  intro p e s m args below meth c H locs ls F hsz hA hP hD hS hl
  exact lv_sipush F.1 F.2.1 d hv (k p e s m args below meth c H locs ls F hsz hA hP hD hS hl)
theorem vi_dup {va : Value} (d : decode cc pc = .ok (.dup, 1)) (hva : va.category = 1) (k : VC l E own cc nL R A sz post mc ms ws cells slots (pc + 1) lv (va :: va :: st)) : VC l E own cc nL R A sz post mc ms ws cells slots pc lv (va :: st) := by
  intro p e s m args below meth c H locs ls F hsz hA hP hD hS hl
  exact lv_dup F.1 F.2.1 d hva (k p e s m args below meth c H locs ls F hsz hA hP hD hS hl)
theorem vi_istore {k0 : Fin 4} {i : Nat} {x : Int32} {lv' : List (Nat × Value)} (d : decode cc pc = .ok (.istore_n k0, 1)) (hi : (k0 : Nat) = i) (hn : i < nL) (hlv : (i, Value.int x) :: lv.filter (fun q => !(q.1 == i) && !(q.1 + 1 == i && q.2.category == 2)) = lv') (k : VC l E own cc nL R A sz post mc ms ws cells slots (pc + 1) lv' st) : VC l E own cc nL R A sz post mc ms ws cells slots pc lv (.int x :: st) := by
  intro p e s m args below meth c H locs ls F hsz hA hP hD hS hl
  exact lv_istore_n F.1 F.2.1 d hi hl hn hlv (fun ls1 hl1 => k p e s m args below meth c H locs ls1 F hsz hA hP hD hS hl1)
theorem vi_iinc {i : Nat} {n : Int} {x v : Int32} {lv' : List (Nat × Value)} (d : decode cc pc = .ok (.iinc i n, 3)) (j : Nat) (hj : lv[j]? = some (i, .int x)) (hv : x + Int32.ofInt n = v) (hn : i < nL) (hlv : (i, Value.int v) :: lv.filter (fun q => !(q.1 == i) && !(q.1 + 1 == i && q.2.category == 2)) = lv') (k : VC l E own cc nL R A sz post mc ms ws cells slots (pc + 3) lv' st) : VC l E own cc nL R A sz post mc ms ws cells slots pc lv st := by
  intro p e s m args below meth c H locs ls F hsz hA hP hD hS hl
  exact lv_iinc F.1 F.2.1 d hl hj hv hn hlv (fun ls1 hl1 => k p e s m args below meth c H locs ls1 F hsz hA hP hD hS hl1)
theorem vi_goto {off : Int} {tgt : Nat} (d : decode cc pc = .ok (.goto off, 3)) (ht : (pc : Int) + off = (tgt : Int)) (k : VC l E own cc nL R A sz post mc ms ws cells slots tgt lv st) : VC l E own cc nL R A sz post mc ms ws cells slots pc lv st := by
  intro p e s m args below meth c H locs ls F hsz hA hP hD hS hl
  exact lv_goto F.1 F.2.1 d ht (k p e s m args below meth c H locs ls F hsz hA hP hD hS hl)
theorem vi_geT {x y : Int32} {off : Int} {tgt : Nat} (h : y ≤ x) (d : decode cc pc = .ok (.if_icmp .ge off, 3)) (ht : (pc : Int) + off = (tgt : Int)) (k : VC l E own cc nL R A sz post mc ms ws cells slots tgt lv st) : VC l E own cc nL R A sz post mc ms ws cells slots pc lv (.int y :: .int x :: st) := by
  intro p e s m args below meth c H locs ls F hsz hA hP hD hS hl
  exact lv_icmp_ge F.1 F.2.1 d ht (fun _ => k p e s m args below meth c H locs ls F hsz hA hP hD hS hl) (fun q => absurd h q)
theorem vi_geF {x y : Int32} {off : Int} {tgt : Nat} (h : ¬ y ≤ x) (d : decode cc pc = .ok (.if_icmp .ge off, 3)) (ht : (pc : Int) + off = (tgt : Int)) (k : VC l E own cc nL R A sz post mc ms ws cells slots (pc + 3) lv st) : VC l E own cc nL R A sz post mc ms ws cells slots pc lv (.int y :: .int x :: st) := by
  intro p e s m args below meth c H locs ls F hsz hA hP hD hS hl
  exact lv_icmp_ge F.1 F.2.1 d ht (fun q => absurd q h) (fun _ => k p e s m args below meth c H locs ls F hsz hA hP hD hS hl)
theorem vi_obj {idx : Nat} {a : Nat} (h1 : Cond.methodLink own idx objectInit ∈ tb) (h2 : Cond.instanceMethod objectInit ∈ tb) (h3 : Cond.code objectInit ⟨#[0xb1]⟩ 1 none ∈ tb) (hf : 1 ≤ R.frames) (hlo : (st.map fun v => v.category).sum + 12 ≤ R.locals) (d : decode cc pc = .ok (.invokespecial idx, 3)) (k : VC l E own cc nL R A sz post mc ms ws cells slots (pc + 3) lv st) : VC l E own cc nL R A sz post mc ms ws cells slots pc lv (.ref a :: st) := by
  intro p e s m args below meth c H locs ls F hsz hA hP hD hS hl
  have K := k p e s m args below meth c H locs ls F hsz hA hP hD hS hl
  obtain ⟨hx, hb, hml, -, -, hown, hts, hE, -⟩ := F
  exact W.objInit hx hb hown (hts _ h1) (hts _ h2) (hts _ h3) rfl (by rw [hml]; exact hl.1) rfl d hf (by show 2 * 0 + _ + 12 ≤ _; omega) K
theorem vi_get {q ci k : Nat} {fs : List Value} {v : Value} {C : String} {T : u_T} {NN index : Nat} {a : Nat} (he : ws[q]? = some (a, .inr (ci, fs))) (hc : vwCl[ci]? = some (C, T, NN)) (hk : k < NN) (hin : ∀ w ∈ u_ws C T NN, w ∈ tb) (hlink : Cond.fieldLink own index (T k).1 (T k).2.1 (T k).2.2.1 ∈ tb) (hv : fs[k]? = some v) (d : decode cc pc = .ok (.getfield index, 3)) (kk : VC l E own cc nL R A sz post mc ms ws cells slots (pc + 3) lv (v :: st)) : VC l E own cc nL R A sz post mc ms ws cells slots pc lv (.ref a :: st) := by
  intro p e s m args below meth c H locs ls F hsz hA hP hD hS hl
  have K := kk p e s m args below meth c H locs ls F hsz hA hP hD hS hl
  obtain ⟨hx, hb, hml, -, -, hown, hts, hE, -⟩ := F
  exact va_get (D := eD E) (ci := ci) (C := C) (T := T) (N := NN) hx hb hts hin hown hE.1 hP q he hc k hk (hts _ hlink) (fun _ h => h) hv d K
theorem vi_put {q ci k : Nat} {fs : List Value} {x : Value} {C : String} {T : u_T} {NN index a : Nat} {ty : FieldType} (ty0 : Nat → FieldType) (hty : ∀ k, k < NN → parseFieldDescriptor (T k).2.2.1 = some (ty0 k)) (hnm : ∀ a, a < NN → ∀ b, b < NN → a ≠ b → (T a).2.1 ≠ (T b).2.1) (he : ws[q]? = some (a, .inr (ci, fs))) (hc : vwCl[ci]? = some (C, T, NN)) (hk : k < NN) (hin : ∀ w ∈ u_ws C T NN, w ∈ tb) (hlink : Cond.fieldLink own index (T k).1 (T k).2.1 (T k).2.2.1 ∈ tb) (hfin : (T k).2.2.2 = false) (hd : parseFieldDescriptor (T k).2.2.1 = some ty) (hn : narrow ty x = x) (hfit : fits ty x = true) (hl0 : k < fs.length) (hw : ws.set q (a, .inr (ci, fs.set k x)) = ws') (d : decode cc pc = .ok (.putfield index, 3)) (kk : VC l E own cc nL R A sz post mc ms ws' cells slots (pc + 3) lv st) : VC l E own cc nL R A sz post mc ms ws cells slots pc lv (x :: .ref a :: st) := by
  subst hw
  intro p e s m args below meth c H locs ls F hsz hA hP hD hS hl
  have K := fun H1 locs1 x1 x2 x3 => kk p e s m args below meth c H1 locs1 ls F hsz hA x1 x2 x3 hl
  obtain ⟨hx, hb, hml, -, -, hown, hts, hE, -⟩ := F
  exact va_put (D := eD E) (ci := ci) (C := C) (T := T) (N := NN) hx hb hts hin ty0 hty hnm hown hE.1 hP hD hS q he hc k hk (hts _ hlink) (fun _ h => h) hfin hd hn hfit hl0 d K
theorem vi_putF {q ci k : Nat} {fs : List Value} {x : Value} {C : String} {T : u_T} {NN index a : Nat} {ty : FieldType} (ty0 : Nat → FieldType) (hty : ∀ k, k < NN → parseFieldDescriptor (T k).2.2.1 = some (ty0 k)) (hnm : ∀ a, a < NN → ∀ b, b < NN → a ≠ b → (T a).2.1 ≠ (T b).2.1) (he : ws[q]? = some (a, .inr (ci, fs))) (hc : vwCl[ci]? = some (C, T, NN)) (hk : k < NN) (hin : ∀ w ∈ u_ws C T NN, w ∈ tb) (hlink : Cond.fieldLink own index (T k).1 (T k).2.1 (T k).2.2.1 ∈ tb) (hfin : (T k).2.2.2 = true) (hdecl : (T k).1 = own) (hd : parseFieldDescriptor (T k).2.2.1 = some ty) (hn : narrow ty x = x) (hfit : fits ty x = true) (hl0 : k < fs.length) (hw : ws.set q (a, .inr (ci, fs.set k x)) = ws') (d : decode cc pc = .ok (.putfield index, 3)) (kk : VC l E own cc nL R A sz post mc ms ws' cells slots (pc + 3) lv st) : VC l E own cc nL R A sz post mc ms ws cells slots pc lv (x :: .ref a :: st) := by
  subst hw
  intro p e s m args below meth c H locs ls F hsz hA hP hD hS hl
  have K := fun H1 locs1 x1 x2 x3 => kk p e s m args below meth c H1 locs1 ls F hsz hA x1 x2 x3 hl
  obtain ⟨hx, hb, hml, -, -, hown, hts, hE, hin2⟩ := F
  exact va_putF (D := eD E) (ci := ci) (C := C) (T := T) (N := NN) hx hb hts hin ty0 hty hnm hown hE.1 hP hD hS q he hc k hk (hts _ hlink) (fun _ h => h) hfin hin2 hdecl hd hn hfit hl0 d K
theorem vi_newa {n : Int32} {N' t0 : Nat} {atype : ArrayType} {ty : FieldType} (harr : Cond.arrayClass (newarray.typeOf atype) ∈ tb) (hty : newarray.typeOf atype = ty) (ht : (tysE E)[t0]? = some (eC E t0, ty)) (hno : ∀ C : String, ty ≠ .object C) (h0 : defaultValue ty = .int 0) (hn : ¬ n < 0) (hN : n.toNatClampNeg = N') (hbytes : N' * componentBytes ty ≤ 536870912) (hc : cells + 1 ≤ R.cells) (hs : slots + N' ≤ R.slots) (d : decode cc pc = .ok (.newarray atype, 2)) (kk : ∀ q : Nat, VC l E own cc nL R A sz post mc ms (ws ++ [(q, .inl (eC E t0, (N', .inl (fun _ => 0))))]) (cells + 1) (slots + N') (pc + 2) lv (.ref q :: st)) : VC l E own cc nL R A sz post mc ms ws cells slots pc lv (.int n :: st) := by
  intro p e s m args below meth c H locs ls F hsz hA hP hD hS hl
  have K := fun q H1 x1 x2 x3 => kk q p e s m args below meth c H1 locs ls F hsz hA x1 x2 x3 hl
  obtain ⟨hx, hb, hml, -, -, hown, hts, hE, -⟩ := F
  refine va_newa (a0 := (N', .inl (fun _ => 0))) hx hb (hts _ harr) hty hE.1 hP hD hS (fun q hq => hA q (by rw [← hsz]; exact hq)) (fun cA => by rw [vp_cell_i, h0]) hn hN hbytes hc hs d (fun q cA H1 hK1 hP1 hD1 hS1 => ?_)
  have e1 : cA = eC E t0 := by
    have a1 := (hK1.2 5 (cA, ty) (by rw [List.getElem?_append_right (Nat.le_refl 5)]; rfl)).2
    have a2 := (hE.1.2 t0 (eC E t0, ty) ht).2
    cases ty <;> first | exact Option.some.inj (a1.symm.trans a2) | exact absurd rfl (hno _)
  rw [e1] at hP1 hD1
  exact K q H1 hP1 hD1 hS1
theorem vi_newq {n : Int32} {N' t0 index : Nat} {C : String} (hcl : Cond.classLink own index C ∈ tb) (hAO : EC E = EC E → ∀ s, EC E s → va_AO C s) (ht : (tysE E)[t0]? = some (eC E t0, .object C)) (hn : ¬ n < 0) (hN : n.toNatClampNeg = N') (hbytes : N' * 4 ≤ 536870912) (hc : cells + 1 ≤ R.cells) (hs : slots + N' ≤ R.slots) (d : decode cc pc = .ok (.anewarray index, 3)) (kk : ∀ q : Nat, VC l E own cc nL R A sz post mc ms (ws ++ [(q, .inl (eC E t0, (N', .inr (.inr (.inr (.inr (fun _ => none)))))))]) (cells + 1) (slots + N') (pc + 3) lv (.ref q :: st)) : VC l E own cc nL R A sz post mc ms ws cells slots pc lv (.int n :: st) := by
  intro p e s m args below meth c H locs ls F hsz hA hP hD hS hl
  have K := fun q H1 x1 x2 x3 => kk q p e s m args below meth c H1 locs ls F hsz hA x1 x2 x3 hl
  obtain ⟨hx, hb, hml, -, -, hown, hts, hE, -⟩ := F
  refine va_newq hx hb hown (hts _ hcl) (hAO rfl s hE) hE.1 hP hD hS (fun q hq => hA q (by rw [← hsz]; exact hq)) hn hN hbytes hc hs d (fun q cA H1 hK1 hP1 hD1 hS1 => ?_)
  have e1 : cA = eC E t0 := by
    obtain ⟨_, _, _, _, _, a1⟩ := (hK1.2 5 (cA, .object C) (by rw [List.getElem?_append_right (Nat.le_refl 5)]; rfl)).2
    obtain ⟨_, _, _, _, _, a2⟩ := (hE.1.2 t0 (eC E t0, .object C) ht).2
    exact Option.some.inj (a1.symm.trans a2)
  rw [e1] at hP1 hD1
  exact K q H1 hP1 hD1 hS1
theorem vi_new {index ci NN : Nat} {C : String} {T : u_T} {fs : List Value} (ty : Nat → FieldType) (hty : ∀ k, k < NN → parseFieldDescriptor (T k).2.2.1 = some (ty k)) (hcl : Cond.classLink own index C ∈ tb) (hin0 : Cond.instantiable C NN ∈ tb) (hini : Cond.initialized C ∈ tb) (hin : ∀ w ∈ u_ws C T NN, w ∈ tb) (hc0 : vwCl[ci]? = some (C, T, NN)) (hfs : ∀ j, j < NN → defaultValue (ty j) = vp_V fs j) (hc : cells + 1 ≤ R.cells) (hs : slots + NN ≤ R.slots) (d : decode cc pc = .ok (.new index, 3)) (kk : ∀ q : Nat, VC l E own cc nL R A sz post mc ms (ws ++ [(q, .inr (ci, fs))]) (cells + 1) (slots + NN) (pc + 3) lv (.ref q :: st)) : VC l E own cc nL R A sz post mc ms ws cells slots pc lv st := by
  intro p e s m args below meth c H locs ls F hsz hA hP hD hS hl
  have K := fun q H1 x1 x2 x3 => kk q p e s m args below meth c H1 locs ls F hsz hA x1 x2 x3 hl
  obtain ⟨hx, hb, hml, -, -, hown, hts, hE, -⟩ := F
  exact va_new (ci := ci) (C := C) (T := T) (N := NN) hx hb hts hin ty hty hown (hts _ hcl) (hts _ hin0) (hts _ hini) hE.1 hP hD hS (fun q hq => hA q (by rw [← hsz]; exact hq)) hc0 hfs hc hs d K
theorem call_goI {p : Program} {e : Env} {s : State} {m : MethodId} {args : Array Value} {below : List Frame} {meth : Method} {c : Code} {H : Heap} {locs : List Loc} {ls : Array Slot} {st0 rest : List Value} {post1 : va_W → Prop} {a : Array Value} {Q : State → Prop} {q mc1 ms1 : Nat} {wr : va_W} {e0 : va_E} (hr : va_Run p l e R s m args below meth c H locs cells slots mc1 ms1 (F0 m pc ls st0) rest (QI E (AA q H.size) post1 a) (AA q H.size)) (hA : ∀ x, s.heap.size ≤ x → A x) (hP : va_P (eD E) vwCl (wr ++ [(q, e0)]) H) (hD : va_D A (wr ++ [(q, e0)])) (hS : va_S A s.heap H locs) (kk : ∀ (w : va_W) (H1 : Heap) (locs1 : List Loc), post1 w → va_P (eD E) vwCl (wr ++ w) H1 → va_D A (wr ++ w) → va_S A s.heap H1 locs1 → W p l e R s m args below meth c H1 locs1 (cells + mc1) (slots + ms1) Q (F0 m (pc + 3) ls rest)) : W p l e R s m args below meth c H locs cells slots Q (F0 m pc ls st0) := by
  have hq : A q := hD.2 wr.length (q, e0) (by rw [List.getElem?_append_right (Nat.le_refl _)]; simp)
  have hAA : ∀ x, AA q H.size x → A x := fun x h => h.elim (fun e => by rw [e]; exact hq) (fun h => hA x (Nat.le_trans hS.1 h))
  intro T hT X
  obtain ⟨v', st₀, t, T', L, h0, X', hL, e1, e2, ⟨hv, ⟨w, hw, hPw, hDw⟩, hz, hk⟩, st⟩ := hr T hT X
  cases hv
  rw [h0] at hz hk
  obtain ⟨j1, j2⟩ := joinA hP hD (fun x hx => hA x (Nat.le_trans hS.1 hx)) hk hPw hDw
  obtain ⟨t2, a1, b1⟩ := kk w T'.heap (locs ++ L) hw (by rw [e1]; exact j1) j2
    ⟨Nat.le_trans hS.1 (by rw [e1]; exact hz), fun x h1 h2 => by rw [e1, hk x (Nat.lt_of_lt_of_le h1 hS.1) (fun z => h2 (hAA x z))]; exact hS.2.1 x h1 h2, fun x hx => by
      rcases List.mem_append.mp hx with h | h
      · exact hS.2.2 x h
      · exact hAA _ (hL x h)⟩ T' rfl X'
  exact ⟨t2, st t2 a1, b1⟩
theorem P_last {D : va_G} {cl : List vw_C} {wr : va_W} {q : Nat} {e0 : va_E} {H : Heap} (h : va_P D cl (wr ++ [(q, e0)]) H) : va_P D cl [(q, e0)] H := by
  intro k x hx
  have h1 : k < 1 := (List.getElem?_eq_some_iff.mp hx).1
  rw [show k = 0 by omega] at hx
  cases hx
  exact h wr.length (q, e0) (by rw [List.getElem?_append_right (Nat.le_refl _)]; simp)
theorem vi_init {y : MethodName} {bytes : ByteArray} {maxL index n mc1 ms1 ci q : Nat} {rm : Room} {fs0 : List Value} {post1 : Nat → va_W → Prop} {As rest st0 : List Value} {wr : va_W} (hM : CI l E y bytes maxL rm mc1 ms1 As ci fs0 post1) (h1 : Cond.instanceMethod y ∈ tb) (h2 : Cond.initialized y.cls ∈ tb) (h3 : Cond.code y bytes maxL none ∈ tb) (h4 : y.cls ≠ "java/lang/invoke/MethodHandle" ∧ y.cls ≠ "java/lang/invoke/VarHandle" ∧ (parseMethodDescriptor y.desc).map (fun d => d.parameters.length) = some n) (hy1 : y.name = "<init>") (hl0 : Cond.methodLink own index y ∈ tb) (hrm : rm.cells = mc1 ∧ rm.slots = ms1) (hR : rm.frames + 1 ≤ R.frames ∧ 8 + (maxL + 11) + rm.locals ≤ R.locals) (hcs : cells + mc1 ≤ R.cells ∧ slots + ms1 ≤ R.slots) (hn : As.length = n) (hst : st0 = As.reverse ++ .ref q :: rest) (hw : (rest.map fun v => v.category).sum ≤ 8) (d : decode cc pc = .ok (.invokespecial index, 3)) (kk : ∀ w : va_W, post1 q w → VC l E own cc nL R A sz post mc ms (wr ++ w) (cells + mc1) (slots + ms1) (pc + 3) lv rest) : VC l E own cc nL R A sz post mc ms (wr ++ [(q, .inr (ci, fs0))]) cells slots pc lv st0 := by
  intro p e s m args below meth c H locs ls F hsz hA hP hD hS hl
  have K := fun w H1 locs1 x0 x1 x2 x3 => kk w x0 p e s m args below meth c H1 locs1 ls F hsz hA x1 x2 x3 hl
  obtain ⟨hx, hb, hml, -, -, hown, hts, hE, -⟩ := F
  exact call_goI (va_runI (As := As) (rest := rest) (b := q) (bytes := bytes) (maxL := maxL) (index := index) (n := n) ⟨hx, hb, hml, hown, hts⟩ (hM q H.size) ⟨callB_of n hts (good_code h3) rfl hrm.1 hrm.2 (hts _ h2) (hts _ hl0) h4 hR, hy1, hts _ h1⟩ ⟨PI_blind, fun U hU hW => ⟨rfl, by rw [hU], hE.move hW, by rw [hU]; exact P_last hP⟩⟩ rfl hn hl.1 hst (lv_room hw) d ⟨hcs.1, hcs.2⟩) (fun x hx => hA x (by rw [← hsz]; exact hx)) hP hD hS K
theorem vi_initN {y : MethodName} {bytes : ByteArray} {maxL index n mc1 ms1 ci q : Nat} {host : String} {rm : Room} {fs0 : List Value} {post1 : Nat → va_W → Prop} {As rest st0 : List Value} {wr : va_W} (hM : CI l E y bytes maxL rm mc1 ms1 As ci fs0 post1) (h1 : Cond.instanceMethod y ∈ tb) (h2 : Cond.initialized y.cls ∈ tb) (h3 : Cond.code y bytes maxL none ∈ tb) (h4 : y.cls ≠ "java/lang/invoke/MethodHandle" ∧ y.cls ≠ "java/lang/invoke/VarHandle" ∧ (parseMethodDescriptor y.desc).map (fun d => d.parameters.length) = some n) (hy1 : y.name = "<init>") (hl0 : Cond.methodLinkNest own index y host ∈ lw_tbl) (hrm : rm.cells = mc1 ∧ rm.slots = ms1) (hR : rm.frames + 1 ≤ R.frames ∧ 8 + (maxL + 11) + rm.locals ≤ R.locals) (hcs : cells + mc1 ≤ R.cells ∧ slots + ms1 ≤ R.slots) (hn : As.length = n) (hst : st0 = As.reverse ++ .ref q :: rest) (hw : (rest.map fun v => v.category).sum ≤ 8) (d : decode cc pc = .ok (.invokespecial index, 3)) (kk : ∀ w : va_W, post1 q w → VC l E own cc nL R A sz post mc ms (wr ++ w) (cells + mc1) (slots + ms1) (pc + 3) lv rest) : VC l E own cc nL R A sz post mc ms (wr ++ [(q, .inr (ci, fs0))]) cells slots pc lv st0 := by
  intro p e s m args below meth c H locs ls F hsz hA hP hD hS hl
  have K := fun w H1 locs1 x0 x1 x2 x3 => kk w x0 p e s m args below meth c H1 locs1 ls F hsz hA x1 x2 x3 hl
  obtain ⟨hx, hb, hml, -, -, hown, hts, hE, -⟩ := F
  exact call_goI (va_runIN (As := As) (rest := rest) (b := q) (bytes := bytes) (maxL := maxL) (index := index) (n := n) (host := host) ⟨hx, hb, hml, hown, hts⟩ (hM q H.size) ⟨va_cnB n hts (good_code h3) rfl hrm.1 hrm.2 (hE.2.1 _ hl0 rfl) (hts _ h2) h4 hR, hy1, hts _ h1⟩ ⟨PI_blind, fun U hU hW => ⟨rfl, by rw [hU], hE.move hW, by rw [hU]; exact P_last hP⟩⟩ rfl hn hl.1 hst (lv_room hw) d ⟨hcs.1, hcs.2⟩) (fun x hx => hA x (by rw [← hsz]; exact hx)) hP hD hS K
theorem vi_ret (hp : post ws) (hc : cells ≤ mc) (hs : slots ≤ ms) (d : decode cc pc = .ok (.return_, 1)) : VC l E own cc nL R A sz post mc ms ws cells slots pc lv [] := by
  intro p e s m args below meth c H locs ls F hsz hA hP hD hS hl
  obtain ⟨hx, hb, -, hrt, hlk, -⟩ := F
  refine W.widen hc hs ?_
  exact W.vret hx hb hrt (fun t ht hW => ⟨rfl, ⟨ws, hp, by rw [ht]; exact hP, hD⟩, hS.F ht⟩) hS.2.2 d hlk
theorem vi_max {index : Nat} {x y : Int32} (hl0 : Cond.methodLink own index Lib.Math.max.name ∈ tb) (hst : Cond.static Lib.Math.max.name ∈ tb) (hini : Cond.initialized "java/lang/Math" ∈ tb) (hcode : Cond.code Lib.Math.max.name Lib.Math.max.code 2 (some .int) ∈ tb) (hf : 1 ≤ R.frames) (hlo : (st.map fun v => v.category).sum + 13 ≤ R.locals) (hcs : cells ≤ R.cells ∧ slots ≤ R.slots) (d : decode cc pc = .ok (.invokestatic index, 3)) (k : VC l E own cc nL R A sz post mc ms ws cells slots (pc + 3) lv (.int (if x < y then y else x) :: st)) : VC l E own cc nL R A sz post mc ms ws cells slots pc lv (.int y :: .int x :: st) := by
  intro p e s m args below meth c H locs ls F hsz hA hP hD hS hl
  have K := k p e s m args below meth c H locs ls F hsz hA hP hD hS hl
  obtain ⟨hx, hb, hml, -, -, hown, hts, hE, -⟩ := F
  exact va_mmax hx hb (hml.trans hl.1.symm) hown (hts _ hl0) (hts _ hst) (hts _ hini) (hts _ hcode) hf hlo hcs.1 hcs.2 d K
theorem vi_iast {q n : Nat} {f : Nat → Int32} {i x : Int32} {a : Nat} (he : ws[q]? = some (a, .inl (eC E 1, (n, .inl f)))) (hi : inR i n = true) (hw : ws.set q (a, .inl (eC E 1, (n, .inl (upd f i.toNatClampNeg x)))) = ws') (d : decode cc pc = .ok (.iastore, 1)) (kk : VC l E own cc nL R A sz post mc ms ws' cells slots (pc + 1) lv st) : VC l E own cc nL R A sz post mc ms ws cells slots pc lv (.int x :: .int i :: .ref a :: st) := by
  subst hw
  intro p e s m args below meth c H locs ls F hsz hA hP hD hS hl
  have K := fun H1 locs1 x1 x2 x3 => kk p e s m args below meth c H1 locs1 ls F hsz hA x1 x2 x3 hl
  obtain ⟨hx, hb, hml, -, -, hown, hts, hE, -⟩ := F
  exact va_iast hx hb hE.1 hP hD hS q 1 he rfl (inR_vp hi) d K
theorem vi_astq {q qk ci n t0 v a : Nat} {r : vw_C} {vs : List Value} {f : Nat → Option Nat} {i : Int32} (ha : ws[q]? = some (a, .inl (eC E t0, (n, .inr (.inr (.inr (.inr f))))))) (ht : (tysE E)[t0]? = some (eC E t0, .object r.1)) (hv : ws[qk]? = some (v, .inr (ci, vs))) (hc : vwCl[ci]? = some r) (hi : inR i n = true) (hw : ws.set q (a, .inl (eC E t0, (n, .inr (.inr (.inr (.inr (va_up f i.toNatClampNeg (some v)))))))) = ws') (d : decode cc pc = .ok (.aastore, 1)) (kk : VC l E own cc nL R A sz post mc ms ws' cells slots (pc + 1) lv st) : VC l E own cc nL R A sz post mc ms ws cells slots pc lv (.ref v :: .int i :: .ref a :: st) := by
  subst hw
  intro p e s m args below meth c H locs ls F hsz hA hP hD hS hl
  have K := fun H1 locs1 x1 x2 x3 => kk p e s m args below meth c H1 locs1 ls F hsz hA x1 x2 x3 hl
  obtain ⟨hx, hb, hml, -, -, hown, hts, hE, -⟩ := F
  exact va_astq hx hb hE.1 hP hD hS q t0 qk ci ha ht hv hc (inR_vp hi) d K
end CRows
