/-- the judgement while the world is being made: any list of cells -/
def PW (x : Cx) (g : Gb) (A : Nat → Prop) (nL ce sl pc : Nat) (lv : List (Nat × Value)) (st : List Value) (ws : va_W) : Prop :=
  ∀ (H : Heap) (locs : List Loc) (ls : Array Slot), va_P g.1 vwCl ws H → va_D A ws → va_S A x.2.2.2.2.1.heap H locs → lv_has ls nL lv →
    W x.1 x.2.1 x.2.2.1 x.2.2.2.1 x.2.2.2.2.1 x.2.2.2.2.2.1 x.2.2.2.2.2.2.1 x.2.2.2.2.2.2.2.1 x.2.2.2.2.2.2.2.2.1 x.2.2.2.2.2.2.2.2.2.1 H locs ce sl x.2.2.2.2.2.2.2.2.2.2 (F0 x.2.2.2.2.2.1 pc ls st)
def CP (x : Cx) (g : Gb) (A : Nat → Prop) (own : String) (cc : ByteArray) (nL : Nat) (rm : Room) : Prop :=
  x.1.tables.exec = Jvm.exec ∧ x.2.2.2.2.2.2.2.2.2.1.code = cc ∧ x.2.2.2.2.2.2.2.2.2.1.maxLocals = nL ∧ x.2.2.2.2.1.vm.findClass own = some x.2.2.2.2.2.1.cls ∧ (∀ w ∈ WS, w.before x.2.2.2.2.2.2.1 x.2.2.2.2.1 = true) ∧
  va_K g.1 vwCl (tyl g) x.2.2.2.2.1 ∧ (∀ q, x.2.2.2.2.1.heap.size ≤ q → A q) ∧ NW x.2.2.2.2.1 ∧ va_AOA .int x.2.2.2.2.1 ∧ x.2.2.2.1 = rm ∧ x.2.2.2.2.2.2.2.2.1.locks = false
section PB
variable {x : Cx} {g : Gb} {A : Nat → Prop} {own : String} {cc : ByteArray} {nL : Nat} {rm : Room}
theorem CP.ex (C : CP x g A own cc nL rm) : x.1.tables.exec = Jvm.exec := C.1
theorem CP.by (C : CP x g A own cc nL rm) : x.2.2.2.2.2.2.2.2.2.1.code = cc := C.2.1
theorem CP.ml (C : CP x g A own cc nL rm) : x.2.2.2.2.2.2.2.2.2.1.maxLocals = nL := C.2.2.1
theorem CP.ow (C : CP x g A own cc nL rm) : x.2.2.2.2.1.vm.findClass own = some x.2.2.2.2.2.1.cls := C.2.2.2.1
theorem CP.ts (C : CP x g A own cc nL rm) : ∀ w ∈ WS, w.before x.2.2.2.2.2.2.1 x.2.2.2.2.1 = true := C.2.2.2.2.1
theorem CP.K (C : CP x g A own cc nL rm) : va_K g.1 vwCl (tyl g) x.2.2.2.2.1 := C.2.2.2.2.2.1
theorem CP.af (C : CP x g A own cc nL rm) : ∀ q, x.2.2.2.2.1.heap.size ≤ q → A q := C.2.2.2.2.2.2.1
theorem CP.nw (C : CP x g A own cc nL rm) : NW x.2.2.2.2.1 := C.2.2.2.2.2.2.2.1
theorem CP.ao (C : CP x g A own cc nL rm) : va_AOA .int x.2.2.2.2.1 := C.2.2.2.2.2.2.2.2.1
theorem CP.ro (C : CP x g A own cc nL rm) : x.2.2.2.1 = rm := C.2.2.2.2.2.2.2.2.2.1
theorem CP.lk (C : CP x g A own cc nL rm) : x.2.2.2.2.2.2.2.2.1.locks = false := C.2.2.2.2.2.2.2.2.2.2
end PB
section PI
variable {x : Cx} {g : Gb} {A : Nat → Prop} {own : String} {cc : ByteArray} {nL ce sl pc : Nat} {rm : Room} {lv : List (Nat × Value)} {st : List Value} {ws : va_W}
theorem p_aload_n (C : CP x g A own cc nL rm) {k : Fin 4} {i : Nat} {v : Nat} (hdg : decode cc pc = .ok (.aload_n k, 1)) (hi : (k : Nat) = i) (q : Nat) (hq : lv[q]? = some (i, .ref v)) (pn : Nat) (hp : pc + 1 = pn) (k : PW x g A nL ce sl pn lv (.ref v :: st) ws) : PW x g A nL ce sl pc lv st ws := by
  subst hp
  exact fun H locs ls hP hD hS hl => lv_aload_n C.ex C.by hdg hi (lv_at hl q hq) (k H locs ls hP hD hS hl)
theorem p_iload_n (C : CP x g A own cc nL rm) {k : Fin 4} {i : Nat} {v : Int32} (hdg : decode cc pc = .ok (.iload_n k, 1)) (hi : (k : Nat) = i) (q : Nat) (hq : lv[q]? = some (i, .int v)) (pn : Nat) (hp : pc + 1 = pn) (k : PW x g A nL ce sl pn lv (.int v :: st) ws) : PW x g A nL ce sl pc lv st ws := by
  subst hp
  exact fun H locs ls hP hD hS hl => lv_iload_n C.ex C.by hdg hi (lv_at hl q hq) (k H locs ls hP hD hS hl)
theorem p_istore_n (C : CP x g A own cc nL rm) {k : Fin 4} {i : Nat} {v : Int32} (lw : List (Nat × Value)) (hdg : decode cc pc = .ok (.istore_n k, 1)) (hi : (k : Nat) = i) (hn : i < nL) (hl9 : (i, Value.int v) :: lv.filter (fun q => !(q.1 == i) && !(q.1 + 1 == i && q.2.category == 2)) = lw) (pn : Nat) (hp : pc + 1 = pn) (k : PW x g A nL ce sl pn lw st ws) : PW x g A nL ce sl pc lv (.int v :: st) ws := by
  subst hp
  exact fun H locs ls hP hD hS hl => lv_istore_n C.ex C.by hdg hi hl hn hl9 (fun ls hl => k H locs ls hP hD hS hl)
theorem p_iinc (C : CP x g A own cc nL rm) {i : Nat} {n : Int} {y v : Int32} (lw : List (Nat × Value)) (hdg : decode cc pc = .ok (.iinc i n, 3)) (q : Nat) (hq : lv[q]? = some (i, .int y)) (hv : y + Int32.ofInt n = v) (hn : i < nL) (hl9 : (i, Value.int v) :: lv.filter (fun q => !(q.1 == i) && !(q.1 + 1 == i && q.2.category == 2)) = lw) (pn : Nat) (hp : pc + 3 = pn) (k : PW x g A nL ce sl pn lw st ws) : PW x g A nL ce sl pc lv st ws := by
  subst hp
  exact fun H locs ls hP hD hS hl => lv_iinc C.ex C.by hdg hl hq hv hn hl9 (fun ls hl => k H locs ls hP hD hS hl)
theorem p_goto (C : CP x g A own cc nL rm) {off : Int} (hdg : decode cc pc = .ok (.goto off, 3)) (pn : Nat) (ht : (pc : Int) + off = (pn : Int)) (k : PW x g A nL ce sl pn lv st ws) : PW x g A nL ce sl pc lv st ws :=
  fun H locs ls hP hD hS hl => lv_goto C.ex C.by hdg ht (k H locs ls hP hD hS hl)
theorem p_icmp_ge (C : CP x g A own cc nL rm) {a b : Int32} {off : Int} (hdg : decode cc pc = .ok (.if_icmp .ge off, 3)) (tg : Nat) (ht : (pc : Int) + off = (tg : Int)) (pn : Nat) (hp : pc + 3 = pn) (kt : b ≤ a → PW x g A nL ce sl tg lv st ws) (kf : ¬ b ≤ a → PW x g A nL ce sl pn lv st ws) : PW x g A nL ce sl pc lv (.int b :: .int a :: st) ws := by
  subst hp
  exact fun H locs ls hP hD hS hl => lv_icmp_ge C.ex C.by hdg ht (fun h => kt h H locs ls hP hD hS hl) (fun h => kf h H locs ls hP hD hS hl)
theorem p_iconst (C : CP x g A own cc nL rm) {n : Int} {v : Int32} (hdg : decode cc pc = .ok (.iconst n, 1)) (hv : Int32.ofInt n = v) (pn : Nat) (hp : pc + 1 = pn) (k : PW x g A nL ce sl pn lv (.int v :: st) ws) : PW x g A nL ce sl pc lv st ws := by
  subst hp
  exact fun H locs ls hP hD hS hl => lv_iconst C.ex C.by hdg hv (k H locs ls hP hD hS hl)
theorem p_bipush (C : CP x g A own cc nL rm) {n : Int} {v : Int32} (hdg : decode cc pc = .ok (.bipush n, 2)) (hv : (Int8.ofInt n).toInt32 = v) (pn : Nat) (hp : pc + 2 = pn) (k : PW x g A nL ce sl pn lv (.int v :: st) ws) : PW x g A nL ce sl pc lv st ws := by
  subst hp
  exact fun H locs ls hP hD hS hl => lv_bipush C.ex C.by hdg hv (k H locs ls hP hD hS hl)
theorem p_sipush (C : CP x g A own cc nL rm) {n : Int} {v : Int32} (hdg : decode cc pc = .ok (.sipush n, 3)) (hv : (Int16.ofInt n).toInt32 = v) (pn : Nat) (hp : pc + 3 = pn) (k : PW x g A nL ce sl pn lv (.int v :: st) ws) : PW x g A nL ce sl pc lv st ws := by
  subst hp
  exact fun H locs ls hP hD hS hl => lv_sipush C.ex C.by hdg hv (k H locs ls hP hD hS hl)
theorem p_dup (C : CP x g A own cc nL rm) {a : Value} (hdg : decode cc pc = .ok (.dup, 1)) (ha : a.category = 1) (pn : Nat) (hp : pc + 1 = pn) (k : PW x g A nL ce sl pn lv (a :: a :: st) ws) : PW x g A nL ce sl pc lv (a :: st) ws := by
  subst hp
  exact fun H locs ls hP hD hS hl => lv_dup C.ex C.by hdg ha (k H locs ls hP hD hS hl)
theorem p_astore_n (C : CP x g A own cc nL rm) {k : Fin 4} {i : Nat} {v : Nat} (lw : List (Nat × Value)) (hdg : decode cc pc = .ok (.astore_n k, 1)) (hi : (k : Nat) = i) (hn : i < nL) (hl9 : (i, Value.ref v) :: lv.filter (fun q => !(q.1 == i) && !(q.1 + 1 == i && q.2.category == 2)) = lw) (pn : Nat) (hp : pc + 1 = pn) (k : PW x g A nL ce sl pn lw st ws) : PW x g A nL ce sl pc lv (.ref v :: st) ws := by
  subst hp
  exact fun H locs ls hP hD hS hl => lv_astore_n C.ex C.by hdg hi hl hn hl9 (fun ls hl => k H locs ls hP hD hS hl)
theorem p_obj (C : CP x g A own cc nL rm) {idx a : Nat} (h1 : Cond.methodLink own idx Lib.objectInit ∈ WS) (h2 : Cond.instanceMethod Lib.objectInit ∈ WS) (h3 : Cond.code Lib.objectInit ⟨#[0xb1]⟩ 1 none ∈ WS) (hdg : decode cc pc = .ok (.invokespecial idx, 3)) (hfr : 1 ≤ rm.frames) (hlo : (st.map fun v => v.category).sum + 12 ≤ rm.locals) (pn : Nat) (hp : pc + 3 = pn) (k : PW x g A nL ce sl pn lv st ws) : PW x g A nL ce sl pc lv (.ref a :: st) ws := by
  subst hp
  intro H locs ls hP hD hS hl
  refine W.objInit C.ex C.by C.ow (C.ts _ h1) (C.ts _ h2) (C.ts _ h3) rfl (by rw [C.ml]; exact hl.1) rfl hdg (by rw [C.ro]; exact hfr) (by rw [C.ro]; show 2 * 0 + _ + 12 ≤ _; omega) ?_
  exact k H locs ls hP hD hS hl
theorem p_get (C : CP x g A own cc nL rm) {idx a : Nat} {R : String} {T : u_T} {N ci : Nat} {fs : List Value} {v : Value} (k j : Nat) (hg : ws[k]? = some (a, .inr (ci, fs))) (hc : vwCl[ci]? = some (R, T, N)) (hin : ∀ w ∈ u_ws R T N, w ∈ WS) (hj : j < N) (hl0 : Cond.fieldLink own idx (T j).1 (T j).2.1 (T j).2.2.1 ∈ WS) (hv : fs[j]? = some v) (hdg : decode cc pc = .ok (.getfield idx, 3)) (pn : Nat) (hp : pc + 3 = pn) (kk : PW x g A nL ce sl pn lv (v :: st) ws) : PW x g A nL ce sl pc lv (.ref a :: st) ws := by
  subst hp
  exact fun H locs ls hP hD hS hl => va_get (D := g.1) C.ex C.by C.ts hin C.ow C.K hP k hg hc j hj (C.ts _ hl0) (fun _ h => h) hv hdg (kk H locs ls hP hD hS hl)
theorem p_put (C : CP x g A own cc nL rm) {idx a : Nat} {R : String} {T : u_T} {N ci : Nat} {fs : List Value} {v : Value} {ty : FieldType} {ws' : va_W} (k j : Nat) (hg : ws[k]? = some (a, .inr (ci, fs))) (hc : vwCl[ci]? = some (R, T, N)) (hin : ∀ w ∈ u_ws R T N, w ∈ WS) (ty0 : Nat → FieldType) (hty : ∀ k, k < N → parseFieldDescriptor (T k).2.2.1 = some (ty0 k)) (hnm : ∀ a, a < N → ∀ b, b < N → a ≠ b → (T a).2.1 ≠ (T b).2.1) (hj : j < N) (hl0 : Cond.fieldLink own idx (T j).1 (T j).2.1 (T j).2.2.1 ∈ WS) (hfin : (T j).2.2.2 = false) (hd : parseFieldDescriptor (T j).2.2.1 = some ty) (hn : narrow ty v = v) (hfit : fits ty v = true) (hl9 : j < fs.length) (hs : ws.set k (a, .inr (ci, fs.set j v)) = ws') (hdg : decode cc pc = .ok (.putfield idx, 3)) (pn : Nat) (hp : pc + 3 = pn) (kk : PW x g A nL ce sl pn lv st ws') : PW x g A nL ce sl pc lv (v :: .ref a :: st) ws := by
  subst hp
  exact fun H locs ls hP hD hS hl => va_put (D := g.1) C.ex C.by C.ts hin ty0 hty hnm C.ow C.K hP hD hS k hg hc j hj (C.ts _ hl0) (fun _ h => h) hfin hd hn hfit hl9 hdg (fun H1 locs1 hP1 hD1 hS1 => kk H1 locs1 ls (hs ▸ hP1) (hs ▸ hD1) hS1 hl)
theorem p_putF (C : CP x g A own cc nL rm) (hin2 : x.2.2.2.2.2.2.2.2.1.name = "<init>") {idx a : Nat} {R : String} {T : u_T} {N ci : Nat} {fs : List Value} {v : Value} {ty : FieldType} {ws' : va_W} (k j : Nat) (hg : ws[k]? = some (a, .inr (ci, fs))) (hc : vwCl[ci]? = some (R, T, N)) (hin : ∀ w ∈ u_ws R T N, w ∈ WS) (ty0 : Nat → FieldType) (hty : ∀ k, k < N → parseFieldDescriptor (T k).2.2.1 = some (ty0 k)) (hnm : ∀ a, a < N → ∀ b, b < N → a ≠ b → (T a).2.1 ≠ (T b).2.1) (hj : j < N) (hl0 : Cond.fieldLink own idx (T j).1 (T j).2.1 (T j).2.2.1 ∈ WS) (hfin : (T j).2.2.2 = true) (hdecl : (T j).1 = own) (hd : parseFieldDescriptor (T j).2.2.1 = some ty) (hn : narrow ty v = v) (hfit : fits ty v = true) (hl9 : j < fs.length) (hs : ws.set k (a, .inr (ci, fs.set j v)) = ws') (hdg : decode cc pc = .ok (.putfield idx, 3)) (pn : Nat) (hp : pc + 3 = pn) (kk : PW x g A nL ce sl pn lv st ws') : PW x g A nL ce sl pc lv (v :: .ref a :: st) ws := by
  subst hp
  exact fun H locs ls hP hD hS hl => va_putF (D := g.1) C.ex C.by C.ts hin ty0 hty hnm C.ow C.K hP hD hS k hg hc j hj (C.ts _ hl0) (fun _ h => h) hfin hin2 hdecl hd hn hfit hl9 hdg (fun H1 locs1 hP1 hD1 hS1 => kk H1 locs1 ls (hs ▸ hP1) (hs ▸ hD1) hS1 hl)
theorem p_iast (C : CP x g A own cc nL rm) {n a : Nat} {f : Nat → Int32} {i v : Int32} {ws' : va_W} (k : Nat) (hg : ws[k]? = some (a, .inl (g.2.2.1, n, .inl f))) (hs : ws.set k (a, .inl (g.2.2.1, n, .inl (upd f i.toNatClampNeg v))) = ws') (hin : ¬ (i < 0 ∨ n ≤ i.toNatClampNeg)) (hdg : decode cc pc = .ok (.iastore, 1)) (pn : Nat) (hp : pc + 1 = pn) (kk : PW x g A nL ce sl pn lv st ws') : PW x g A nL ce sl pc lv (.int v :: .int i :: .ref a :: st) ws := by
  subst hp
  exact fun H locs ls hP hD hS hl => va_iast C.ex C.by C.K hP hD hS k 0 hg rfl hin hdg (fun H1 locs1 hP1 hD1 hS1 => kk H1 locs1 ls (hs ▸ hP1) (hs ▸ hD1) hS1 hl)
theorem p_alen (C : CP x g A own cc nL rm) {n a : Nat} {f : Nat → Int32} {v : Int32} (k : Nat) (hg : ws[k]? = some (a, .inl (g.2.2.1, n, .inl f))) (hv : Int32.ofNat n = v) (hdg : decode cc pc = .ok (.arraylength, 1)) (pn : Nat) (hp : pc + 1 = pn) (kk : PW x g A nL ce sl pn lv (.int v :: st) ws) : PW x g A nL ce sl pc lv (.ref a :: st) ws := by
  subst hp
  exact fun H locs ls hP hD hS hl => va_alen C.ex C.by C.K hP k 0 (x := (n, .inl f)) hg rfl hv hdg (kk H locs ls hP hD hS hl)
theorem k_uni {tys : List (ClassId × FieldType)} {s : State} {c1 c2 : ClassId} {ty : FieldType} (h1 : va_RA s c1 ty) (h2 : va_RA s c2 ty) : c1 = c2 := by
  cases ty with
  | object C =>
    obtain ⟨-, -, -, -, -, e1⟩ := h1
    obtain ⟨-, -, -, -, -, e2⟩ := h2
    exact Option.some.inj (e1.symm.trans e2)
  | _ => exact Option.some.inj (h1.symm.trans h2)
theorem p_newi (C : CP x g A own cc nL rm) {n : Int32} (N : Nat) (hn : ¬ n < 0) (hN : n.toNatClampNeg = N) (hb : N * componentBytes .int ≤ 536870912) (hac : Cond.arrayClass .int ∈ WS) (hce : ce + 1 ≤ rm.cells) (hsl : sl + N ≤ rm.slots) (hdg : decode cc pc = .ok (.newarray .int, 2)) (pn : Nat) (hp : pc + 2 = pn) (kk : ∀ q : Nat, PW x g A nL (ce + 1) (sl + N) pn lv (.ref q :: st) (ws ++ [(q, .inl (g.2.2.1, N, .inl (fun _ => 0)))])) : PW x g A nL ce sl pc lv (.int n :: st) ws := by
  subst hp
  intro H locs ls hP hD hS hl
  refine va_newa (atype := .int) (a0 := (N, .inl (fun _ => 0))) C.ex C.by (C.ts _ hac) rfl C.K hP hD hS C.af (fun _ => rfl) hn hN hb (by rw [C.ro]; exact hce) (by rw [C.ro]; exact hsl) hdg (fun q cA H1 hK1 hP1 hD1 hS1 => ?_)
  have e : cA = g.2.2.1 := k_uni (tys := []) (hK1.2 3 _ rfl).2 (C.K.2 0 _ rfl).2
  subst e
  exact kk q H1 locs ls hP1 hD1 hS1 hl
theorem p_newl (C : CP x g A own cc nL rm) {n : Int32} (N : Nat) (hn : ¬ n < 0) (hN : n.toNatClampNeg = N) (hb : N * componentBytes .long ≤ 536870912) (hac : Cond.arrayClass .long ∈ WS) (hce : ce + 1 ≤ rm.cells) (hsl : sl + N ≤ rm.slots) (hdg : decode cc pc = .ok (.newarray .long, 2)) (pn : Nat) (hp : pc + 2 = pn) (kk : ∀ q : Nat, PW x g A nL (ce + 1) (sl + N) pn lv (.ref q :: st) (ws ++ [(q, .inl (g.2.2.2.1, N, .inr (.inl (fun _ => 0))))])) : PW x g A nL ce sl pc lv (.int n :: st) ws := by
  subst hp
  intro H locs ls hP hD hS hl
  refine va_newa (atype := .long) (a0 := (N, .inr (.inl (fun _ => 0)))) C.ex C.by (C.ts _ hac) rfl C.K hP hD hS C.af (fun _ => rfl) hn hN hb (by rw [C.ro]; exact hce) (by rw [C.ro]; exact hsl) hdg (fun q cA H1 hK1 hP1 hD1 hS1 => ?_)
  have e : cA = g.2.2.2.1 := k_uni (tys := []) (hK1.2 3 _ rfl).2 (C.K.2 1 _ rfl).2
  subst e
  exact kk q H1 locs ls hP1 hD1 hS1 hl
theorem p_mna (C : CP x g A own cc nL rm) {idx : Nat} (hcl : Cond.classLink own idx "[[I" ∈ WS) (hac : Cond.arrayClass .int ∈ WS) (hce : ce + 5 ≤ rm.cells) (hsl : sl + 52 ≤ rm.slots) (hdg : decode cc pc = .ok (.multianewarray idx 2, 4)) (pn : Nat) (hp : pc + 4 = pn)
    (kk : ∀ (q : Nat) (r : Nat → Nat), PW x g A nL (ce + 5) (sl + 52) pn lv (.ref q :: st) (ws ++ [(q, .inl (g.2.2.2.2.1, 4, .inr (.inr (.inr (.inr (fun i => if i < 4 then some (r i) else none)))))), (r 0, .inl (g.2.2.1, 12, .inl (fun _ => 0))), (r 1, .inl (g.2.2.1, 12, .inl (fun _ => 0))), (r 2, .inl (g.2.2.1, 12, .inl (fun _ => 0))), (r 3, .inl (g.2.2.1, 12, .inl (fun _ => 0)))])) : PW x g A nL ce sl pc lv (.int 12 :: .int 4 :: st) ws := by
  subst hp
  intro H locs ls hP hD hS hl
  have hP0 : va_P g.1 vwCl (ws ++ va_pl [] (fun _ => .inr (0, []))) H := by show va_P g.1 vwCl (ws ++ []) H; rw [List.append_nil]; exact hP
  have hD0 : va_D A (ws ++ va_pl [] (fun _ => .inr (0, []))) := by show va_D A (ws ++ []); rw [List.append_nil]; exact hD
  refine va_mna (ty := .int) (cy := g.2.2.1) (N' := 4) (K' := 12) (z := (12, .inl (fun _ => 0))) C.ex C.by C.ow (C.ts _ hcl) C.ao (C.ts _ hac) (C.K.2 0 _ rfl).2 C.K hP0 hD0 hS C.af (by decide) (by decide) (by decide) (by decide) (by decide) (by decide) (by decide) rfl rfl (by rw [C.ro]; omega) (by rw [C.ro]; omega) (fun c => ?_) hdg (fun q r cA H1 _ _ hK1 hP1 hD1 hS1 => ?_)
  · show ({ cls := c, slots := Array.replicate 12 (.int 0), vm := .none } : Cell) = _
    rw [arrV_new]; rfl
  · have e : cA = g.2.2.2.2.1 := k_uni (tys := []) (hK1.2 3 _ rfl).2 (C.K.2 2 _ rfl).2
    subst e
    rw [← vr_rows (L := []) (by intro a _ h; cases h)] at hP1 hD1
    have e4 : ∀ (y : Nat × va_E), (ws ++ [y]) ++ (va_pl [] (fun _ => (.inr (0, []) : va_E)) ++ ((List.range 4).map r).map (fun a => (a, (.inl (g.2.2.1, 12, .inl (fun _ => 0)) : va_E)))) = ws ++ [y, (r 0, .inl (g.2.2.1, 12, .inl (fun _ => 0))), (r 1, .inl (g.2.2.1, 12, .inl (fun _ => 0))), (r 2, .inl (g.2.2.1, 12, .inl (fun _ => 0))), (r 3, .inl (g.2.2.1, 12, .inl (fun _ => 0)))] := by
      intro y
      rw [List.append_assoc]
      rfl
    rw [e4] at hP1 hD1
    exact W.widen (by omega) (by omega) (kk q r H1 locs ls hP1 hD1 hS1 hl)
theorem p_new (C : CP x g A own cc nL rm) {idx ci N : Nat} {R : String} {T : u_T} {fs : List Value} (hin : ∀ w ∈ u_ws R T N, w ∈ WS) (ty : Nat → FieldType) (hty : ∀ k, k < N → parseFieldDescriptor (T k).2.2.1 = some (ty k)) (h1 : Cond.classLink own idx R ∈ WS) (h2 : Cond.instantiable R N ∈ WS) (h3 : Cond.initialized R ∈ WS) (hc : vwCl[ci]? = some (R, T, N)) (hfs : ∀ j, j < N → defaultValue (ty j) = vp_V fs j) (hce : ce + 1 ≤ rm.cells) (hsl : sl + N ≤ rm.slots) (hdg : decode cc pc = .ok (.new idx, 3)) (pn : Nat) (hp : pc + 3 = pn) (kk : ∀ q : Nat, PW x g A nL (ce + 1) (sl + N) pn lv (.ref q :: st) (ws ++ [(q, .inr (ci, fs))])) : PW x g A nL ce sl pc lv st ws := by
  subst hp
  exact fun H locs ls hP hD hS hl => va_new C.ex C.by C.ts hin ty hty C.ow (C.ts _ h1) (C.ts _ h2) (C.ts _ h3) C.K hP hD hS C.af hc hfs (by rw [C.ro]; exact hce) (by rw [C.ro]; exact hsl) hdg (fun q H1 hP1 hD1 hS1 => kk q H1 locs ls hP1 hD1 hS1 hl)
theorem p_wid {ce1 sl1 : Nat} (h1 : ce ≤ ce1) (h2 : sl ≤ sl1) (k : PW x g A nL ce1 sl1 pc lv st ws) : PW x g A nL ce sl pc lv st ws :=
  fun H locs ls hP hD hS hl => W.widen h1 h2 (k H locs ls hP hD hS hl)
theorem p_sub {lw : List (Nat × Value)} (ks : List Nat) (h : lv_pick lv ks = lw) (k : PW x g A nL ce sl pc lw st ws) : PW x g A nL ce sl pc lv st ws :=
  fun H locs ls hP hD hS hl => k H locs ls hP hD hS (lv_sub hl ks h)
theorem ao_same {u U : State} (hv : u.vm = U.vm) (h : va_AOA .int u) : va_AOA .int U := by
  unfold va_AOA at h ⊢
  simp only [Cond.before, Cond.holds, Cond.value] at h ⊢
  rw [← hv]
  exact h
theorem ao_warm {s U : State} (hW : s.WarmedH U.vm) (h : va_AOA .int s) : va_AOA .int U := ao_same (u := s.setVm U.vm) rfl (by unfold va_AOA; rw [Cond.arrayOver_setVmC hW.alike]; exact h)
theorem fm_of {α β : Type} {f : α → Option β} {is : List α} {ws : List β} (h : is.map f = ws.map some) : is.filterMap f = ws := by
  have : is.filterMap f = (is.map f).filterMap id := by rw [List.filterMap_map]; rfl
  rw [this, h, List.filterMap_map]
  simp
/-- the contract while the world is being made: the cells ws0 alone; behind it cells as P says -/
def Kp (g : Gb) (ws0 : va_W) (sz : Nat) (U : State) : Prop := U.heap.size = sz ∧ va_P g.1 vwCl ws0 U.heap ∧ va_K g.1 vwCl (tyl g) U ∧ va_D (fun _ => True) ws0 ∧ NW U ∧ va_AOA .int U
def Kq (g : Gb) (ws0 : va_W) (sz : Nat) (P : va_W → Prop) : Array Value → State → Outcome → State → Prop := fun _ s oc t => (oc = .returned none ∧ ∃ ws1, P ws1 ∧ va_P g.1 vwCl ws1 t.heap ∧ va_D (va_A ws0 sz) ws1) ∧ va_F (va_A ws0 sz) s t
def KC (l : Launch) (g : Gb) (y : MethodName) (cw : Cond) (rm : Room) (av : List Value) (ws0 : va_W) (P : va_W → Prop) (mc ms sz : Nat) : Prop := Met l y (cw :: WS) rm (va_Pc av (Kp g ws0 sz)) (Kq g ws0 sz P) mc ms (va_A ws0 sz)
theorem kp_blind {av : List Value} {ws0 : va_W} {sz : Nat} : FrameBlind (va_Pc av (Kp g ws0 sz)) := by
  intro a U gg mk q
  obtain ⟨q0, q1, q2, q3, q4, q5, q6⟩ := q
  exact ⟨q0, q1, q2, va_K.moved (u := U) (U := U.calling gg mk a) (Vm.Alike.refl U.vm) q3, q4, fun w hw => by
    have hw' := hw
    simp only [NWl, List.mem_cons, List.not_mem_nil, or_false] at hw
    rcases hw with rfl | rfl | rfl | rfl | rfl | rfl | rfl | rfl | rfl | rfl | rfl | rfl | rfl | rfl | rfl | rfl | rfl | rfl | rfl
    all_goals exact va_Nw.same rfl (show U.vm = (U.calling gg mk a).vm from rfl) (q5 _ hw'), ao_same (show U.vm = (U.calling gg mk a).vm from rfl) q6⟩
theorem p_pre (C : CP x g A own cc nL rm) {H : Heap} {av : List Value} {ws0 : va_W} (hP : va_P g.1 vwCl ws0 H) (hD : va_D (fun _ => True) ws0) : ∀ U : State, U.heap = H → x.2.2.2.2.1.WarmedH U.vm → va_Pc av (Kp g ws0 H.size) av.toArray U :=
  fun U hU hW => ⟨rfl, by rw [hU], by rw [hU]; exact hP, va_K.moved hW.alike C.K, hD, nw_warm hW C.nw, ao_warm hW C.ao⟩
theorem p_call {mc ms : Nat} {ws0 wr : va_W} {P : va_W → Prop} {H : Heap} {locs : List Loc} {ls : Array Slot} {st0 : List Value} {a : Array Value} (C : CP x g A own cc nL rm) (isC isR : List Nat) (hC : isC.map (fun i => ws[i]?) = ws0.map some) (hR : isR.map (fun i => ws[i]?) = wr.map some) (hn : va_nd isR = true) (hdis : ∀ i ∈ isR, i ∉ isC)
    (hr : va_Run x.1 x.2.1 x.2.2.1 x.2.2.2.1 x.2.2.2.2.1 x.2.2.2.2.2.1 x.2.2.2.2.2.2.1 x.2.2.2.2.2.2.2.1 x.2.2.2.2.2.2.2.2.1 x.2.2.2.2.2.2.2.2.2.1 H locs ce sl mc ms (F0 x.2.2.2.2.2.1 pc ls st0) st (Kq g ws0 H.size P a) (va_A ws0 H.size)) (hP : va_P g.1 vwCl ws H) (hD : va_D A ws) (hS : va_S A x.2.2.2.2.1.heap H locs) (hl : lv_has ls nL lv) (kk : ∀ ws1, P ws1 → PW x g A nL (ce + mc) (sl + ms) (pc + 3) lv st (wr ++ ws1)) :
    W x.1 x.2.1 x.2.2.1 x.2.2.2.1 x.2.2.2.2.1 x.2.2.2.2.2.1 x.2.2.2.2.2.2.1 x.2.2.2.2.2.2.2.1 x.2.2.2.2.2.2.2.2.1 x.2.2.2.2.2.2.2.2.2.1 H locs ce sl x.2.2.2.2.2.2.2.2.2.2 (F0 x.2.2.2.2.2.1 pc ls st0) := by
  have hFc := va_free (wc := ws0) hD hS C.af isC hC
  intro T hT X
  obtain ⟨v1, s0, t, T', L, h0, X', hL, e1, e2, ⟨⟨hv, ws1, hp1, hP1, hD1⟩, hF⟩, stp⟩ := hr T hT X
  cases hv
  obtain ⟨k1, k2, k3⟩ := vx_keep h0 e1 hS (fun q _ h => hFc q h) hFc hL hF
  obtain ⟨hPj, hDj⟩ := va_join (H1 := T'.heap) hP hD isC isR hC hR hn hdis k2 hFc (by rw [e1]; exact hP1) hD1
  obtain ⟨t2, a1, b1⟩ := kk ws1 hp1 T'.heap (locs ++ L) ls hPj hDj k3 hl T' rfl X'
  exact ⟨t2, stp t2 a1, b1⟩
/-- a constructor of a class is called -/
theorem p_callI (C : CP x g A own cc nL rm) {y : MethodName} {bytes : ByteArray} {maxL n idx mc ms b : Nat} {rm' : Room} {ws0 wr : va_W} {P : va_W → Prop} (As : List Value) (isC isR : List Nat) (hM : ∀ sz, KC x.2.1 g y (.code y bytes maxL none) rm' (.ref b :: As) ws0 P mc ms sz) (hcw : Cond.code y bytes maxL none ∈ WS) (hini : Cond.initialized y.cls ∈ WS) (hl0 : Cond.methodLink own idx y ∈ WS) (hin : Cond.instanceMethod y ∈ WS) (hy1 : y.name = "<init>") (hd : y.cls ≠ "java/lang/invoke/MethodHandle" ∧ y.cls ≠ "java/lang/invoke/VarHandle" ∧ (parseMethodDescriptor y.desc).map (fun d => d.parameters.length) = some n)
    (hC : isC.map (fun i => ws[i]?) = ws0.map some) (hR0 : isR.map (fun i => ws[i]?) = wr.map some) (hn : va_nd isR = true) (hnc : va_nd isC = true) (hdis : ∀ i ∈ isR, i ∉ isC) (hn2 : As.length = n) (hz : rm'.cells = mc ∧ rm'.slots = ms) (hR : rm'.frames + 1 ≤ rm.frames ∧ 8 + (maxL + 11) + rm'.locals ≤ rm.locals) (hce : ce + mc ≤ rm.cells ∧ sl + ms ≤ rm.slots) (st0 : List Value) (hst : st0 = As.reverse ++ .ref b :: st) (hw : (st.map fun v => v.category).sum ≤ 8)
    (hdg : decode cc pc = .ok (.invokespecial idx, 3)) (pn : Nat) (hp : pc + 3 = pn) (kk : ∀ ws1, P ws1 → PW x g A nL (ce + mc) (sl + ms) pn lv st (wr ++ ws1)) : PW x g A nL ce sl pc lv st0 ws := by
  subst hp
  intro H locs ls hP hD hS hl
  refine p_call C isC isR hC hR0 hn hdis (va_runI (As := As) (rest := st) (bytes := bytes) (maxL := maxL) ⟨C.ex, C.by, C.ml, C.ow, C.ts⟩ (hM H.size) ⟨callB_of n C.ts (ws_gi hcw) rfl hz.1 hz.2 (C.ts _ hini) (C.ts _ hl0) hd (by rw [C.ro]; exact hR), hy1, C.ts _ hin⟩ ⟨kp_blind, p_pre C (hP.sub isC (fm_of hC)) ((hD.sub isC hnc hC).weaken (fun _ _ _ _ => trivial))⟩ rfl hn2 hl.1 hst (lv_room hw) hdg (by rw [C.ro]; exact hce)) hP hD hS hl kk
theorem p_callIN (C : CP x g A own cc nL rm) {y : MethodName} {host : String} {bytes : ByteArray} {maxL n idx mc ms b : Nat} {rm' : Room} {ws0 wr : va_W} {P : va_W → Prop} (As : List Value) (isC isR : List Nat) (hM : ∀ sz, KC x.2.1 g y (.code y bytes maxL none) rm' (.ref b :: As) ws0 P mc ms sz) (hcw : Cond.code y bytes maxL none ∈ WS) (hini : Cond.initialized y.cls ∈ WS) (hl0 : ∀ {U : State}, NW U → va_Nw (Cond.methodLinkNest own idx y host) U) (hin : Cond.instanceMethod y ∈ WS) (hy1 : y.name = "<init>") (hd : y.cls ≠ "java/lang/invoke/MethodHandle" ∧ y.cls ≠ "java/lang/invoke/VarHandle" ∧ (parseMethodDescriptor y.desc).map (fun d => d.parameters.length) = some n)
    (hC : isC.map (fun i => ws[i]?) = ws0.map some) (hR0 : isR.map (fun i => ws[i]?) = wr.map some) (hn : va_nd isR = true) (hnc : va_nd isC = true) (hdis : ∀ i ∈ isR, i ∉ isC) (hn2 : As.length = n) (hz : rm'.cells = mc ∧ rm'.slots = ms) (hR : rm'.frames + 1 ≤ rm.frames ∧ 8 + (maxL + 11) + rm'.locals ≤ rm.locals) (hce : ce + mc ≤ rm.cells ∧ sl + ms ≤ rm.slots) (st0 : List Value) (hst : st0 = As.reverse ++ .ref b :: st) (hw : (st.map fun v => v.category).sum ≤ 8)
    (hdg : decode cc pc = .ok (.invokespecial idx, 3)) (pn : Nat) (hp : pc + 3 = pn) (kk : ∀ ws1, P ws1 → PW x g A nL (ce + mc) (sl + ms) pn lv st (wr ++ ws1)) : PW x g A nL ce sl pc lv st0 ws := by
  subst hp
  intro H locs ls hP hD hS hl
  refine p_call C isC isR hC hR0 hn hdis (va_runIN (As := As) (rest := st) (bytes := bytes) (maxL := maxL) ⟨C.ex, C.by, C.ml, C.ow, C.ts⟩ (hM H.size) ⟨va_cnB n C.ts (ws_gi hcw) rfl hz.1 hz.2 (hl0 C.nw) (C.ts _ hini) hd (by rw [C.ro]; exact hR), hy1, C.ts _ hin⟩ ⟨kp_blind, p_pre C (hP.sub isC (fm_of hC)) ((hD.sub isC hnc hC).weaken (fun _ _ _ _ => trivial))⟩ rfl hn2 hl.1 hst (lv_room hw) hdg (by rw [C.ro]; exact hce)) hP hD hS hl kk
theorem p_callS (C : CP x g A own cc nL rm) {y : MethodName} {bytes : ByteArray} {maxL n idx : Nat} {rm' : Room} {ws0 wr : va_W} {P : va_W → Prop} (As : List Value) (isC isR : List Nat) (hM : ∀ sz, KC x.2.1 g y (.code y bytes maxL none) rm' As ws0 P 0 0 sz) (hI : MS y (.code y bytes maxL none) bytes maxL n none) (hl0 : Cond.methodLink own idx y ∈ WS)
    (hC : isC.map (fun i => ws[i]?) = ws0.map some) (hR0 : isR.map (fun i => ws[i]?) = wr.map some) (hn : va_nd isR = true) (hnc : va_nd isC = true) (hdis : ∀ i ∈ isR, i ∉ isC) (hn2 : As.length = n) (hz : rm'.cells = 0 ∧ rm'.slots = 0) (hR : rm'.frames + 1 ≤ rm.frames ∧ 8 + (maxL + 11) + rm'.locals ≤ rm.locals) (hce : ce ≤ rm.cells ∧ sl ≤ rm.slots) (st0 : List Value) (hst : st0 = As.reverse ++ st) (hw : (st.map fun v => v.category).sum ≤ 8)
    (hdg : decode cc pc = .ok (.invokestatic idx, 3)) (pn : Nat) (hp : pc + 3 = pn) (kk : ∀ ws1, P ws1 → PW x g A nL ce sl pn lv st (wr ++ ws1)) : PW x g A nL ce sl pc lv st0 ws := by
  subst hp
  obtain ⟨-, h2, h3, h5, h6, h7, h8⟩ := hI
  intro H locs ls hP hD hS hl
  refine p_call C isC isR hC hR0 hn hdis (va_runS (As := As) (rest := st) (bytes := bytes) (maxL := maxL) (ret := none) ⟨C.ex, C.by, C.ml, C.ow, C.ts⟩ (hM H.size) ⟨callB_of n C.ts (ws_gi h2) rfl hz.1 hz.2 (C.ts _ h5) (C.ts _ hl0) ⟨h6, h7, h8⟩ (by rw [C.ro]; exact hR), C.ts _ h3⟩ ⟨kp_blind, p_pre C (hP.sub isC (fm_of hC)) ((hD.sub isC hnc hC).weaken (fun _ _ _ _ => trivial))⟩ rfl hn2 hl.1 hst (lv_room hw) hdg (by rw [C.ro]; exact hce)) hP hD hS hl kk
theorem p_callV (C : CP x g A own cc nL rm) {y : MethodName} {bytes : ByteArray} {maxL n idx b ci : Nat} {rm' : Room} {ws0 wr : va_W} {fs : List Value} {T : u_T} {N : Nat} {P : va_W → Prop} (As : List Value) (k : Nat) (isC isR : List Nat) (hM : ∀ sz, KC x.2.1 g y (.code y bytes maxL none) rm' (.ref b :: As) ws0 P 0 0 sz) (hI : MI y (.code y bytes maxL none) bytes maxL n none) (hg : ws[k]? = some (b, .inr (ci, fs))) (hc : vwCl[ci]? = some (y.cls, T, N)) (hl0 : Cond.methodLink own idx y ∈ WS)
    (hC : isC.map (fun i => ws[i]?) = ws0.map some) (hR0 : isR.map (fun i => ws[i]?) = wr.map some) (hn : va_nd isR = true) (hnc : va_nd isC = true) (hdis : ∀ i ∈ isR, i ∉ isC) (hn2 : As.length = n) (hz : rm'.cells = 0 ∧ rm'.slots = 0) (hR : rm'.frames + 1 ≤ rm.frames ∧ 8 + (maxL + 11) + rm'.locals ≤ rm.locals) (hce : ce ≤ rm.cells ∧ sl ≤ rm.slots) (st0 : List Value) (hst : st0 = As.reverse ++ .ref b :: st) (hw : (st.map fun v => v.category).sum ≤ 8)
    (hdg : decode cc pc = .ok (.invokevirtual idx, 3)) (pn : Nat) (hp : pc + 3 = pn) (kk : ∀ ws1, P ws1 → PW x g A nL ce sl pn lv st (wr ++ ws1)) : PW x g A nL ce sl pc lv st0 ws := by
  subst hp
  obtain ⟨-, h2, h3, h4, h5, h6, h7, h8⟩ := hI
  intro H locs ls hP hD hS hl
  refine p_call C isC isR hC hR0 hn hdis (va_runV (As := As) (rest := st) (C := y.cls) (bytes := bytes) (maxL := maxL) (ret := none) ⟨C.ex, C.by, C.ml, C.ow, C.ts⟩ (hM H.size) ⟨callB_of n C.ts (ws_gi h2) rfl hz.1 hz.2 (C.ts _ h5) (C.ts _ hl0) ⟨h6, h7, h8⟩ (by rw [C.ro]; exact hR), C.ts _ h3, C.ts _ h4⟩ ⟨kp_blind, va_recv C.K hP hc hg, p_pre C (hP.sub isC (fm_of hC)) ((hD.sub isC hnc hC).weaken (fun _ _ _ _ => trivial))⟩ rfl hn2 hl.1 hst (lv_room hw) hdg (by rw [C.ro]; exact hce)) hP hD hS hl kk
theorem KC.of {l : Launch} {y : MethodName} {av : List Value} {ws0 : va_W} {P : va_W → Prop} {mc ms sz : Nat} (hy : plainName y.cls = true) (hn : (lg_sl av).length ≤ nL)
    (body : ∀ (x : Cx) (A : Nat → Prop), CP x g A y.cls cc nL rm → x.2.1 = l → x.2.2.2.2.2.2.2.2.1.name = y.name → (∀ pc lv ws, P ws → decode cc pc = .ok (.return_, 1) → PW x g A nL mc ms pc lv [] ws) → PW x g A nL 0 0 0 (lv_args 0 av) [] ws0) : KC l g y (.code y cc nL none) rm av ws0 P mc ms sz := by
  refine Met.ofW (cc := cc) (maxL := nL) (ret := none) hy rfl ?_
  intro p e s m args below meth c s₁ B hml hv
  obtain ⟨rfl, hsz, q2, q3, q4, q5, q6⟩ := hv
  have hts := atoms_spec (ws := .code y cc nL none :: WS) B.pre
  have hl := lv_entry av (n := nL) hn
  rw [lg_entry_eq]
  subst hsz
  have C : CP (p, l, e, _, s, m, _, below, meth, c, MQ below (Kq g ws0 s.heap.size P) av.toArray s mc ms (va_A ws0 s.heap.size)) g (va_A ws0 s.heap.size) y.cls cc nL rm := ⟨B.exec, B.bytes, hml, findClass_of_methodNamed B.named, fun w hw => hts w (List.mem_cons_of_mem _ hw), q3, fun q h => Or.inr h, q5, q6, rfl, B.notSynchronized⟩
  refine body _ _ C rfl (name_of_methodNamed B.named B.method).1 (fun pc lv ws hp hdg => ?_) s.heap [] _ q2 q4.self va_S.rf hl
  intro H locs ls hP hD hS hl2
  exact W.vret C.ex C.by B.returns (fun t ht hW => ⟨⟨rfl, ws, hp, by rw [ht]; exact hP, hD⟩, hS.F ht⟩) hS.2.2 hdg C.lk
end PI
