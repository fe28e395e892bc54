/-- the world's numbers: ints by cell and place; the reference's hash; what lies in out -/
abbrev WD : Type := (Nat → Nat → Int32) × Int64 × Int64
/-- where things lie: the classes' numbers, the addresses, the array classes (int, long, int[]), the first address of the law's own -/
abbrev Gb : Type := va_G × (Nat → Nat) × ClassId × ClassId × ClassId × Nat
def adr (g : Gb) (k : Nat) : Nat := g.2.1 k
def fA (g : Gb) : Nat → Prop := fun q => g.2.2.2.2.2 ≤ q
def tyl (g : Gb) : List (ClassId × FieldType) := [(g.2.2.1, .int), (g.2.2.2.1, .long), (g.2.2.2.2.1, .array .int)]
def rws (g : Gb) (k : Nat) : Nat → Option Nat := fun j => if j < 4 then some (adr g (k + j)) else none
def cells (g : Gb) (σ : WD) : va_W := [
  (adr g 0, .inr (6, [.ref (adr g 1), .ref (adr g 3), .ref (adr g 5), .ref (adr g 7), .ref (adr g 18), .ref (adr g 22), .ref (adr g 27)])),
  (adr g 1, .inr (0, [.int (σ.1 1 0), .ref (adr g 2), .int (σ.1 1 2)])),
  (adr g 2, .inl (g.2.2.1, 12, .inl (σ.1 2))),
  (adr g 3, .inr (3, [.ref (adr g 4)])),
  (adr g 4, .inl (g.2.2.1, 12, .inl (σ.1 4))),
  (adr g 5, .inr (2, [.ref (adr g 6), .int (σ.1 5 1)])),
  (adr g 6, .inl (g.2.2.1, 60, .inl (σ.1 6))),
  (adr g 7, .inr (1, [.ref (adr g 8), .ref (adr g 13), .int (σ.1 7 2), .int (σ.1 7 3)])),
  (adr g 8, .inl (g.2.2.2.2.1, 4, .inr (.inr (.inr (.inr (rws g 9)))))),
  (adr g 9, .inl (g.2.2.1, 12, .inl (σ.1 9))),
  (adr g 10, .inl (g.2.2.1, 12, .inl (σ.1 10))),
  (adr g 11, .inl (g.2.2.1, 12, .inl (σ.1 11))),
  (adr g 12, .inl (g.2.2.1, 12, .inl (σ.1 12))),
  (adr g 13, .inl (g.2.2.2.2.1, 4, .inr (.inr (.inr (.inr (rws g 14)))))),
  (adr g 14, .inl (g.2.2.1, 12, .inl (σ.1 14))),
  (adr g 15, .inl (g.2.2.1, 12, .inl (σ.1 15))),
  (adr g 16, .inl (g.2.2.1, 12, .inl (σ.1 16))),
  (adr g 17, .inl (g.2.2.1, 12, .inl (σ.1 17))),
  (adr g 18, .inr (5, [.ref (adr g 1), .ref (adr g 3), .ref (adr g 19), .ref (adr g 20), .ref (adr g 21), .int (σ.1 18 5), .int (σ.1 18 6)])),
  (adr g 19, .inl (g.2.2.1, 12, .inl (σ.1 19))),
  (adr g 20, .inl (g.2.2.1, 64, .inl (σ.1 20))),
  (adr g 21, .inl (g.2.2.1, 12, .inl (σ.1 21))),
  (adr g 22, .inr (4, [.ref (adr g 1), .ref (adr g 23), .ref (adr g 24), .ref (adr g 25), .int (σ.1 22 4), .int (σ.1 22 5)])),
  (adr g 23, .inl (g.2.2.1, 4096, .inl (σ.1 23))),
  (adr g 24, .inl (g.2.2.1, 4096, .inl (σ.1 24))),
  (adr g 25, .inr (3, [.ref (adr g 26)])),
  (adr g 26, .inl (g.2.2.1, 12, .inl (σ.1 26))),
  (adr g 27, .inr (0, [.int (σ.1 27 0), .ref (adr g 28), .int (σ.1 27 2)])),
  (adr g 28, .inl (g.2.2.1, 12, .inl (σ.1 28))),
  (adr g 29, .inr (7, [.int (σ.1 29 0), .int (σ.1 29 1), .ref (adr g 30), .ref (adr g 31), .int (σ.1 29 4), .ref (adr g 32), .int (σ.1 29 6), .ref (adr g 33), .ref (adr g 34), .ref (adr g 35), .ref (adr g 36), .ref (adr g 37), .ref (adr g 38), .int (σ.1 29 13), .int (σ.1 29 14), .int (σ.1 29 15), .int (σ.1 29 16), .ref (adr g 39), .long σ.2.1])),
  (adr g 30, .inl (g.2.2.1, 12, .inl (σ.1 30))),
  (adr g 31, .inl (g.2.2.1, 12, .inl (σ.1 31))),
  (adr g 32, .inl (g.2.2.1, 96, .inl (σ.1 32))),
  (adr g 33, .inl (g.2.2.1, 60, .inl (σ.1 33))),
  (adr g 34, .inl (g.2.2.1, 4096, .inl (σ.1 34))),
  (adr g 35, .inl (g.2.2.1, 4096, .inl (σ.1 35))),
  (adr g 36, .inl (g.2.2.1, 12, .inl (σ.1 36))),
  (adr g 37, .inl (g.2.2.1, 14, .inl (σ.1 37))),
  (adr g 38, .inl (g.2.2.1, 14, .inl (σ.1 38))),
  (adr g 39, .inl (g.2.2.1, 90, .inl (σ.1 39))),
  (adr g 40, .inl (g.2.2.2.1, 1, .inr (.inl (fun j => if j = 0 then σ.2.2 else 0))))]
def ups (σ : WD) (k : Nat) (f : Nat → Int32) : WD := (fun c => if c = k then f else σ.1 c, σ.2)
def upi (σ : WD) (k j : Nat) (v : Int32) : WD := ups σ k (upd (σ.1 k) j v)
def uph (σ : WD) (v : Int64) : WD := (σ.1, v, σ.2.2)
def upo (σ : WD) (v : Int64) : WD := (σ.1, σ.2.1, v)
abbrev Cx : Type := Program × Launch × Env × Room × State × MethodId × Array Value × List Frame × Method × Code × (State → Prop)
/-- the judgement: from pc with these locals, this stack and this world, whatever else the heap holds -/
def WW (x : Cx) (g : Gb) (nL ce sl pc : Nat) (lv : List (Nat × Value)) (st : List Value) (σ : WD) : Prop :=
  ∀ (H : Heap) (locs : List Loc) (ls : Array Slot), va_P g.1 vwCl (cells g σ) H → va_S (fA g) x.2.2.2.2.1.heap H locs → lv_has ls nL lv →
    W x.1 x.2.1 x.2.2.1 x.2.2.2.1 x.2.2.2.2.1 x.2.2.2.2.2.1 x.2.2.2.2.2.2.1 x.2.2.2.2.2.2.2.1 x.2.2.2.2.2.2.2.2.1 x.2.2.2.2.2.2.2.2.2.1 H locs ce sl x.2.2.2.2.2.2.2.2.2.2 (F0 x.2.2.2.2.2.1 pc ls st)
/-- what stands over the whole of a method's walk -/
def CF (x : Cx) (g : Gb) (own : String) (cc : ByteArray) (nL : Nat) (rm : Room) : Prop :=
  x.1.tables.exec = Jvm.exec ∧ x.2.2.2.2.2.2.2.2.2.1.code = cc ∧ x.2.2.2.2.2.2.2.2.2.1.maxLocals = nL ∧ x.2.2.2.2.1.vm.findClass own = some x.2.2.2.2.2.1.cls ∧ (∀ w ∈ WS, w.before x.2.2.2.2.2.2.1 x.2.2.2.2.1 = true) ∧
  va_K g.1 vwCl (tyl g) x.2.2.2.2.1 ∧ (∀ σ, va_D (fA g) (cells g σ)) ∧ NW x.2.2.2.2.1 ∧ g.2.2.2.2.2 ≤ x.2.2.2.2.1.heap.size ∧ x.2.2.2.1 = rm ∧ x.2.2.2.2.2.2.2.2.1.locks = false
section XB
variable {x : Cx} {g : Gb} {own : String} {cc : ByteArray} {nL : Nat} {rm : Room}
theorem CF.ex (C : CF x g own cc nL rm) : x.1.tables.exec = Jvm.exec := C.1
theorem CF.by (C : CF x g own cc nL rm) : x.2.2.2.2.2.2.2.2.2.1.code = cc := C.2.1
theorem CF.ml (C : CF x g own cc nL rm) : x.2.2.2.2.2.2.2.2.2.1.maxLocals = nL := C.2.2.1
theorem CF.ow (C : CF x g own cc nL rm) : x.2.2.2.2.1.vm.findClass own = some x.2.2.2.2.2.1.cls := C.2.2.2.1
theorem CF.ts (C : CF x g own cc nL rm) : ∀ w ∈ WS, w.before x.2.2.2.2.2.2.1 x.2.2.2.2.1 = true := C.2.2.2.2.1
theorem CF.K (C : CF x g own cc nL rm) : va_K g.1 vwCl (tyl g) x.2.2.2.2.1 := C.2.2.2.2.2.1
theorem CF.D (C : CF x g own cc nL rm) (σ : WD) : va_D (fA g) (cells g σ) := C.2.2.2.2.2.2.1 σ
theorem CF.nw (C : CF x g own cc nL rm) : NW x.2.2.2.2.1 := C.2.2.2.2.2.2.2.1
theorem CF.bs (C : CF x g own cc nL rm) : g.2.2.2.2.2 ≤ x.2.2.2.2.1.heap.size := C.2.2.2.2.2.2.2.2.1
theorem CF.ro (C : CF x g own cc nL rm) : x.2.2.2.1 = rm := C.2.2.2.2.2.2.2.2.2.1
theorem CF.lk (C : CF x g own cc nL rm) : x.2.2.2.2.2.2.2.2.1.locks = false := C.2.2.2.2.2.2.2.2.2.2
end XB
section XI
variable {x : Cx} {g : Gb} {own : String} {cc : ByteArray} {nL ce sl pc : Nat} {rm : Room} {lv : List (Nat × Value)} {st : List Value} {σ : WD}
theorem x_iconst (C : CF x g own cc nL rm) {n : Int} {v : Int32} (hdg : decode cc pc = .ok (.iconst n, 1)) (hv : Int32.ofInt n = v) (pn : Nat) (hp : pc + 1 = pn) (k : WW x g nL ce sl pn lv (.int v :: st) σ) : WW x g nL ce sl pc lv st σ := by
  subst hp
  exact fun H locs ls hP hS hl => lv_iconst C.ex C.by hdg hv (k H locs ls hP hS hl)
theorem x_bipush (C : CF x g own cc nL rm) {n : Int} {v : Int32} (hdg : decode cc pc = .ok (.bipush n, 2)) (hv : (Int8.ofInt n).toInt32 = v) (pn : Nat) (hp : pc + 2 = pn) (k : WW x g nL ce sl pn lv (.int v :: st) σ) : WW x g nL ce sl pc lv st σ := by
  subst hp
  exact fun H locs ls hP hS hl => lv_bipush C.ex C.by hdg hv (k H locs ls hP hS hl)
theorem x_sipush (C : CF x g own cc nL rm) {n : Int} {v : Int32} (hdg : decode cc pc = .ok (.sipush n, 3)) (hv : (Int16.ofInt n).toInt32 = v) (pn : Nat) (hp : pc + 3 = pn) (k : WW x g nL ce sl pn lv (.int v :: st) σ) : WW x g nL ce sl pc lv st σ := by
  subst hp
  exact fun H locs ls hP hS hl => lv_sipush C.ex C.by hdg hv (k H locs ls hP hS hl)
theorem x_ldcw (C : CF x g own cc nL rm) {n : Nat} {v : Int32} (hdg : decode cc pc = .ok (.ldc_w n, 3)) (hv : Cond.constant own n v ∈ WS) (pn : Nat) (hp : pc + 3 = pn) (k : WW x g nL ce sl pn lv (.int v :: st) σ) : WW x g nL ce sl pc lv st σ := by
  subst hp
  exact fun H locs ls hP hS hl => lv_ldcw C.ex C.by C.ow (C.ts _ hv) hdg (k H locs ls hP hS hl)
theorem x_ldc (C : CF x g own cc nL rm) {n : Nat} {v : Int32} (hdg : decode cc pc = .ok (.ldc n, 2)) (hv : Cond.constant own n v ∈ WS) (pn : Nat) (hp : pc + 2 = pn) (k : WW x g nL ce sl pn lv (.int v :: st) σ) : WW x g nL ce sl pc lv st σ := by
  subst hp
  exact fun H locs ls hP hS hl => lv_ldc C.ex C.by C.ow (C.ts _ hv) hdg (k H locs ls hP hS hl)
theorem x_ldc2 (C : CF x g own cc nL rm) {n : Nat} {v : Int64} (hdg : decode cc pc = .ok (.ldc2_w n, 3)) (hv : Cond.constantLong own n v ∈ WS) (pn : Nat) (hp : pc + 3 = pn) (k : WW x g nL ce sl pn lv (.long v :: st) σ) : WW x g nL ce sl pc lv st σ := by
  subst hp
  exact fun H locs ls hP hS hl => lv_ldc2 C.ex C.by C.ow (C.ts _ hv) hdg (k H locs ls hP hS hl)
theorem x_iload_n (C : CF x g own cc nL rm) {k : Fin 4} {i : Nat} {v : Int32} (hdg : decode cc pc = .ok (.iload_n k, 1)) (hi : (k : Nat) = i) (q : Nat) (hq : lv[q]? = some (i, .int v)) (pn : Nat) (hp : pc + 1 = pn) (k : WW x g nL ce sl pn lv (.int v :: st) σ) : WW x g nL ce sl pc lv st σ := by
  subst hp
  exact fun H locs ls hP hS hl => lv_iload_n C.ex C.by hdg hi (lv_at hl q hq) (k H locs ls hP hS hl)
theorem x_iload (C : CF x g own cc nL rm) {i : Nat} {v : Int32} (hdg : decode cc pc = .ok (.iload i, 2)) (q : Nat) (hq : lv[q]? = some (i, .int v)) (pn : Nat) (hp : pc + 2 = pn) (k : WW x g nL ce sl pn lv (.int v :: st) σ) : WW x g nL ce sl pc lv st σ := by
  subst hp
  exact fun H locs ls hP hS hl => lv_iload C.ex C.by hdg (lv_at hl q hq) (k H locs ls hP hS hl)
theorem x_istore_n (C : CF x g own cc nL rm) {k : Fin 4} {i : Nat} {v : Int32} (lw : List (Nat × Value)) (hdg : decode cc pc = .ok (.istore_n k, 1)) (hi : (k : Nat) = i) (hn : i < nL) (hl9 : (i, Value.int v) :: lv.filter (fun q => !(q.1 == i) && !(q.1 + 1 == i && q.2.category == 2)) = lw) (pn : Nat) (hp : pc + 1 = pn) (k : WW x g nL ce sl pn lw st σ) : WW x g nL ce sl pc lv (.int v :: st) σ := by
  subst hp
  exact fun H locs ls hP hS hl => lv_istore_n C.ex C.by hdg hi hl hn hl9 (fun ls hl => k H locs ls hP hS hl)
theorem x_istore (C : CF x g own cc nL rm) {i : Nat} {v : Int32} (lw : List (Nat × Value)) (hdg : decode cc pc = .ok (.istore i, 2)) (hn : i < nL) (hl9 : (i, Value.int v) :: lv.filter (fun q => !(q.1 == i) && !(q.1 + 1 == i && q.2.category == 2)) = lw) (pn : Nat) (hp : pc + 2 = pn) (k : WW x g nL ce sl pn lw st σ) : WW x g nL ce sl pc lv (.int v :: st) σ := by
  subst hp
  exact fun H locs ls hP hS hl => lv_istore C.ex C.by hdg hl hn hl9 (fun ls hl => k H locs ls hP hS hl)
theorem x_aload_n (C : CF x g own cc nL rm) {k : Fin 4} {i : Nat} {v : Nat} (hdg : decode cc pc = .ok (.aload_n k, 1)) (hi : (k : Nat) = i) (q : Nat) (hq : lv[q]? = some (i, .ref v)) (pn : Nat) (hp : pc + 1 = pn) (k : WW x g nL ce sl pn lv (.ref v :: st) σ) : WW x g nL ce sl pc lv st σ := by
  subst hp
  exact fun H locs ls hP hS hl => lv_aload_n C.ex C.by hdg hi (lv_at hl q hq) (k H locs ls hP hS hl)
theorem x_aload (C : CF x g own cc nL rm) {i : Nat} {v : Nat} (hdg : decode cc pc = .ok (.aload i, 2)) (q : Nat) (hq : lv[q]? = some (i, .ref v)) (pn : Nat) (hp : pc + 2 = pn) (k : WW x g nL ce sl pn lv (.ref v :: st) σ) : WW x g nL ce sl pc lv st σ := by
  subst hp
  exact fun H locs ls hP hS hl => lv_aload C.ex C.by hdg (lv_at hl q hq) (k H locs ls hP hS hl)
theorem x_astore_n (C : CF x g own cc nL rm) {k : Fin 4} {i : Nat} {v : Nat} (lw : List (Nat × Value)) (hdg : decode cc pc = .ok (.astore_n k, 1)) (hi : (k : Nat) = i) (hn : i < nL) (hl9 : (i, Value.ref v) :: lv.filter (fun q => !(q.1 == i) && !(q.1 + 1 == i && q.2.category == 2)) = lw) (pn : Nat) (hp : pc + 1 = pn) (k : WW x g nL ce sl pn lw st σ) : WW x g nL ce sl pc lv (.ref v :: st) σ := by
  subst hp
  exact fun H locs ls hP hS hl => lv_astore_n C.ex C.by hdg hi hl hn hl9 (fun ls hl => k H locs ls hP hS hl)
theorem x_astore (C : CF x g own cc nL rm) {i : Nat} {v : Nat} (lw : List (Nat × Value)) (hdg : decode cc pc = .ok (.astore i, 2)) (hn : i < nL) (hl9 : (i, Value.ref v) :: lv.filter (fun q => !(q.1 == i) && !(q.1 + 1 == i && q.2.category == 2)) = lw) (pn : Nat) (hp : pc + 2 = pn) (k : WW x g nL ce sl pn lw st σ) : WW x g nL ce sl pc lv (.ref v :: st) σ := by
  subst hp
  exact fun H locs ls hP hS hl => lv_astore C.ex C.by hdg hl hn hl9 (fun ls hl => k H locs ls hP hS hl)
theorem x_lload_n (C : CF x g own cc nL rm) {k : Fin 4} {i : Nat} {v : Int64} (hdg : decode cc pc = .ok (.lload_n k, 1)) (hi : (k : Nat) = i) (q : Nat) (hq : lv[q]? = some (i, .long v)) (pn : Nat) (hp : pc + 1 = pn) (k : WW x g nL ce sl pn lv (.long v :: st) σ) : WW x g nL ce sl pc lv st σ := by
  subst hp
  exact fun H locs ls hP hS hl => lv_lload_n C.ex C.by hdg hi (lv_at hl q hq) (k H locs ls hP hS hl)
theorem x_lload (C : CF x g own cc nL rm) {i : Nat} {v : Int64} (hdg : decode cc pc = .ok (.lload i, 2)) (q : Nat) (hq : lv[q]? = some (i, .long v)) (pn : Nat) (hp : pc + 2 = pn) (k : WW x g nL ce sl pn lv (.long v :: st) σ) : WW x g nL ce sl pc lv st σ := by
  subst hp
  exact fun H locs ls hP hS hl => lv_lload C.ex C.by hdg (lv_at hl q hq) (k H locs ls hP hS hl)
theorem x_lstore_n (C : CF x g own cc nL rm) {k : Fin 4} {i : Nat} {v : Int64} (lw : List (Nat × Value)) (hdg : decode cc pc = .ok (.lstore_n k, 1)) (hi : (k : Nat) = i) (hn : i + 1 < nL) (hl9 : (i, Value.long v) :: lv.filter (fun q => !(q.1 == i) && (!(q.1 == i + 1) && !(q.1 + 1 == i && q.2.category == 2))) = lw) (pn : Nat) (hp : pc + 1 = pn) (k : WW x g nL ce sl pn lw st σ) : WW x g nL ce sl pc lv (.long v :: st) σ := by
  subst hp
  exact fun H locs ls hP hS hl => lv_lstore_n C.ex C.by hdg hi hl hn hl9 (fun ls hl => k H locs ls hP hS hl)
theorem x_lstore (C : CF x g own cc nL rm) {i : Nat} {v : Int64} (lw : List (Nat × Value)) (hdg : decode cc pc = .ok (.lstore i, 2)) (hn : i + 1 < nL) (hl9 : (i, Value.long v) :: lv.filter (fun q => !(q.1 == i) && (!(q.1 == i + 1) && !(q.1 + 1 == i && q.2.category == 2))) = lw) (pn : Nat) (hp : pc + 2 = pn) (k : WW x g nL ce sl pn lw st σ) : WW x g nL ce sl pc lv (.long v :: st) σ := by
  subst hp
  exact fun H locs ls hP hS hl => lv_lstore C.ex C.by hdg hl hn hl9 (fun ls hl => k H locs ls hP hS hl)
theorem x_dload_n (C : CF x g own cc nL rm) {k : Fin 4} {i : Nat} {v : UInt64} (hdg : decode cc pc = .ok (.dload_n k, 1)) (hi : (k : Nat) = i) (q : Nat) (hq : lv[q]? = some (i, .double v)) (pn : Nat) (hp : pc + 1 = pn) (k : WW x g nL ce sl pn lv (.double v :: st) σ) : WW x g nL ce sl pc lv st σ := by
  subst hp
  exact fun H locs ls hP hS hl => lv_dload_n C.ex C.by hdg hi (lv_at hl q hq) (k H locs ls hP hS hl)
theorem x_dload (C : CF x g own cc nL rm) {i : Nat} {v : UInt64} (hdg : decode cc pc = .ok (.dload i, 2)) (q : Nat) (hq : lv[q]? = some (i, .double v)) (pn : Nat) (hp : pc + 2 = pn) (k : WW x g nL ce sl pn lv (.double v :: st) σ) : WW x g nL ce sl pc lv st σ := by
  subst hp
  exact fun H locs ls hP hS hl => lv_dload C.ex C.by hdg (lv_at hl q hq) (k H locs ls hP hS hl)
theorem x_dstore_n (C : CF x g own cc nL rm) {k : Fin 4} {i : Nat} {v : UInt64} (lw : List (Nat × Value)) (hdg : decode cc pc = .ok (.dstore_n k, 1)) (hi : (k : Nat) = i) (hn : i + 1 < nL) (hl9 : (i, Value.double v) :: lv.filter (fun q => !(q.1 == i) && (!(q.1 == i + 1) && !(q.1 + 1 == i && q.2.category == 2))) = lw) (pn : Nat) (hp : pc + 1 = pn) (k : WW x g nL ce sl pn lw st σ) : WW x g nL ce sl pc lv (.double v :: st) σ := by
  subst hp
  exact fun H locs ls hP hS hl => lv_dstore_n C.ex C.by hdg hi hl hn hl9 (fun ls hl => k H locs ls hP hS hl)
theorem x_dstore (C : CF x g own cc nL rm) {i : Nat} {v : UInt64} (lw : List (Nat × Value)) (hdg : decode cc pc = .ok (.dstore i, 2)) (hn : i + 1 < nL) (hl9 : (i, Value.double v) :: lv.filter (fun q => !(q.1 == i) && (!(q.1 == i + 1) && !(q.1 + 1 == i && q.2.category == 2))) = lw) (pn : Nat) (hp : pc + 2 = pn) (k : WW x g nL ce sl pn lw st σ) : WW x g nL ce sl pc lv (.double v :: st) σ := by
  subst hp
  exact fun H locs ls hP hS hl => lv_dstore C.ex C.by hdg hl hn hl9 (fun ls hl => k H locs ls hP hS hl)
theorem x_iinc (C : CF x g own cc nL rm) {i : Nat} {n : Int} {y v : Int32} (lw : List (Nat × Value)) (hdg : decode cc pc = .ok (.iinc i n, 3)) (q : Nat) (hq : lv[q]? = some (i, .int y)) (hv : y + Int32.ofInt n = v) (hn : i < nL) (hl9 : (i, Value.int v) :: lv.filter (fun q => !(q.1 == i) && !(q.1 + 1 == i && q.2.category == 2)) = lw) (pn : Nat) (hp : pc + 3 = pn) (k : WW x g nL ce sl pn lw st σ) : WW x g nL ce sl pc lv st σ := by
  subst hp
  exact fun H locs ls hP hS hl => lv_iinc C.ex C.by hdg hl hq hv hn hl9 (fun ls hl => k H locs ls hP hS hl)
theorem x_iadd (C : CF x g own cc nL rm) {a b : Int32} (hdg : decode cc pc = .ok (.iadd, 1)) (pn : Nat) (hp : pc + 1 = pn) (k : WW x g nL ce sl pn lv (.int (a + b) :: st) σ) : WW x g nL ce sl pc lv (.int b :: .int a :: st) σ := by
  subst hp
  exact fun H locs ls hP hS hl => lv_iadd C.ex C.by hdg (k H locs ls hP hS hl)
theorem x_isub (C : CF x g own cc nL rm) {a b : Int32} (hdg : decode cc pc = .ok (.isub, 1)) (pn : Nat) (hp : pc + 1 = pn) (k : WW x g nL ce sl pn lv (.int (a - b) :: st) σ) : WW x g nL ce sl pc lv (.int b :: .int a :: st) σ := by
  subst hp
  exact fun H locs ls hP hS hl => lv_isub C.ex C.by hdg (k H locs ls hP hS hl)
theorem x_imul (C : CF x g own cc nL rm) {a b : Int32} (hdg : decode cc pc = .ok (.imul, 1)) (pn : Nat) (hp : pc + 1 = pn) (k : WW x g nL ce sl pn lv (.int (a * b) :: st) σ) : WW x g nL ce sl pc lv (.int b :: .int a :: st) σ := by
  subst hp
  exact fun H locs ls hP hS hl => lv_imul C.ex C.by hdg (k H locs ls hP hS hl)
theorem x_iand (C : CF x g own cc nL rm) {a b : Int32} (hdg : decode cc pc = .ok (.iand, 1)) (pn : Nat) (hp : pc + 1 = pn) (k : WW x g nL ce sl pn lv (.int (a &&& b) :: st) σ) : WW x g nL ce sl pc lv (.int b :: .int a :: st) σ := by
  subst hp
  exact fun H locs ls hP hS hl => lv_iand C.ex C.by hdg (k H locs ls hP hS hl)
theorem x_ior (C : CF x g own cc nL rm) {a b : Int32} (hdg : decode cc pc = .ok (.ior, 1)) (pn : Nat) (hp : pc + 1 = pn) (k : WW x g nL ce sl pn lv (.int (a ||| b) :: st) σ) : WW x g nL ce sl pc lv (.int b :: .int a :: st) σ := by
  subst hp
  exact fun H locs ls hP hS hl => lv_ior C.ex C.by hdg (k H locs ls hP hS hl)
theorem x_ixor (C : CF x g own cc nL rm) {a b : Int32} (hdg : decode cc pc = .ok (.ixor, 1)) (pn : Nat) (hp : pc + 1 = pn) (k : WW x g nL ce sl pn lv (.int (a ^^^ b) :: st) σ) : WW x g nL ce sl pc lv (.int b :: .int a :: st) σ := by
  subst hp
  exact fun H locs ls hP hS hl => lv_ixor C.ex C.by hdg (k H locs ls hP hS hl)
theorem x_ishl (C : CF x g own cc nL rm) {a b : Int32} (hdg : decode cc pc = .ok (.ishl, 1)) (pn : Nat) (hp : pc + 1 = pn) (k : WW x g nL ce sl pn lv (.int (a <<< (b &&& 31)) :: st) σ) : WW x g nL ce sl pc lv (.int b :: .int a :: st) σ := by
  subst hp
  exact fun H locs ls hP hS hl => lv_ishl C.ex C.by hdg (k H locs ls hP hS hl)
theorem x_ishr (C : CF x g own cc nL rm) {a b : Int32} (hdg : decode cc pc = .ok (.ishr, 1)) (pn : Nat) (hp : pc + 1 = pn) (k : WW x g nL ce sl pn lv (.int (a >>> (b &&& 31)) :: st) σ) : WW x g nL ce sl pc lv (.int b :: .int a :: st) σ := by
  subst hp
  exact fun H locs ls hP hS hl => lv_ishr C.ex C.by hdg (k H locs ls hP hS hl)
theorem x_iushr (C : CF x g own cc nL rm) {a b : Int32} (hdg : decode cc pc = .ok (.iushr, 1)) (pn : Nat) (hp : pc + 1 = pn) (k : WW x g nL ce sl pn lv (.int (a.toUInt32 >>> (b.toUInt32 &&& Int32.toUInt32 31)).toInt32 :: st) σ) : WW x g nL ce sl pc lv (.int b :: .int a :: st) σ := by
  subst hp
  exact fun H locs ls hP hS hl => lv_iushr C.ex C.by hdg rfl (k H locs ls hP hS hl)
theorem x_idiv (C : CF x g own cc nL rm) {a b : Int32} (hdg : decode cc pc = .ok (.idiv, 1)) (hne : ¬ b = 0) (pn : Nat) (hp : pc + 1 = pn) (k : WW x g nL ce sl pn lv (.int (a / b) :: st) σ) : WW x g nL ce sl pc lv (.int b :: .int a :: st) σ := by
  subst hp
  exact fun H locs ls hP hS hl => lv_idiv C.ex C.by hdg hne (k H locs ls hP hS hl)
theorem x_irem (C : CF x g own cc nL rm) {a b : Int32} (hdg : decode cc pc = .ok (.irem, 1)) (hne : ¬ b = 0) (pn : Nat) (hp : pc + 1 = pn) (k : WW x g nL ce sl pn lv (.int (a - a / b * b) :: st) σ) : WW x g nL ce sl pc lv (.int b :: .int a :: st) σ := by
  subst hp
  exact fun H locs ls hP hS hl => lv_irem C.ex C.by hdg hne (k H locs ls hP hS hl)
theorem x_i2l (C : CF x g own cc nL rm) {a : Int32} (hdg : decode cc pc = .ok (.i2l, 1)) (pn : Nat) (hp : pc + 1 = pn) (k : WW x g nL ce sl pn lv (.long a.toInt64 :: st) σ) : WW x g nL ce sl pc lv (.int a :: st) σ := by
  subst hp
  exact fun H locs ls hP hS hl => lv_i2l C.ex C.by hdg rfl (k H locs ls hP hS hl)
theorem x_i2d (C : CF x g own cc nL rm) {a : Int32} (hdg : decode cc pc = .ok (.i2d, 1)) (pn : Nat) (hp : pc + 1 = pn) (k : WW x g nL ce sl pn lv (.double (FP.i2d a) :: st) σ) : WW x g nL ce sl pc lv (.int a :: st) σ := by
  subst hp
  exact fun H locs ls hP hS hl => lv_i2d C.ex C.by hdg (k H locs ls hP hS hl)
theorem x_ladd (C : CF x g own cc nL rm) {a b : Int64} (hdg : decode cc pc = .ok (.ladd, 1)) (pn : Nat) (hp : pc + 1 = pn) (k : WW x g nL ce sl pn lv (.long (a + b) :: st) σ) : WW x g nL ce sl pc lv (.long b :: .long a :: st) σ := by
  subst hp
  exact fun H locs ls hP hS hl => lv_ladd C.ex C.by hdg (k H locs ls hP hS hl)
theorem x_lmul (C : CF x g own cc nL rm) {a b : Int64} (hdg : decode cc pc = .ok (.lmul, 1)) (pn : Nat) (hp : pc + 1 = pn) (k : WW x g nL ce sl pn lv (.long (a * b) :: st) σ) : WW x g nL ce sl pc lv (.long b :: .long a :: st) σ := by
  subst hp
  exact fun H locs ls hP hS hl => lv_lmul C.ex C.by hdg (k H locs ls hP hS hl)
theorem x_lcmp (C : CF x g own cc nL rm) {a b : Int64} (hdg : decode cc pc = .ok (.lcmp, 1)) (pn : Nat) (hp : pc + 1 = pn) (k : WW x g nL ce sl pn lv (.int (lg_cmp a b) :: st) σ) : WW x g nL ce sl pc lv (.long b :: .long a :: st) σ := by
  subst hp
  exact fun H locs ls hP hS hl => W.lcmp C.ex C.by hdg (k H locs ls hP hS hl)
theorem x_dup (C : CF x g own cc nL rm) {a : Value} (hdg : decode cc pc = .ok (.dup, 1)) (ha : a.category = 1) (pn : Nat) (hp : pc + 1 = pn) (k : WW x g nL ce sl pn lv (a :: a :: st) σ) : WW x g nL ce sl pc lv (a :: st) σ := by
  subst hp
  exact fun H locs ls hP hS hl => lv_dup C.ex C.by hdg ha (k H locs ls hP hS hl)
theorem x_dup2 (C : CF x g own cc nL rm) {a b : Value} (hdg : decode cc pc = .ok (.dup2, 1)) (ha : a.category = 1) (hb : b.category = 1) (pn : Nat) (hp : pc + 1 = pn) (k : WW x g nL ce sl pn lv (a :: b :: a :: b :: st) σ) : WW x g nL ce sl pc lv (a :: b :: st) σ := by
  subst hp
  exact fun H locs ls hP hS hl => lv_dup2_11 C.ex C.by hdg ha hb (k H locs ls hP hS hl)
theorem x_pop (C : CF x g own cc nL rm) {a : Value} (hdg : decode cc pc = .ok (.pop, 1)) (ha : a.category = 1) (pn : Nat) (hp : pc + 1 = pn) (k : WW x g nL ce sl pn lv st σ) : WW x g nL ce sl pc lv (a :: st) σ := by
  subst hp
  exact fun H locs ls hP hS hl => lv_pop C.ex C.by hdg ha (k H locs ls hP hS hl)
theorem x_goto (C : CF x g own cc nL rm) {off : Int} (hdg : decode cc pc = .ok (.goto off, 3)) (pn : Nat) (ht : (pc : Int) + off = (pn : Int)) (k : WW x g nL ce sl pn lv st σ) : WW x g nL ce sl pc lv st σ :=
  fun H locs ls hP hS hl => lv_goto C.ex C.by hdg ht (k H locs ls hP hS hl)
/-- fewer locals, in another order -/
theorem x_sub {lw : List (Nat × Value)} (ks : List Nat) (h : lv_pick lv ks = lw) (k : WW x g nL ce sl pc lw st σ) : WW x g nL ce sl pc lv st σ :=
  fun H locs ls hP hS hl => k H locs ls hP hS (lv_sub hl ks h)
theorem x_wid {ce1 sl1 : Nat} (h1 : ce ≤ ce1) (h2 : sl ≤ sl1) (k : WW x g nL ce1 sl1 pc lv st σ) : WW x g nL ce sl pc lv st σ :=
  fun H locs ls hP hS hl => W.widen h1 h2 (k H locs ls hP hS hl)
end XI
theorem gt_0 (g : Gb) (σ : WD) : (cells g σ)[0]? = some (adr g 0, .inr (6, [.ref (adr g 1), .ref (adr g 3), .ref (adr g 5), .ref (adr g 7), .ref (adr g 18), .ref (adr g 22), .ref (adr g 27)])) := rfl
theorem gt_1 (g : Gb) (σ : WD) : (cells g σ)[1]? = some (adr g 1, .inr (0, [.int (σ.1 1 0), .ref (adr g 2), .int (σ.1 1 2)])) := rfl
theorem st_1_0 (g : Gb) (σ : WD) (v : Int32) : (cells g σ).set 1 (adr g 1, .inr (0, [.int (σ.1 1 0), .ref (adr g 2), .int (σ.1 1 2)].set 0 (.int v))) = cells g (upi σ 1 0 v) := rfl
theorem st_1_2 (g : Gb) (σ : WD) (v : Int32) : (cells g σ).set 1 (adr g 1, .inr (0, [.int (σ.1 1 0), .ref (adr g 2), .int (σ.1 1 2)].set 2 (.int v))) = cells g (upi σ 1 2 v) := rfl
theorem gt_2 (g : Gb) (σ : WD) : (cells g σ)[2]? = some (adr g 2, .inl (g.2.2.1, 12, .inl (σ.1 2))) := rfl
theorem st_2 (g : Gb) (σ : WD) (f : Nat → Int32) : (cells g σ).set 2 (adr g 2, .inl (g.2.2.1, 12, .inl f)) = cells g (ups σ 2 f) := rfl
theorem gt_3 (g : Gb) (σ : WD) : (cells g σ)[3]? = some (adr g 3, .inr (3, [.ref (adr g 4)])) := rfl
theorem gt_4 (g : Gb) (σ : WD) : (cells g σ)[4]? = some (adr g 4, .inl (g.2.2.1, 12, .inl (σ.1 4))) := rfl
theorem st_4 (g : Gb) (σ : WD) (f : Nat → Int32) : (cells g σ).set 4 (adr g 4, .inl (g.2.2.1, 12, .inl f)) = cells g (ups σ 4 f) := rfl
theorem gt_5 (g : Gb) (σ : WD) : (cells g σ)[5]? = some (adr g 5, .inr (2, [.ref (adr g 6), .int (σ.1 5 1)])) := rfl
theorem st_5_1 (g : Gb) (σ : WD) (v : Int32) : (cells g σ).set 5 (adr g 5, .inr (2, [.ref (adr g 6), .int (σ.1 5 1)].set 1 (.int v))) = cells g (upi σ 5 1 v) := rfl
theorem gt_6 (g : Gb) (σ : WD) : (cells g σ)[6]? = some (adr g 6, .inl (g.2.2.1, 60, .inl (σ.1 6))) := rfl
theorem st_6 (g : Gb) (σ : WD) (f : Nat → Int32) : (cells g σ).set 6 (adr g 6, .inl (g.2.2.1, 60, .inl f)) = cells g (ups σ 6 f) := rfl
theorem gt_7 (g : Gb) (σ : WD) : (cells g σ)[7]? = some (adr g 7, .inr (1, [.ref (adr g 8), .ref (adr g 13), .int (σ.1 7 2), .int (σ.1 7 3)])) := rfl
theorem st_7_2 (g : Gb) (σ : WD) (v : Int32) : (cells g σ).set 7 (adr g 7, .inr (1, [.ref (adr g 8), .ref (adr g 13), .int (σ.1 7 2), .int (σ.1 7 3)].set 2 (.int v))) = cells g (upi σ 7 2 v) := rfl
theorem st_7_3 (g : Gb) (σ : WD) (v : Int32) : (cells g σ).set 7 (adr g 7, .inr (1, [.ref (adr g 8), .ref (adr g 13), .int (σ.1 7 2), .int (σ.1 7 3)].set 3 (.int v))) = cells g (upi σ 7 3 v) := rfl
theorem gt_8 (g : Gb) (σ : WD) : (cells g σ)[8]? = some (adr g 8, .inl (g.2.2.2.2.1, 4, .inr (.inr (.inr (.inr (rws g 9)))))) := rfl
theorem gt_9 (g : Gb) (σ : WD) : (cells g σ)[9]? = some (adr g 9, .inl (g.2.2.1, 12, .inl (σ.1 9))) := rfl
theorem st_9 (g : Gb) (σ : WD) (f : Nat → Int32) : (cells g σ).set 9 (adr g 9, .inl (g.2.2.1, 12, .inl f)) = cells g (ups σ 9 f) := rfl
theorem gt_10 (g : Gb) (σ : WD) : (cells g σ)[10]? = some (adr g 10, .inl (g.2.2.1, 12, .inl (σ.1 10))) := rfl
theorem st_10 (g : Gb) (σ : WD) (f : Nat → Int32) : (cells g σ).set 10 (adr g 10, .inl (g.2.2.1, 12, .inl f)) = cells g (ups σ 10 f) := rfl
theorem gt_11 (g : Gb) (σ : WD) : (cells g σ)[11]? = some (adr g 11, .inl (g.2.2.1, 12, .inl (σ.1 11))) := rfl
theorem st_11 (g : Gb) (σ : WD) (f : Nat → Int32) : (cells g σ).set 11 (adr g 11, .inl (g.2.2.1, 12, .inl f)) = cells g (ups σ 11 f) := rfl
theorem gt_12 (g : Gb) (σ : WD) : (cells g σ)[12]? = some (adr g 12, .inl (g.2.2.1, 12, .inl (σ.1 12))) := rfl
theorem st_12 (g : Gb) (σ : WD) (f : Nat → Int32) : (cells g σ).set 12 (adr g 12, .inl (g.2.2.1, 12, .inl f)) = cells g (ups σ 12 f) := rfl
theorem gt_13 (g : Gb) (σ : WD) : (cells g σ)[13]? = some (adr g 13, .inl (g.2.2.2.2.1, 4, .inr (.inr (.inr (.inr (rws g 14)))))) := rfl
theorem gt_14 (g : Gb) (σ : WD) : (cells g σ)[14]? = some (adr g 14, .inl (g.2.2.1, 12, .inl (σ.1 14))) := rfl
theorem st_14 (g : Gb) (σ : WD) (f : Nat → Int32) : (cells g σ).set 14 (adr g 14, .inl (g.2.2.1, 12, .inl f)) = cells g (ups σ 14 f) := rfl
theorem gt_15 (g : Gb) (σ : WD) : (cells g σ)[15]? = some (adr g 15, .inl (g.2.2.1, 12, .inl (σ.1 15))) := rfl
theorem st_15 (g : Gb) (σ : WD) (f : Nat → Int32) : (cells g σ).set 15 (adr g 15, .inl (g.2.2.1, 12, .inl f)) = cells g (ups σ 15 f) := rfl
theorem gt_16 (g : Gb) (σ : WD) : (cells g σ)[16]? = some (adr g 16, .inl (g.2.2.1, 12, .inl (σ.1 16))) := rfl
theorem st_16 (g : Gb) (σ : WD) (f : Nat → Int32) : (cells g σ).set 16 (adr g 16, .inl (g.2.2.1, 12, .inl f)) = cells g (ups σ 16 f) := rfl
theorem gt_17 (g : Gb) (σ : WD) : (cells g σ)[17]? = some (adr g 17, .inl (g.2.2.1, 12, .inl (σ.1 17))) := rfl
theorem st_17 (g : Gb) (σ : WD) (f : Nat → Int32) : (cells g σ).set 17 (adr g 17, .inl (g.2.2.1, 12, .inl f)) = cells g (ups σ 17 f) := rfl
theorem gt_18 (g : Gb) (σ : WD) : (cells g σ)[18]? = some (adr g 18, .inr (5, [.ref (adr g 1), .ref (adr g 3), .ref (adr g 19), .ref (adr g 20), .ref (adr g 21), .int (σ.1 18 5), .int (σ.1 18 6)])) := rfl
theorem st_18_5 (g : Gb) (σ : WD) (v : Int32) : (cells g σ).set 18 (adr g 18, .inr (5, [.ref (adr g 1), .ref (adr g 3), .ref (adr g 19), .ref (adr g 20), .ref (adr g 21), .int (σ.1 18 5), .int (σ.1 18 6)].set 5 (.int v))) = cells g (upi σ 18 5 v) := rfl
theorem st_18_6 (g : Gb) (σ : WD) (v : Int32) : (cells g σ).set 18 (adr g 18, .inr (5, [.ref (adr g 1), .ref (adr g 3), .ref (adr g 19), .ref (adr g 20), .ref (adr g 21), .int (σ.1 18 5), .int (σ.1 18 6)].set 6 (.int v))) = cells g (upi σ 18 6 v) := rfl
theorem gt_19 (g : Gb) (σ : WD) : (cells g σ)[19]? = some (adr g 19, .inl (g.2.2.1, 12, .inl (σ.1 19))) := rfl
theorem st_19 (g : Gb) (σ : WD) (f : Nat → Int32) : (cells g σ).set 19 (adr g 19, .inl (g.2.2.1, 12, .inl f)) = cells g (ups σ 19 f) := rfl
theorem gt_20 (g : Gb) (σ : WD) : (cells g σ)[20]? = some (adr g 20, .inl (g.2.2.1, 64, .inl (σ.1 20))) := rfl
theorem st_20 (g : Gb) (σ : WD) (f : Nat → Int32) : (cells g σ).set 20 (adr g 20, .inl (g.2.2.1, 64, .inl f)) = cells g (ups σ 20 f) := rfl
theorem gt_21 (g : Gb) (σ : WD) : (cells g σ)[21]? = some (adr g 21, .inl (g.2.2.1, 12, .inl (σ.1 21))) := rfl
theorem st_21 (g : Gb) (σ : WD) (f : Nat → Int32) : (cells g σ).set 21 (adr g 21, .inl (g.2.2.1, 12, .inl f)) = cells g (ups σ 21 f) := rfl
theorem gt_22 (g : Gb) (σ : WD) : (cells g σ)[22]? = some (adr g 22, .inr (4, [.ref (adr g 1), .ref (adr g 23), .ref (adr g 24), .ref (adr g 25), .int (σ.1 22 4), .int (σ.1 22 5)])) := rfl
theorem st_22_4 (g : Gb) (σ : WD) (v : Int32) : (cells g σ).set 22 (adr g 22, .inr (4, [.ref (adr g 1), .ref (adr g 23), .ref (adr g 24), .ref (adr g 25), .int (σ.1 22 4), .int (σ.1 22 5)].set 4 (.int v))) = cells g (upi σ 22 4 v) := rfl
theorem st_22_5 (g : Gb) (σ : WD) (v : Int32) : (cells g σ).set 22 (adr g 22, .inr (4, [.ref (adr g 1), .ref (adr g 23), .ref (adr g 24), .ref (adr g 25), .int (σ.1 22 4), .int (σ.1 22 5)].set 5 (.int v))) = cells g (upi σ 22 5 v) := rfl
theorem gt_23 (g : Gb) (σ : WD) : (cells g σ)[23]? = some (adr g 23, .inl (g.2.2.1, 4096, .inl (σ.1 23))) := rfl
theorem st_23 (g : Gb) (σ : WD) (f : Nat → Int32) : (cells g σ).set 23 (adr g 23, .inl (g.2.2.1, 4096, .inl f)) = cells g (ups σ 23 f) := rfl
theorem gt_24 (g : Gb) (σ : WD) : (cells g σ)[24]? = some (adr g 24, .inl (g.2.2.1, 4096, .inl (σ.1 24))) := rfl
theorem st_24 (g : Gb) (σ : WD) (f : Nat → Int32) : (cells g σ).set 24 (adr g 24, .inl (g.2.2.1, 4096, .inl f)) = cells g (ups σ 24 f) := rfl
theorem gt_25 (g : Gb) (σ : WD) : (cells g σ)[25]? = some (adr g 25, .inr (3, [.ref (adr g 26)])) := rfl
theorem gt_26 (g : Gb) (σ : WD) : (cells g σ)[26]? = some (adr g 26, .inl (g.2.2.1, 12, .inl (σ.1 26))) := rfl
theorem st_26 (g : Gb) (σ : WD) (f : Nat → Int32) : (cells g σ).set 26 (adr g 26, .inl (g.2.2.1, 12, .inl f)) = cells g (ups σ 26 f) := rfl
theorem gt_27 (g : Gb) (σ : WD) : (cells g σ)[27]? = some (adr g 27, .inr (0, [.int (σ.1 27 0), .ref (adr g 28), .int (σ.1 27 2)])) := rfl
theorem st_27_0 (g : Gb) (σ : WD) (v : Int32) : (cells g σ).set 27 (adr g 27, .inr (0, [.int (σ.1 27 0), .ref (adr g 28), .int (σ.1 27 2)].set 0 (.int v))) = cells g (upi σ 27 0 v) := rfl
theorem st_27_2 (g : Gb) (σ : WD) (v : Int32) : (cells g σ).set 27 (adr g 27, .inr (0, [.int (σ.1 27 0), .ref (adr g 28), .int (σ.1 27 2)].set 2 (.int v))) = cells g (upi σ 27 2 v) := rfl
theorem gt_28 (g : Gb) (σ : WD) : (cells g σ)[28]? = some (adr g 28, .inl (g.2.2.1, 12, .inl (σ.1 28))) := rfl
theorem st_28 (g : Gb) (σ : WD) (f : Nat → Int32) : (cells g σ).set 28 (adr g 28, .inl (g.2.2.1, 12, .inl f)) = cells g (ups σ 28 f) := rfl
theorem gt_29 (g : Gb) (σ : WD) : (cells g σ)[29]? = some (adr g 29, .inr (7, [.int (σ.1 29 0), .int (σ.1 29 1), .ref (adr g 30), .ref (adr g 31), .int (σ.1 29 4), .ref (adr g 32), .int (σ.1 29 6), .ref (adr g 33), .ref (adr g 34), .ref (adr g 35), .ref (adr g 36), .ref (adr g 37), .ref (adr g 38), .int (σ.1 29 13), .int (σ.1 29 14), .int (σ.1 29 15), .int (σ.1 29 16), .ref (adr g 39), .long σ.2.1])) := rfl
theorem st_29_0 (g : Gb) (σ : WD) (v : Int32) : (cells g σ).set 29 (adr g 29, .inr (7, [.int (σ.1 29 0), .int (σ.1 29 1), .ref (adr g 30), .ref (adr g 31), .int (σ.1 29 4), .ref (adr g 32), .int (σ.1 29 6), .ref (adr g 33), .ref (adr g 34), .ref (adr g 35), .ref (adr g 36), .ref (adr g 37), .ref (adr g 38), .int (σ.1 29 13), .int (σ.1 29 14), .int (σ.1 29 15), .int (σ.1 29 16), .ref (adr g 39), .long σ.2.1].set 0 (.int v))) = cells g (upi σ 29 0 v) := rfl
theorem st_29_1 (g : Gb) (σ : WD) (v : Int32) : (cells g σ).set 29 (adr g 29, .inr (7, [.int (σ.1 29 0), .int (σ.1 29 1), .ref (adr g 30), .ref (adr g 31), .int (σ.1 29 4), .ref (adr g 32), .int (σ.1 29 6), .ref (adr g 33), .ref (adr g 34), .ref (adr g 35), .ref (adr g 36), .ref (adr g 37), .ref (adr g 38), .int (σ.1 29 13), .int (σ.1 29 14), .int (σ.1 29 15), .int (σ.1 29 16), .ref (adr g 39), .long σ.2.1].set 1 (.int v))) = cells g (upi σ 29 1 v) := rfl
theorem st_29_4 (g : Gb) (σ : WD) (v : Int32) : (cells g σ).set 29 (adr g 29, .inr (7, [.int (σ.1 29 0), .int (σ.1 29 1), .ref (adr g 30), .ref (adr g 31), .int (σ.1 29 4), .ref (adr g 32), .int (σ.1 29 6), .ref (adr g 33), .ref (adr g 34), .ref (adr g 35), .ref (adr g 36), .ref (adr g 37), .ref (adr g 38), .int (σ.1 29 13), .int (σ.1 29 14), .int (σ.1 29 15), .int (σ.1 29 16), .ref (adr g 39), .long σ.2.1].set 4 (.int v))) = cells g (upi σ 29 4 v) := rfl
theorem st_29_6 (g : Gb) (σ : WD) (v : Int32) : (cells g σ).set 29 (adr g 29, .inr (7, [.int (σ.1 29 0), .int (σ.1 29 1), .ref (adr g 30), .ref (adr g 31), .int (σ.1 29 4), .ref (adr g 32), .int (σ.1 29 6), .ref (adr g 33), .ref (adr g 34), .ref (adr g 35), .ref (adr g 36), .ref (adr g 37), .ref (adr g 38), .int (σ.1 29 13), .int (σ.1 29 14), .int (σ.1 29 15), .int (σ.1 29 16), .ref (adr g 39), .long σ.2.1].set 6 (.int v))) = cells g (upi σ 29 6 v) := rfl
theorem st_29_13 (g : Gb) (σ : WD) (v : Int32) : (cells g σ).set 29 (adr g 29, .inr (7, [.int (σ.1 29 0), .int (σ.1 29 1), .ref (adr g 30), .ref (adr g 31), .int (σ.1 29 4), .ref (adr g 32), .int (σ.1 29 6), .ref (adr g 33), .ref (adr g 34), .ref (adr g 35), .ref (adr g 36), .ref (adr g 37), .ref (adr g 38), .int (σ.1 29 13), .int (σ.1 29 14), .int (σ.1 29 15), .int (σ.1 29 16), .ref (adr g 39), .long σ.2.1].set 13 (.int v))) = cells g (upi σ 29 13 v) := rfl
theorem st_29_14 (g : Gb) (σ : WD) (v : Int32) : (cells g σ).set 29 (adr g 29, .inr (7, [.int (σ.1 29 0), .int (σ.1 29 1), .ref (adr g 30), .ref (adr g 31), .int (σ.1 29 4), .ref (adr g 32), .int (σ.1 29 6), .ref (adr g 33), .ref (adr g 34), .ref (adr g 35), .ref (adr g 36), .ref (adr g 37), .ref (adr g 38), .int (σ.1 29 13), .int (σ.1 29 14), .int (σ.1 29 15), .int (σ.1 29 16), .ref (adr g 39), .long σ.2.1].set 14 (.int v))) = cells g (upi σ 29 14 v) := rfl
theorem st_29_15 (g : Gb) (σ : WD) (v : Int32) : (cells g σ).set 29 (adr g 29, .inr (7, [.int (σ.1 29 0), .int (σ.1 29 1), .ref (adr g 30), .ref (adr g 31), .int (σ.1 29 4), .ref (adr g 32), .int (σ.1 29 6), .ref (adr g 33), .ref (adr g 34), .ref (adr g 35), .ref (adr g 36), .ref (adr g 37), .ref (adr g 38), .int (σ.1 29 13), .int (σ.1 29 14), .int (σ.1 29 15), .int (σ.1 29 16), .ref (adr g 39), .long σ.2.1].set 15 (.int v))) = cells g (upi σ 29 15 v) := rfl
theorem st_29_16 (g : Gb) (σ : WD) (v : Int32) : (cells g σ).set 29 (adr g 29, .inr (7, [.int (σ.1 29 0), .int (σ.1 29 1), .ref (adr g 30), .ref (adr g 31), .int (σ.1 29 4), .ref (adr g 32), .int (σ.1 29 6), .ref (adr g 33), .ref (adr g 34), .ref (adr g 35), .ref (adr g 36), .ref (adr g 37), .ref (adr g 38), .int (σ.1 29 13), .int (σ.1 29 14), .int (σ.1 29 15), .int (σ.1 29 16), .ref (adr g 39), .long σ.2.1].set 16 (.int v))) = cells g (upi σ 29 16 v) := rfl
theorem st_29_18 (g : Gb) (σ : WD) (v : Int64) : (cells g σ).set 29 (adr g 29, .inr (7, [.int (σ.1 29 0), .int (σ.1 29 1), .ref (adr g 30), .ref (adr g 31), .int (σ.1 29 4), .ref (adr g 32), .int (σ.1 29 6), .ref (adr g 33), .ref (adr g 34), .ref (adr g 35), .ref (adr g 36), .ref (adr g 37), .ref (adr g 38), .int (σ.1 29 13), .int (σ.1 29 14), .int (σ.1 29 15), .int (σ.1 29 16), .ref (adr g 39), .long σ.2.1].set 18 (.long v))) = cells g (uph σ v) := rfl
theorem gt_30 (g : Gb) (σ : WD) : (cells g σ)[30]? = some (adr g 30, .inl (g.2.2.1, 12, .inl (σ.1 30))) := rfl
theorem st_30 (g : Gb) (σ : WD) (f : Nat → Int32) : (cells g σ).set 30 (adr g 30, .inl (g.2.2.1, 12, .inl f)) = cells g (ups σ 30 f) := rfl
theorem gt_31 (g : Gb) (σ : WD) : (cells g σ)[31]? = some (adr g 31, .inl (g.2.2.1, 12, .inl (σ.1 31))) := rfl
theorem st_31 (g : Gb) (σ : WD) (f : Nat → Int32) : (cells g σ).set 31 (adr g 31, .inl (g.2.2.1, 12, .inl f)) = cells g (ups σ 31 f) := rfl
theorem gt_32 (g : Gb) (σ : WD) : (cells g σ)[32]? = some (adr g 32, .inl (g.2.2.1, 96, .inl (σ.1 32))) := rfl
theorem st_32 (g : Gb) (σ : WD) (f : Nat → Int32) : (cells g σ).set 32 (adr g 32, .inl (g.2.2.1, 96, .inl f)) = cells g (ups σ 32 f) := rfl
theorem gt_33 (g : Gb) (σ : WD) : (cells g σ)[33]? = some (adr g 33, .inl (g.2.2.1, 60, .inl (σ.1 33))) := rfl
theorem st_33 (g : Gb) (σ : WD) (f : Nat → Int32) : (cells g σ).set 33 (adr g 33, .inl (g.2.2.1, 60, .inl f)) = cells g (ups σ 33 f) := rfl
theorem gt_34 (g : Gb) (σ : WD) : (cells g σ)[34]? = some (adr g 34, .inl (g.2.2.1, 4096, .inl (σ.1 34))) := rfl
theorem st_34 (g : Gb) (σ : WD) (f : Nat → Int32) : (cells g σ).set 34 (adr g 34, .inl (g.2.2.1, 4096, .inl f)) = cells g (ups σ 34 f) := rfl
theorem gt_35 (g : Gb) (σ : WD) : (cells g σ)[35]? = some (adr g 35, .inl (g.2.2.1, 4096, .inl (σ.1 35))) := rfl
theorem st_35 (g : Gb) (σ : WD) (f : Nat → Int32) : (cells g σ).set 35 (adr g 35, .inl (g.2.2.1, 4096, .inl f)) = cells g (ups σ 35 f) := rfl
theorem gt_36 (g : Gb) (σ : WD) : (cells g σ)[36]? = some (adr g 36, .inl (g.2.2.1, 12, .inl (σ.1 36))) := rfl
theorem st_36 (g : Gb) (σ : WD) (f : Nat → Int32) : (cells g σ).set 36 (adr g 36, .inl (g.2.2.1, 12, .inl f)) = cells g (ups σ 36 f) := rfl
theorem gt_37 (g : Gb) (σ : WD) : (cells g σ)[37]? = some (adr g 37, .inl (g.2.2.1, 14, .inl (σ.1 37))) := rfl
theorem st_37 (g : Gb) (σ : WD) (f : Nat → Int32) : (cells g σ).set 37 (adr g 37, .inl (g.2.2.1, 14, .inl f)) = cells g (ups σ 37 f) := rfl
theorem gt_38 (g : Gb) (σ : WD) : (cells g σ)[38]? = some (adr g 38, .inl (g.2.2.1, 14, .inl (σ.1 38))) := rfl
theorem st_38 (g : Gb) (σ : WD) (f : Nat → Int32) : (cells g σ).set 38 (adr g 38, .inl (g.2.2.1, 14, .inl f)) = cells g (ups σ 38 f) := rfl
theorem gt_39 (g : Gb) (σ : WD) : (cells g σ)[39]? = some (adr g 39, .inl (g.2.2.1, 90, .inl (σ.1 39))) := rfl
theorem st_39 (g : Gb) (σ : WD) (f : Nat → Int32) : (cells g σ).set 39 (adr g 39, .inl (g.2.2.1, 90, .inl f)) = cells g (ups σ 39 f) := rfl
theorem gt_40 (g : Gb) (σ : WD) : (cells g σ)[40]? = some (adr g 40, .inl (g.2.2.2.1, 1, .inr (.inl (fun j => if j = 0 then σ.2.2 else 0)))) := rfl
theorem st_40 (g : Gb) (σ : WD) (v : Int64) : (cells g σ).set 40 (adr g 40, .inl (g.2.2.2.1, 1, .inr (.inl (vp_updL (fun j => if j = 0 then σ.2.2 else 0) 0 v)))) = cells g (upo σ v) := by
  have hf : vp_updL (fun j => if j = 0 then σ.2.2 else 0) 0 v = fun j => if j = 0 then (upo σ v).2.2 else 0 := by
    funext j
    by_cases h : j = 0 <;> simp [vp_updL, upo, h]
  rw [hf]
  rfl
