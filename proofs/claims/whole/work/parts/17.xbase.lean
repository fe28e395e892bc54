def exN (e : Nat) : String := if e = 1 then "java/lang/IllegalArgumentException" else if e = 2 then "java/lang/IllegalStateException" else "java/lang/IndexOutOfBoundsException"
def XSl : List (Nat × String) := [(268, "the numbers are 0 to 10"), (332, "there is no such node"), (255, "a node has the properties 0 to 4"), (337, "the node is matched"), (257, "a pair has the properties 0 to 2"), (270, "the differences are 0 and 1"), (60, "a graph has 2 to 12 nodes"), (335, "both nodes are the same"), (100, "a character code is 32 to 126"), (107, "the buffer is full"), (121, "the buffer is not a complete text"), (139, "the nodes are not adjacent"), (148, "the node is exposed"), (182, "no edit is kept"), (220, "a bit stands for no node")]
def XCl : List (String × String) := [("java/lang/IllegalArgumentException", "java/lang/IllegalArgumentException"), ("java/lang/IllegalStateException", "java/lang/IllegalStateException"), ("java/lang/IndexOutOfBoundsException", "java/lang/IndexOutOfBoundsException")]
def XDl : List MethodName := [⟨"java/lang/RuntimeException", "<init>", "(Ljava/lang/String;)V"⟩, ⟨"java/lang/Exception", "<init>", "(Ljava/lang/String;)V"⟩, ⟨"java/lang/Throwable", "<init>", "(Ljava/lang/String;)V"⟩]
def XNl : List (String × String) := [("java/lang/IllegalArgumentException", "java/lang/IllegalStateException"), ("java/lang/IllegalArgumentException", "java/lang/IndexOutOfBoundsException"), ("java/lang/IllegalStateException", "java/lang/IllegalArgumentException"), ("java/lang/IllegalStateException", "java/lang/IndexOutOfBoundsException"), ("java/lang/IndexOutOfBoundsException", "java/lang/IllegalArgumentException"), ("java/lang/IndexOutOfBoundsException", "java/lang/IllegalStateException")]
/-- what a throw takes of the start: Throwable's two statics, the texts, words of the exceptions' classes -/
def XP (g : Gb) (U : State) : Prop := vx_Zq Bundle.tN "UNASSIGNED_STACK" Bundle.steD (fA g) U U.heap ∧ vx_Zq Bundle.tN "SUPPRESSED_SENTINEL" Bundle.listD (fA g) U U.heap ∧ (∀ q ∈ XSl, ∃ sa, vk_R RX6 q.1 q.2 sa U) ∧ (∀ q ∈ XCl, va_Nw (.castable q.1 q.2) U) ∧ (∀ q ∈ XDl, va_Nw (.declares q) U) ∧ (∀ q ∈ XNl, va_Nc q.1 q.2 U)
theorem nw_warmD {y : MethodName} {s U : State} (hW : s.WarmedH U.vm) (hZ : va_Nw (.declares y) s) : va_Nw (.declares y) U := va_tabs rfl (rfl : (s.setVm U.vm).vm = U.vm) (by rw [Cond.declares_setVm hW.alike]; exact hZ)
theorem xp_warm {g : Gb} {s U : State} {H : Heap} {locs : List Loc} (hU : U.heap = H) (hW : s.WarmedH U.vm) (hS : va_S (fA g) s.heap H locs) (h : XP g s) : XP g U := by
  obtain ⟨h1, h2, h3, h4, h5, h6⟩ := h
  refine ⟨?_, ?_, fun q hq => ?_, fun q hq => va_Nw.warmC hW (h4 q hq), fun q hq => nw_warmD hW (h5 q hq), fun q hq => va_Nc.moved hW.alike (h6 q hq)⟩
  · rw [hU]; exact (h1.kept hS.2.1).moved hW.alike
  · rw [hU]; exact (h2.kept hS.2.1).moved hW.alike
  · obtain ⟨sa, hsa⟩ := h3 q hq
    exact ⟨sa, vk_R.warm hW hsa⟩
theorem xp_same {g : Gb} {s U : State} (hh : U.heap = s.heap) (hv : U.vm = s.vm) (h : XP g s) : XP g U := by
  obtain ⟨h1, h2, h3, h4, h5, h6⟩ := h
  have ha : s.vm.Alike U.vm := by rw [hv]; exact Vm.Alike.refl _
  refine ⟨?_, ?_, fun q hq => ?_, fun q hq => va_Nw.same rfl hv.symm (h4 q hq), fun q hq => va_Nw.same rfl hv.symm (h5 q hq), fun q hq => va_Nc.moved ha (h6 q hq)⟩
  · rw [hh]; exact h1.moved ha
  · rw [hh]; exact h2.moved ha
  · obtain ⟨sa, hsa⟩ := h3 q hq
    exact ⟨sa, vk_R.same hv hsa⟩
def rmx (f n : Nat) : Room := { frames := f, cells := 1, slots := 6, locals := n }
/-- a throw leaves the world as it was -/
def XCx (g : Gb) (σ : WD) (e : Nat) : String → State → State → Prop := fun E s t => E = exN e ∧ va_P g.1 vwCl (cells g σ) t.heap ∧ va_F (fA g) s t
def MX (l : Launch) (g : Gb) (y : MethodName) (cw : Cond) (rm : Room) (av : List Value) (σ : WD) (e : Nat) : Prop := vx_Met l y (cw :: WS) rm (va_Pc av (fun U => Wp g σ U ∧ XP g U)) (fun _ _ _ _ => False) (XCx g σ e) 1 6 (fA g)
theorem wx_blind {g : Gb} {av : List Value} {σ : WD} : FrameBlind (va_Pc av (fun U => Wp g σ U ∧ XP g U)) := by
  intro a U gg mk q
  obtain ⟨q0, q1, q2⟩ := q
  exact ⟨q0, (wp_blind a U gg mk ⟨q0, q1⟩).2, xp_same (U := U.calling gg mk a) rfl rfl q2⟩
section XT
variable {x : Cx} {g : Gb} {own : String} {cc : ByteArray} {nL pc : Nat} {rm : Room} {lv : List (Nat × Value)} {st : List Value} {σ : WD}
/-- what stands over a walk that ends in a throw -/
def CT (x : Cx) (g : Gb) (σ : WD) (e : Nat) : Prop := x.2.1.stackTraces = false ∧ XP g x.2.2.2.2.1 ∧ (∀ z ∈ x.2.2.2.2.2.2.2.2.2.1.exceptionTable.toList, False) ∧ x.2.2.2.2.2.2.2.2.2.2 = vx_MQ x.2.2.2.2.2.2.2.1 (fun _ _ _ _ => False) (XCx g σ e) x.2.2.2.2.2.2.1 x.2.2.2.2.1 1 6 (fA g)
theorem x_throwC {cls text : String} {ik is ic e : Nat} (C : CF x g RX6 cc nL rm) (X : CT x g σ e) (hfit : Bundle.fit cls = true) (hk : Cond.classLink RX6 ik cls ∈ WS) (hi : Cond.initialized cls ∈ WS) (hcc : (cls, cls) ∈ XCl) (he : exN e = cls)
    (hg : ∀ w ∈ (vx_atS RX6 ic cls ["java/lang/RuntimeException", "java/lang/Exception"]).filter goodWord, w ∈ WS) (hb : ∀ w ∈ (vx_atS RX6 ic cls ["java/lang/RuntimeException", "java/lang/Exception"]).filter (fun w => !goodWord w), w ∈ Cond.castable cls cls :: XDl.map Cond.declares) :
    (∀ w ∈ vx_atS RX6 ic cls ["java/lang/RuntimeException", "java/lang/Exception"], w.before x.2.2.2.2.2.2.1 x.2.2.2.2.1 = true) := by
  refine vx_hat (fun w hw => C.ts w (hg w hw)) hb (fun w hw => ?_)
  rcases List.mem_cons.mp hw with rfl | h
  · exact va_Nw.use rfl (X.2.1.2.2.2.1 _ hcc)
  · obtain ⟨y, hy, rfl⟩ := List.mem_map.mp h
    exact va_Nw.use rfl (X.2.1.2.2.2.2.1 y hy)
/-- new E(text) thrown: ldc -/
theorem x_throwS {cls text : String} {ik is ic e : Nat} (C : CF x g RX6 cc nL rm) (X : CT x g σ e) (hfit : Bundle.fit cls = true) (hk : Cond.classLink RX6 ik cls ∈ WS) (hi : Cond.initialized cls ∈ WS) (hcc : (cls, cls) ∈ XCl) (he : exN e = cls) (hs : (is, text) ∈ XSl)
    (hg : ∀ w ∈ (vx_atS RX6 ic cls ["java/lang/RuntimeException", "java/lang/Exception"]).filter goodWord, w ∈ WS) (hb : ∀ w ∈ (vx_atS RX6 ic cls ["java/lang/RuntimeException", "java/lang/Exception"]).filter (fun w => !goodWord w), w ∈ Cond.castable cls cls :: XDl.map Cond.declares)
    (hgood : ∀ w ∈ Cond.classLink RX6 ik cls :: Cond.initialized cls :: vx_atS RX6 ic cls ["java/lang/RuntimeException", "java/lang/Exception"], vx_ot w = true)
    (hfr : 5 < rm.frames) (hlo : (st.map fun v => v.category).sum + 82 ≤ rm.locals) (hcs : 1 ≤ rm.cells ∧ 6 ≤ rm.slots)
    (d0 : decode cc pc = .ok (.new ik, 3)) (d3 : decode cc (pc + 3) = .ok (.dup, 1)) (d4 : decode cc (pc + 4) = .ok (.ldc is, 2)) (d6 : decode cc (pc + 6) = .ok (.invokespecial ic, 3)) (d9 : decode cc (pc + 9) = .ok (.athrow, 1)) : WW x g nL 0 0 pc lv st σ := by
  intro H locs ls hP hS hl
  obtain ⟨sa, hsa⟩ := X.2.1.2.2.1 _ hs
  rw [X.2.2.2]
  exact vx_throwS C.ex C.by X.1 C.ow hfit (by decide) (C.ts _ hk) (C.ts _ hi) hsa (x_throwC (text := text) (ik := ik) (is := is) C X hfit hk hi hcc he hg hb) hgood X.2.1.1 X.2.1.2.1 hS (hl.1.trans C.ml.symm) d0 d3 d4 d6 d9 (fun z hz => (X.2.2.1 z hz).elim) (by rw [C.ro]; exact hfr) (by rw [C.ro]; exact hlo) (by rw [C.ro]; simpa using hcs.1) (by rw [C.ro]; simpa using hcs.2) C.lk
    (fun t ht hz hk => ⟨he.symm, fun k q hq => (hP k q hq).kept (hk _ ((hP k q hq).lt)), Nat.le_trans hS.1 hz, fun q h1 h2 => by rw [hk q (Nat.lt_of_lt_of_le h1 hS.1)]; exact hS.2.1 q h1 h2⟩) hS.2.2 (by decide) (by decide)
theorem x_throwSW {cls text : String} {ik is ic e : Nat} (C : CF x g RX6 cc nL rm) (X : CT x g σ e) (hfit : Bundle.fit cls = true) (hk : Cond.classLink RX6 ik cls ∈ WS) (hi : Cond.initialized cls ∈ WS) (hcc : (cls, cls) ∈ XCl) (he : exN e = cls) (hs : (is, text) ∈ XSl)
    (hg : ∀ w ∈ (vx_atS RX6 ic cls ["java/lang/RuntimeException", "java/lang/Exception"]).filter goodWord, w ∈ WS) (hb : ∀ w ∈ (vx_atS RX6 ic cls ["java/lang/RuntimeException", "java/lang/Exception"]).filter (fun w => !goodWord w), w ∈ Cond.castable cls cls :: XDl.map Cond.declares)
    (hgood : ∀ w ∈ Cond.classLink RX6 ik cls :: Cond.initialized cls :: vx_atS RX6 ic cls ["java/lang/RuntimeException", "java/lang/Exception"], vx_ot w = true)
    (hfr : 5 < rm.frames) (hlo : (st.map fun v => v.category).sum + 82 ≤ rm.locals) (hcs : 1 ≤ rm.cells ∧ 6 ≤ rm.slots)
    (d0 : decode cc pc = .ok (.new ik, 3)) (d3 : decode cc (pc + 3) = .ok (.dup, 1)) (d4 : decode cc (pc + 4) = .ok (.ldc_w is, 3)) (d6 : decode cc (pc + 7) = .ok (.invokespecial ic, 3)) (d9 : decode cc (pc + 10) = .ok (.athrow, 1)) : WW x g nL 0 0 pc lv st σ := by
  intro H locs ls hP hS hl
  obtain ⟨sa, hsa⟩ := X.2.1.2.2.1 _ hs
  rw [X.2.2.2]
  exact vx_throwSW C.ex C.by X.1 C.ow hfit (by decide) (C.ts _ hk) (C.ts _ hi) hsa (x_throwC (text := text) (ik := ik) (is := is) C X hfit hk hi hcc he hg hb) hgood X.2.1.1 X.2.1.2.1 hS (hl.1.trans C.ml.symm) d0 d3 d4 d6 d9 (fun z hz => (X.2.2.1 z hz).elim) (by rw [C.ro]; exact hfr) (by rw [C.ro]; exact hlo) (by rw [C.ro]; simpa using hcs.1) (by rw [C.ro]; simpa using hcs.2) C.lk
    (fun t ht hz hk => ⟨he.symm, fun k q hq => (hP k q hq).kept (hk _ ((hP k q hq).lt)), Nat.le_trans hS.1 hz, fun q h1 h2 => by rw [hk q (Nat.lt_of_lt_of_le h1 hS.1)]; exact hS.2.1 q h1 h2⟩) hS.2.2 (by decide) (by decide)
theorem x_preX (C : CF x g own cc nL rm) (hX : XP g x.2.2.2.2.1) {H : Heap} {locs : List Loc} {av : List Value} (hP : va_P g.1 vwCl (cells g σ) H) (hS : va_S (fA g) x.2.2.2.2.1.heap H locs) : ∀ U : State, U.heap = H → x.2.2.2.2.1.WarmedH U.vm → va_Pc av (fun U => Wp g σ U ∧ XP g U) av.toArray U :=
  fun U hU hW => ⟨rfl, (x_pre C hP hS (av := av) U hU hW).2, xp_warm hU hW hS hX⟩
/-- a callee throws, and its caller passes it on -/
theorem x_outV (C : CF x g own cc nL rm) {e : Nat} (X : CT x g σ e) {y : MethodName} {cw : Cond} {bytes : ByteArray} {maxL n idx ci : Nat} {ret : Option FieldType} {rm' : Room} {fs : List Value} {T : u_T} {N : Nat} (k : Nat) (As : List Value)
    (hM : MX x.2.1 g y cw rm' (.ref (adr g k) :: As) σ e) (hI : MI y cw bytes maxL n ret) (hg : (cells g σ)[k]? = some (adr g k, .inr (ci, fs))) (hc : vwCl[ci]? = some (y.cls, T, N)) (hl0 : Cond.methodLink own idx y ∈ WS) (hn : As.length = n) (hz : rm'.cells = 1 ∧ rm'.slots = 6) (hR : rm'.frames + 1 ≤ rm.frames ∧ 8 + (maxL + 11) + rm'.locals ≤ rm.locals) (hce : 1 ≤ rm.cells ∧ 6 ≤ rm.slots) (st0 : List Value) (hst : st0 = As.reverse ++ .ref (adr g k) :: st) (hw : (st.map fun v => v.category).sum ≤ 8)
    (hdg : decode cc pc = .ok (.invokevirtual idx, 3)) : WW x g nL 0 0 pc lv st0 σ := by
  obtain ⟨h1, h2, h3, h4, h5, h6, h7, h8⟩ := hI
  subst h1
  intro H locs ls hP hS hl
  have hr := vx_runV (R := x.2.2.2.1) (locs := locs) (p := x.1) (e := x.2.2.1) (below := x.2.2.2.2.2.2.2.1) (meth := x.2.2.2.2.2.2.2.2.1) (cells := 0) (slots := 0) (g := F0 x.2.2.2.2.2.1 pc ls st0) (As := As) (rest := st) (C := y.cls) (bytes := bytes) (maxL := maxL) (ret := ret) ⟨C.ex, C.by, C.ml, C.ow, C.ts⟩ hM ⟨callB_of n C.ts (ws_gi h2) rfl hz.1 hz.2 (C.ts _ h5) (C.ts _ hl0) ⟨h6, h7, h8⟩ (by rw [C.ro]; exact hR), C.ts _ h3, C.ts _ h4⟩ ⟨wx_blind, va_recv C.K hP hc hg, x_preX C X.2.1 hP hS⟩ rfl hn hl.1 hst (lv_room hw) hdg (by rw [C.ro]; exact ⟨by omega, by omega⟩)
  intro T hT Xs
  rcases hr T hT Xs with ⟨v, st₀, t, T', L, h0, X', hL, e1, e2, hF, stp⟩ | ⟨q, st₀, t, T', L, E, ce, h0, X', hL, e1, e2, ⟨hE, hPt, hF⟩, hce2, hcv, hcl, stp⟩
  · exact hF.elim
  · obtain ⟨k1, k2, k3⟩ := vx_keep h0 e1 hS (fun _ _ h => h) (fun _ h => h) hL hF
    have := vx_out (pc := pc) (ls := ls) (rest := st) (p := x.1) (l := x.2.1) (e := x.2.2.1) (R := x.2.2.2.1) (c := x.2.2.2.2.2.2.2.2.2.1) (below := x.2.2.2.2.2.2.2.1) (Qc := (fun _ _ _ _ => False)) (XC := XCx g σ e) (args := x.2.2.2.2.2.2.1) (m := x.2.2.2.2.2.1) (mc := 1) (ms := 6) (free := fA g) (cells := 0 + 1) (slots := 0 + 6) (H := T'.heap) (locs := locs ++ L) (q := q) (ce := ce) (E := E) (fun z hz => (X.2.2.1 z hz).elim) C.lk (by rw [e1]; exact hce2) hcv hcl
      (fun t2 ht2 _ => ⟨hE, by rw [ht2, e1]; exact hPt, k3.F ht2⟩) k3.2.2 (by decide) (by decide)
    rw [X.2.2.2]
    obtain ⟨t2, a1, b1⟩ := this T' rfl X'
    exact ⟨t2, stp.trans a1, b1⟩
theorem x_outS (C : CF x g own cc nL rm) {e : Nat} (X : CT x g σ e) {y : MethodName} {cw : Cond} {bytes : ByteArray} {maxL n idx : Nat} {ret : Option FieldType} {rm' : Room} (As : List Value)
    (hM : MX x.2.1 g y cw rm' As σ e) (hI : MS y cw bytes maxL n ret) (hl0 : Cond.methodLink own idx y ∈ WS) (hn : As.length = n) (hz : rm'.cells = 1 ∧ rm'.slots = 6) (hR : rm'.frames + 1 ≤ rm.frames ∧ 8 + (maxL + 11) + rm'.locals ≤ rm.locals) (hce : 1 ≤ rm.cells ∧ 6 ≤ rm.slots) (st0 : List Value) (hst : st0 = As.reverse ++ st) (hw : (st.map fun v => v.category).sum ≤ 8)
    (hdg : decode cc pc = .ok (.invokestatic idx, 3)) : WW x g nL 0 0 pc lv st0 σ := by
  obtain ⟨h1, h2, h3, h5, h6, h7, h8⟩ := hI
  subst h1
  intro H locs ls hP hS hl
  have hr := vx_runS (R := x.2.2.2.1) (locs := locs) (p := x.1) (e := x.2.2.1) (below := x.2.2.2.2.2.2.2.1) (meth := x.2.2.2.2.2.2.2.2.1) (cells := 0) (slots := 0) (g := F0 x.2.2.2.2.2.1 pc ls st0) (As := As) (rest := st) (bytes := bytes) (maxL := maxL) (ret := ret) ⟨C.ex, C.by, C.ml, C.ow, C.ts⟩ hM ⟨callB_of n C.ts (ws_gi h2) rfl hz.1 hz.2 (C.ts _ h5) (C.ts _ hl0) ⟨h6, h7, h8⟩ (by rw [C.ro]; exact hR), C.ts _ h3⟩ ⟨wx_blind, x_preX C X.2.1 hP hS⟩ rfl hn hl.1 hst (lv_room hw) hdg (by rw [C.ro]; exact ⟨by omega, by omega⟩)
  intro T hT Xs
  rcases hr T hT Xs with ⟨v, st₀, t, T', L, h0, X', hL, e1, e2, hF, stp⟩ | ⟨q, st₀, t, T', L, E, ce, h0, X', hL, e1, e2, ⟨hE, hPt, hF⟩, hce2, hcv, hcl, stp⟩
  · exact hF.elim
  · obtain ⟨k1, k2, k3⟩ := vx_keep h0 e1 hS (fun _ _ h => h) (fun _ h => h) hL hF
    have := vx_out (pc := pc) (ls := ls) (rest := st) (p := x.1) (l := x.2.1) (e := x.2.2.1) (R := x.2.2.2.1) (c := x.2.2.2.2.2.2.2.2.2.1) (below := x.2.2.2.2.2.2.2.1) (Qc := (fun _ _ _ _ => False)) (XC := XCx g σ e) (args := x.2.2.2.2.2.2.1) (m := x.2.2.2.2.2.1) (mc := 1) (ms := 6) (free := fA g) (cells := 0 + 1) (slots := 0 + 6) (H := T'.heap) (locs := locs ++ L) (q := q) (ce := ce) (E := E) (fun z hz => (X.2.2.1 z hz).elim) C.lk (by rw [e1]; exact hce2) hcv hcl
      (fun t2 ht2 _ => ⟨hE, by rw [ht2, e1]; exact hPt, k3.F ht2⟩) k3.2.2 (by decide) (by decide)
    rw [X.2.2.2]
    obtain ⟨t2, a1, b1⟩ := this T' rfl X'
    exact ⟨t2, stp.trans a1, b1⟩
theorem MX.of {l : Launch} {y : MethodName} {av : List Value} {e : Nat} {ret : Option FieldType} (hl9 : l.stackTraces = false) (hy : plainName y.cls = true) (hn : (lg_sl av).length ≤ nL) (body : ∀ x : Cx, CF x g y.cls cc nL rm → x.2.1 = l → CT x g σ e → WW x g nL 0 0 0 (lv_args 0 av) [] σ) : MX l g y (.code y cc nL ret) rm av σ e := by
  refine vx_ofW (cc := cc) (maxL := nL) (ret := ret) hy rfl ?_
  intro p e2 s m args below meth c s₁ B hml htab hv
  obtain ⟨rfl, ⟨q1, q2, q3, q4, q5⟩, q6⟩ := hv
  have hts := atoms_spec (ws := .code y cc nL ret :: WS) B.pre
  have hl := lv_entry av (n := nL) hn
  rw [lg_entry_eq]
  exact body (p, l, e2, _, s, m, _, below, meth, c, _) ⟨B.exec, B.bytes, hml, findClass_of_methodNamed B.named, fun w hw => hts w (List.mem_cons_of_mem _ hw), q3, q4, q5, q1, rfl, B.notSynchronized⟩ rfl ⟨hl9, q6, htab, rfl⟩ s.heap [] _ q2 va_S.rf hl
end XT
theorem xg_1 : ∀ w ∈ (vx_atS RX6 62 "java/lang/IllegalArgumentException" ["java/lang/RuntimeException", "java/lang/Exception"]).filter goodWord, w ∈ WS := fun w hw => List.mem_filter.mpr ⟨List.mem_append_right _ ((by decide +kernel : ∀ w ∈ (vx_atS RX6 62 "java/lang/IllegalArgumentException" ["java/lang/RuntimeException", "java/lang/Exception"]).filter goodWord, w ∈ tables_1) w hw), (List.mem_filter.mp hw).2⟩
theorem xb_1 : ∀ w ∈ (vx_atS RX6 62 "java/lang/IllegalArgumentException" ["java/lang/RuntimeException", "java/lang/Exception"]).filter (fun w => !goodWord w), w ∈ Cond.castable "java/lang/IllegalArgumentException" "java/lang/IllegalArgumentException" :: XDl.map Cond.declares := by decide +kernel
theorem xo_1 : ∀ w ∈ Cond.classLink RX6 58 "java/lang/IllegalArgumentException" :: Cond.initialized "java/lang/IllegalArgumentException" :: vx_atS RX6 62 "java/lang/IllegalArgumentException" ["java/lang/RuntimeException", "java/lang/Exception"], vx_ot w = true := by decide +kernel
theorem xg_2 : ∀ w ∈ (vx_atS RX6 109 "java/lang/IllegalStateException" ["java/lang/RuntimeException", "java/lang/Exception"]).filter goodWord, w ∈ WS := fun w hw => List.mem_filter.mpr ⟨List.mem_append_right _ ((by decide +kernel : ∀ w ∈ (vx_atS RX6 109 "java/lang/IllegalStateException" ["java/lang/RuntimeException", "java/lang/Exception"]).filter goodWord, w ∈ tables_1) w hw), (List.mem_filter.mp hw).2⟩
theorem xb_2 : ∀ w ∈ (vx_atS RX6 109 "java/lang/IllegalStateException" ["java/lang/RuntimeException", "java/lang/Exception"]).filter (fun w => !goodWord w), w ∈ Cond.castable "java/lang/IllegalStateException" "java/lang/IllegalStateException" :: XDl.map Cond.declares := by decide +kernel
theorem xo_2 : ∀ w ∈ Cond.classLink RX6 105 "java/lang/IllegalStateException" :: Cond.initialized "java/lang/IllegalStateException" :: vx_atS RX6 109 "java/lang/IllegalStateException" ["java/lang/RuntimeException", "java/lang/Exception"], vx_ot w = true := by decide +kernel
theorem xg_3 : ∀ w ∈ (vx_atS RX6 334 "java/lang/IndexOutOfBoundsException" ["java/lang/RuntimeException", "java/lang/Exception"]).filter goodWord, w ∈ WS := fun w hw => List.mem_filter.mpr ⟨List.mem_append_right _ ((by decide +kernel : ∀ w ∈ (vx_atS RX6 334 "java/lang/IndexOutOfBoundsException" ["java/lang/RuntimeException", "java/lang/Exception"]).filter goodWord, w ∈ tables_1) w hw), (List.mem_filter.mp hw).2⟩
theorem xb_3 : ∀ w ∈ (vx_atS RX6 334 "java/lang/IndexOutOfBoundsException" ["java/lang/RuntimeException", "java/lang/Exception"]).filter (fun w => !goodWord w), w ∈ Cond.castable "java/lang/IndexOutOfBoundsException" "java/lang/IndexOutOfBoundsException" :: XDl.map Cond.declares := by decide +kernel
theorem xo_3 : ∀ w ∈ Cond.classLink RX6 330 "java/lang/IndexOutOfBoundsException" :: Cond.initialized "java/lang/IndexOutOfBoundsException" :: vx_atS RX6 334 "java/lang/IndexOutOfBoundsException" ["java/lang/RuntimeException", "java/lang/Exception"], vx_ot w = true := by decide +kernel
