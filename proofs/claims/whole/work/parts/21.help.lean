/-- a helper's answer: 0 and the answer in out; or which exception came -/
def hl (m : Option ((Int32 × WD) ⊕ Nat)) (e1 e2 : Nat) (σ : WD) : Option (Int32 × WD) := match m with
  | some (.inl p) => some (0, upo p.2 p.1.toInt64)
  | some (.inr e) => if e = e1 then some (1, σ) else if e = e2 then some (2, σ) else none
  | none => none
def hlr (m : Option (Int32 ⊕ Nat)) (e1 e2 : Nat) (σ : WD) : Option (Int32 × WD) := match m with
  | some (.inl p) => some (0, upo σ p.toInt64)
  | some (.inr e) => if e = e1 then some (1, σ) else if e = e2 then some (2, σ) else none
  | none => none
def MH (l : Launch) (g : Gb) (y : MethodName) (cw : Cond) (rm : Room) (av : List Value) (σ : WD) (v : Option Value) (σ' : WD) : Prop := Met l y (cw :: WS) rm (va_Pc av (fun U => Wp g σ U ∧ XP g U)) (QC g v σ') 1 6 (fA g)
theorem Met.ofWH {l : Launch} {y : MethodName} {ws ws' : List Cond} {rm : Room} {Pc : Array Value → State → Prop} {Qc : Array Value → State → Outcome → State → Prop} {mc ms : Nat} {free : Addr → Prop} {cc : ByteArray} {maxL : Nat} {ret : Option FieldType} {hh : List (Nat × Nat × Nat × Nat)}
    (hy : plainName y.cls = true) (hw : ws = Cond.codeWith y cc maxL ret hh :: ws')
    (body : ∀ p e s m args below meth c s₁, BodyLoose p l y (headSpec ws rm) cc maxL ret e s m args below meth c s₁ → c.maxLocals = maxL → Pc args s →
      W p l e (headSpec ws rm).room s m args below meth c s.heap [] 0 0 (MQ below Qc args s mc ms free) (entryFrame m args maxL)) : Met l y ws rm Pc Qc mc ms free := by
  refine MetFree.of_bodyS (code := cc) (maxLocals := maxL) (ret := ret) hy ?_ ?_
  · intro args s m h hn
    obtain ⟨m9, meth, c, hn9, h1, h2, h3, h4, -, h5, h6, -⟩ := Cond.codeWith_spec (atoms_spec (ws := ws) h _ (by rw [hw]; exact List.mem_cons_self))
    cases hn.symm.trans hn9
    exact ⟨meth, c, h1, h2, h3, h4, h5, h6⟩
  · intro p e s m args below meth c s₁ B hml hP _
    have hh0 : s₁.heap = s.heap := by rw [B.state]; rfl
    obtain ⟨t, a1, o, b1, b2, b3⟩ := body p e s m args below meth c s₁ B hml hP s₁ hh0 (Stand.of_body B)
    exact ⟨t, o, a1, b1, b2, b3⟩
section XH
variable {x : Cx} {g : Gb} {own : String} {cc : ByteArray} {nL pc : Nat} {rm : Room} {lv : List (Nat × Value)} {st : List Value} {σ : WD}
theorem MH.of {l : Launch} {y : MethodName} {av : List Value} {σ' : WD} {ret : Option FieldType} {v : Option Value} {hh : List (Nat × Nat × Nat × Nat)} (hy : plainName y.cls = true) (hn : (lg_sl av).length ≤ nL) (body : ∀ x : Cx, CF x g y.cls cc nL rm → x.2.1 = l → XP g x.2.2.2.2.1 → x.2.2.2.2.2.2.2.2.2.1.exceptionTable.toList = tableOf hh → x.2.2.2.2.2.2.2.2.1.sig.returnType = ret → x.2.2.2.2.2.2.2.2.2.2 = MQ x.2.2.2.2.2.2.2.1 (QC g v σ') x.2.2.2.2.2.2.1 x.2.2.2.2.1 1 6 (fA g) → WW x g nL 0 0 0 (lv_args 0 av) [] σ) : MH l g y (.codeWith y cc nL ret hh) rm av σ v σ' := by
  refine Met.ofWH (cc := cc) (maxL := nL) (ret := ret) (hh := hh) hy rfl ?_
  intro p e s m args below meth c s₁ B hml hv
  obtain ⟨rfl, ⟨q1, q2, q3, q4, q5⟩, q6⟩ := hv
  have hts := atoms_spec (ws := .codeWith y cc nL ret hh :: WS) B.pre
  have hl := lv_entry av (n := nL) hn
  rw [lg_entry_eq]
  exact body (p, l, e, _, s, m, _, below, meth, c, _) ⟨B.exec, B.bytes, hml, findClass_of_methodNamed B.named, fun w hw => hts w (List.mem_cons_of_mem _ hw), q3, q4, q5, q1, rfl, B.notSynchronized⟩ rfl q6 (vx_table (x := y) B (hts _ List.mem_cons_self)) B.returns rfl s.heap [] _ q2 va_S.rf hl
theorem x_iret1 {v : Int32} {σ' : WD} {mc ms : Nat} (C : CF x g own cc nL rm) (hr : x.2.2.2.2.2.2.2.2.1.sig.returnType = some .int) (hq : x.2.2.2.2.2.2.2.2.2.2 = MQ x.2.2.2.2.2.2.2.1 (QC g (some (.int v)) σ') x.2.2.2.2.2.2.1 x.2.2.2.2.1 mc ms (fA g)) (hdg : decode cc pc = .ok (.ireturn, 1)) : WW x g nL mc ms pc lv [.int v] σ' := by
  intro H locs ls hP hS hl
  rw [hq]
  exact W.iret C.ex C.by hr (fun t ht hW => ⟨⟨rfl, by rw [ht]; exact hP⟩, hS.F ht⟩) hS.2.2 hdg C.lk
/-- a call of the class throws, and is caught here -/
theorem x_catchV (C : CF x g own cc nL rm) (hX : XP g x.2.2.2.2.1) {e : Nat} {y : MethodName} {cw : Cond} {bytes : ByteArray} {maxL n idx ci : Nat} {ret : Option FieldType} {rm' : Room} {fs : List Value} {T : u_T} {N : Nat} (k : Nat) (As : List Value)
    (hM : MX x.2.1 g y cw rm' (.ref (adr g k) :: As) σ e) (hI : MI y cw bytes maxL n ret) (hg : (cells g σ)[k]? = some (adr g k, .inr (ci, fs))) (hc : vwCl[ci]? = some (y.cls, T, N)) (hl0 : Cond.methodLink own idx y ∈ WS) (hn : As.length = n) (hz : rm'.cells = 1 ∧ rm'.slots = 6) (hR : rm'.frames + 1 ≤ rm.frames ∧ 8 + (maxL + 11) + rm'.locals ≤ rm.locals) (hce : 1 ≤ rm.cells ∧ 6 ≤ rm.slots) (st0 : List Value) (hst : st0 = As.reverse ++ .ref (adr g k) :: st) (hw : (st.map fun v => v.category).sum ≤ 8)
    (pre : List ExceptionTableEntry) (xe : ExceptionTableEntry) (suf : List ExceptionTableEntry) (hsplit : x.2.2.2.2.2.2.2.2.2.1.exceptionTable.toList = pre ++ xe :: suf) (hpass : ∀ z ∈ pre, z.catchType ≠ 0 ∧ ∃ nm : String, Cond.classLink own z.catchType nm ∈ WS ∧ (exN e, nm) ∈ XNl) (hcov : covers xe pc = true) (h0 : xe.catchType ≠ 0) (hlk : Cond.classLink own xe.catchType (exN e) ∈ WS) (hcc : (exN e, exN e) ∈ XCl)
    (hdg : decode cc pc = .ok (.invokevirtual idx, 3)) (kk : ∀ q : Nat, WW x g nL 1 6 xe.handlerPc lv [.ref q] σ) : WW x g nL 0 0 pc lv st0 σ := by
  obtain ⟨h1, h2, h3, h4, h5, h6, h7, h8⟩ := hI
  subst h1
  intro H locs ls hP hS hl
  have hr := vx_runV (R := x.2.2.2.1) (locs := locs) (p := x.1) (e := x.2.2.1) (below := x.2.2.2.2.2.2.2.1) (meth := x.2.2.2.2.2.2.2.2.1) (cells := 0) (slots := 0) (g := F0 x.2.2.2.2.2.1 pc ls st0) (As := As) (rest := st) (C := y.cls) (bytes := bytes) (maxL := maxL) (ret := ret) ⟨C.ex, C.by, C.ml, C.ow, C.ts⟩ hM ⟨callB_of n C.ts (ws_gi h2) rfl hz.1 hz.2 (C.ts _ h5) (C.ts _ hl0) ⟨h6, h7, h8⟩ (by rw [C.ro]; exact hR), C.ts _ h3, C.ts _ h4⟩ ⟨wx_blind, va_recv C.K hP hc hg, x_preX C hX hP hS⟩ rfl hn hl.1 hst (lv_room hw) hdg (by rw [C.ro]; exact ⟨by omega, by omega⟩)
  intro T hT Xs
  rcases hr T hT Xs with ⟨v, st₀, t, T', L, h0, X', hL, e1, e2, hF, stp⟩ | ⟨q, st₀, t, T', L, E, ce, h00, X', hL, e1, e2, ⟨hE, hPt, hF⟩, hce2, hcv, hcl, stp⟩
  · exact hF.elim
  · subst hE
    obtain ⟨k1, k2, k3⟩ := vx_keep h00 e1 hS (fun _ _ h => h) (fun _ h => h) hL hF
    have := vx_catch (pc := pc) (ls := ls) (rest := st) (p := x.1) (l := x.2.1) (e := x.2.2.1) (R := x.2.2.2.1) (below := x.2.2.2.2.2.2.2.1) (meth := x.2.2.2.2.2.2.2.2.1) (Q := x.2.2.2.2.2.2.2.2.2.2) (cells := 0 + 1) (slots := 0 + 6) (H := T'.heap) (locs := locs ++ L) (q := q) (ce := ce) (args := x.2.2.2.2.2.2.1) C.ow pre xe suf hsplit
      (fun z hz => by
        obtain ⟨z0, nm, z1, z2⟩ := hpass z hz
        exact Or.inr ⟨z0, nm, C.ts _ z1, hX.2.2.2.2.2 _ z2⟩) hcov h0 (C.ts _ hlk) (va_Nw.use rfl (hX.2.2.2.1 _ hcc)) (by rw [e1]; exact hce2) hcv hcl (kk q T'.heap (locs ++ L) ls (by rw [e1]; exact hPt) k3 hl)
    obtain ⟨t2, a1, b1⟩ := this T' rfl X'
    exact ⟨t2, stp.trans a1, b1⟩
end XH
noncomputable def f_L_begin (a1 : Int32) (σ : WD) : Option (Int32 × WD) := hl (f_X6_begin a1 σ) 1 1 σ
set_option maxHeartbeats 4000000 in
set_option maxRecDepth 100000 in
theorem c_L_begin {l : Launch} {g : Gb} {a1 : Int32} {σ : WD} {r : Int32} {σ2 : WD} (hl9 : l.stackTraces = false) (h : f_L_begin a1 σ = some (r, σ2)) : MH l g yL_begin (.codeWith yL_begin cL_begin 4 (some .int) [(0, 9, 12, 13)]) (rmx 8 114) [.ref (adr g 0), .int a1, .ref (adr g 40)] σ (some (.int r)) σ2 := by
  refine MH.of (by decide) (Nat.le_of_ble_eq_true rfl) (fun x C hl hX ht hr hq => ?_)
  subst hl
  show WW x g 4 0 0 0 [(0, .ref (adr g 0)), (1, .int a1), (2, .ref (adr g 40))] [] σ
  unfold f_L_begin hl at h
  split at h
  · rename_i p hm
    cases h
    refine x_aload_n C dL_begin_0 rfl 2 rfl 1 rfl ?_
    refine x_iconst C (v := 0) dL_begin_1 (by decide) 2 rfl ?_
    refine x_aload_n C dL_begin_2 rfl 0 rfl 3 rfl ?_
    refine x_iload_n C dL_begin_3 rfl 1 rfl 4 rfl ?_
    refine x_callV C 0 [.int a1] (c_X6_begin hm) mi_X6_begin (gt_0 g _) rfl q_588 rfl ⟨rfl, rfl⟩ ⟨(Nat.le_of_ble_eq_true rfl), (Nat.le_of_ble_eq_true rfl)⟩ ⟨Nat.zero_le _, Nat.zero_le _⟩ _ rfl (Nat.le_of_ble_eq_true rfl) dL_begin_4 7 rfl ?_
    refine x_i2l C dL_begin_7 8 rfl ?_
    refine x_last C dL_begin_8 9 rfl ?_
    refine x_goto C dL_begin_9 15 (by decide) ?_
    refine x_iconst C (v := 0) dL_begin_15 (by decide) 16 rfl ?_
    exact x_wid (by decide) (by decide) (x_iret1 C hr hq dL_begin_16)
  · rename_i e hm
    split at h
    · rename_i he
      subst he
      cases h
      refine x_aload_n C dL_begin_0 rfl 2 rfl 1 rfl ?_
      refine x_iconst C (v := 0) dL_begin_1 (by decide) 2 rfl ?_
      refine x_aload_n C dL_begin_2 rfl 0 rfl 3 rfl ?_
      refine x_iload_n C dL_begin_3 rfl 1 rfl 4 rfl ?_
      refine x_catchV C hX 0 [.int a1] (x_X6_begin hl9 hm) mi_X6_begin (gt_0 g _) rfl q_588 rfl ⟨rfl, rfl⟩ ⟨(Nat.le_of_ble_eq_true rfl), (Nat.le_of_ble_eq_true rfl)⟩ ⟨(Nat.le_of_ble_eq_true rfl), (Nat.le_of_ble_eq_true rfl)⟩ _ rfl (Nat.le_of_ble_eq_true rfl) [] ⟨0, 9, 12, 13⟩ [] ht (fun z hz => absurd hz List.not_mem_nil) (by decide) (by decide) q_587 (List.mem_of_getElem? (i := 0) rfl) dL_begin_4 (fun q9 => ?_)
      refine x_astore_n C [(3, .ref q9), (0, .ref (adr g 0)), (1, .int a1), (2, .ref (adr g 40))] dL_begin_12 rfl (by decide) rfl 13 rfl ?_
      refine x_iconst C (v := 1) dL_begin_13 (by decide) 14 rfl ?_
      exact x_iret1 C hr hq dL_begin_14
    · cases h
  · cases h
noncomputable def f_L_setEdge (a1 : Int32) (a2 : Int32) (a3 : Int32) (σ : WD) : Option (Int32 × WD) := hl (f_X6_setEdge a1 a2 a3 σ) 3 1 σ
set_option maxHeartbeats 4000000 in
set_option maxRecDepth 100000 in
theorem c_L_setEdge {l : Launch} {g : Gb} {a1 : Int32} {a2 : Int32} {a3 : Int32} {σ : WD} {r : Int32} {σ2 : WD} (hl9 : l.stackTraces = false) (h : f_L_setEdge a1 a2 a3 σ = some (r, σ2)) : MH l g yL_setEdge (.codeWith yL_setEdge cL_setEdge 6 (some .int) [(0, 12, 15, 19), (0, 12, 19, 13)]) (rmx 9 138) [.ref (adr g 0), .int a1, .int a2, .int a3, .ref (adr g 40)] σ (some (.int r)) σ2 := by
  refine MH.of (by decide) (Nat.le_of_ble_eq_true rfl) (fun x C hl hX ht hr hq => ?_)
  subst hl
  show WW x g 6 0 0 0 [(0, .ref (adr g 0)), (1, .int a1), (2, .int a2), (3, .int a3), (4, .ref (adr g 40))] [] σ
  unfold f_L_setEdge hl at h
  split at h
  · rename_i p hm
    cases h
    refine x_aload C dL_setEdge_0 4 rfl 2 rfl ?_
    refine x_iconst C (v := 0) dL_setEdge_2 (by decide) 3 rfl ?_
    refine x_aload_n C dL_setEdge_3 rfl 0 rfl 4 rfl ?_
    refine x_iload_n C dL_setEdge_4 rfl 1 rfl 5 rfl ?_
    refine x_iload_n C dL_setEdge_5 rfl 2 rfl 6 rfl ?_
    refine x_iload_n C dL_setEdge_6 rfl 3 rfl 7 rfl ?_
    refine x_callV C 0 [.int a1, .int a2, .int a3] (c_X6_setEdge hm) mi_X6_setEdge (gt_0 g _) rfl q_602 rfl ⟨rfl, rfl⟩ ⟨(Nat.le_of_ble_eq_true rfl), (Nat.le_of_ble_eq_true rfl)⟩ ⟨Nat.zero_le _, Nat.zero_le _⟩ _ rfl (Nat.le_of_ble_eq_true rfl) dL_setEdge_7 10 rfl ?_
    refine x_i2l C dL_setEdge_10 11 rfl ?_
    refine x_last C dL_setEdge_11 12 rfl ?_
    refine x_goto C dL_setEdge_12 23 (by decide) ?_
    refine x_iconst C (v := 0) dL_setEdge_23 (by decide) 24 rfl ?_
    exact x_wid (by decide) (by decide) (x_iret1 C hr hq dL_setEdge_24)
  · rename_i e hm
    split at h
    · rename_i he
      subst he
      cases h
      refine x_aload C dL_setEdge_0 4 rfl 2 rfl ?_
      refine x_iconst C (v := 0) dL_setEdge_2 (by decide) 3 rfl ?_
      refine x_aload_n C dL_setEdge_3 rfl 0 rfl 4 rfl ?_
      refine x_iload_n C dL_setEdge_4 rfl 1 rfl 5 rfl ?_
      refine x_iload_n C dL_setEdge_5 rfl 2 rfl 6 rfl ?_
      refine x_iload_n C dL_setEdge_6 rfl 3 rfl 7 rfl ?_
      refine x_catchV C hX 0 [.int a1, .int a2, .int a3] (x_X6_setEdge hl9 hm) mi_X6_setEdge (gt_0 g _) rfl q_602 rfl ⟨rfl, rfl⟩ ⟨(Nat.le_of_ble_eq_true rfl), (Nat.le_of_ble_eq_true rfl)⟩ ⟨(Nat.le_of_ble_eq_true rfl), (Nat.le_of_ble_eq_true rfl)⟩ _ rfl (Nat.le_of_ble_eq_true rfl) [] ⟨0, 12, 15, 19⟩ [⟨0, 12, 19, 13⟩] ht (fun z hz => absurd hz List.not_mem_nil) (by decide) (by decide) q_601 (List.mem_of_getElem? (i := 2) rfl) dL_setEdge_7 (fun q9 => ?_)
      refine x_astore C [(5, .ref q9), (0, .ref (adr g 0)), (1, .int a1), (2, .int a2), (3, .int a3), (4, .ref (adr g 40))] dL_setEdge_15 (by decide) rfl 17 rfl ?_
      refine x_iconst C (v := 1) dL_setEdge_17 (by decide) 18 rfl ?_
      exact x_iret1 C hr hq dL_setEdge_18
    · split at h
      · rename_i he
        subst he
        cases h
        refine x_aload C dL_setEdge_0 4 rfl 2 rfl ?_
        refine x_iconst C (v := 0) dL_setEdge_2 (by decide) 3 rfl ?_
        refine x_aload_n C dL_setEdge_3 rfl 0 rfl 4 rfl ?_
        refine x_iload_n C dL_setEdge_4 rfl 1 rfl 5 rfl ?_
        refine x_iload_n C dL_setEdge_5 rfl 2 rfl 6 rfl ?_
        refine x_iload_n C dL_setEdge_6 rfl 3 rfl 7 rfl ?_
        refine x_catchV C hX 0 [.int a1, .int a2, .int a3] (x_X6_setEdge hl9 hm) mi_X6_setEdge (gt_0 g _) rfl q_602 rfl ⟨rfl, rfl⟩ ⟨(Nat.le_of_ble_eq_true rfl), (Nat.le_of_ble_eq_true rfl)⟩ ⟨(Nat.le_of_ble_eq_true rfl), (Nat.le_of_ble_eq_true rfl)⟩ _ rfl (Nat.le_of_ble_eq_true rfl) [⟨0, 12, 15, 19⟩] ⟨0, 12, 19, 13⟩ [] ht (fun z hz => by obtain rfl := List.mem_singleton.mp hz; exact ⟨by decide, "java/lang/IndexOutOfBoundsException", q_601, List.mem_of_getElem? (i := 1) rfl⟩) (by decide) (by decide) q_587 (List.mem_of_getElem? (i := 0) rfl) dL_setEdge_7 (fun q9 => ?_)
        refine x_astore C [(5, .ref q9), (0, .ref (adr g 0)), (1, .int a1), (2, .int a2), (3, .int a3), (4, .ref (adr g 40))] dL_setEdge_19 (by decide) rfl 21 rfl ?_
        refine x_iconst C (v := 2) dL_setEdge_21 (by decide) 22 rfl ?_
        exact x_iret1 C hr hq dL_setEdge_22
      · cases h
  · cases h
noncomputable def f_L_append (a1 : Int32) (σ : WD) : Option (Int32 × WD) := hl (f_X6_append a1 σ) 1 2 σ
set_option maxHeartbeats 4000000 in
set_option maxRecDepth 100000 in
theorem c_L_append {l : Launch} {g : Gb} {a1 : Int32} {σ : WD} {r : Int32} {σ2 : WD} (hl9 : l.stackTraces = false) (h : f_L_append a1 σ = some (r, σ2)) : MH l g yL_append (.codeWith yL_append cL_append 4 (some .int) [(0, 9, 12, 13), (0, 9, 15, 24)]) (rmx 8 113) [.ref (adr g 0), .int a1, .ref (adr g 40)] σ (some (.int r)) σ2 := by
  refine MH.of (by decide) (Nat.le_of_ble_eq_true rfl) (fun x C hl hX ht hr hq => ?_)
  subst hl
  show WW x g 4 0 0 0 [(0, .ref (adr g 0)), (1, .int a1), (2, .ref (adr g 40))] [] σ
  unfold f_L_append hl at h
  split at h
  · rename_i p hm
    cases h
    refine x_aload_n C dL_append_0 rfl 2 rfl 1 rfl ?_
    refine x_iconst C (v := 0) dL_append_1 (by decide) 2 rfl ?_
    refine x_aload_n C dL_append_2 rfl 0 rfl 3 rfl ?_
    refine x_iload_n C dL_append_3 rfl 1 rfl 4 rfl ?_
    refine x_callV C 0 [.int a1] (c_X6_append hm) mi_X6_append (gt_0 g _) rfl q_618 rfl ⟨rfl, rfl⟩ ⟨(Nat.le_of_ble_eq_true rfl), (Nat.le_of_ble_eq_true rfl)⟩ ⟨Nat.zero_le _, Nat.zero_le _⟩ _ rfl (Nat.le_of_ble_eq_true rfl) dL_append_4 7 rfl ?_
    refine x_i2l C dL_append_7 8 rfl ?_
    refine x_last C dL_append_8 9 rfl ?_
    refine x_goto C dL_append_9 18 (by decide) ?_
    refine x_iconst C (v := 0) dL_append_18 (by decide) 19 rfl ?_
    exact x_wid (by decide) (by decide) (x_iret1 C hr hq dL_append_19)
  · rename_i e hm
    split at h
    · rename_i he
      subst he
      cases h
      refine x_aload_n C dL_append_0 rfl 2 rfl 1 rfl ?_
      refine x_iconst C (v := 0) dL_append_1 (by decide) 2 rfl ?_
      refine x_aload_n C dL_append_2 rfl 0 rfl 3 rfl ?_
      refine x_iload_n C dL_append_3 rfl 1 rfl 4 rfl ?_
      refine x_catchV C hX 0 [.int a1] (x_X6_append hl9 hm) mi_X6_append (gt_0 g _) rfl q_618 rfl ⟨rfl, rfl⟩ ⟨(Nat.le_of_ble_eq_true rfl), (Nat.le_of_ble_eq_true rfl)⟩ ⟨(Nat.le_of_ble_eq_true rfl), (Nat.le_of_ble_eq_true rfl)⟩ _ rfl (Nat.le_of_ble_eq_true rfl) [] ⟨0, 9, 12, 13⟩ [⟨0, 9, 15, 24⟩] ht (fun z hz => absurd hz List.not_mem_nil) (by decide) (by decide) q_587 (List.mem_of_getElem? (i := 0) rfl) dL_append_4 (fun q9 => ?_)
      refine x_astore_n C [(3, .ref q9), (0, .ref (adr g 0)), (1, .int a1), (2, .ref (adr g 40))] dL_append_12 rfl (by decide) rfl 13 rfl ?_
      refine x_iconst C (v := 1) dL_append_13 (by decide) 14 rfl ?_
      exact x_iret1 C hr hq dL_append_14
    · split at h
      · rename_i he
        subst he
        cases h
        refine x_aload_n C dL_append_0 rfl 2 rfl 1 rfl ?_
        refine x_iconst C (v := 0) dL_append_1 (by decide) 2 rfl ?_
        refine x_aload_n C dL_append_2 rfl 0 rfl 3 rfl ?_
        refine x_iload_n C dL_append_3 rfl 1 rfl 4 rfl ?_
        refine x_catchV C hX 0 [.int a1] (x_X6_append hl9 hm) mi_X6_append (gt_0 g _) rfl q_618 rfl ⟨rfl, rfl⟩ ⟨(Nat.le_of_ble_eq_true rfl), (Nat.le_of_ble_eq_true rfl)⟩ ⟨(Nat.le_of_ble_eq_true rfl), (Nat.le_of_ble_eq_true rfl)⟩ _ rfl (Nat.le_of_ble_eq_true rfl) [⟨0, 9, 12, 13⟩] ⟨0, 9, 15, 24⟩ [] ht (fun z hz => by obtain rfl := List.mem_singleton.mp hz; exact ⟨by decide, "java/lang/IllegalArgumentException", q_587, List.mem_of_getElem? (i := 2) rfl⟩) (by decide) (by decide) q_617 (List.mem_of_getElem? (i := 1) rfl) dL_append_4 (fun q9 => ?_)
        refine x_astore_n C [(3, .ref q9), (0, .ref (adr g 0)), (1, .int a1), (2, .ref (adr g 40))] dL_append_15 rfl (by decide) rfl 16 rfl ?_
        refine x_iconst C (v := 2) dL_append_16 (by decide) 17 rfl ?_
        exact x_iret1 C hr hq dL_append_17
      · cases h
  · cases h
noncomputable def f_L_load (σ : WD) : Option (Int32 × WD) := hl (f_X6_load  σ) 1 1 σ
set_option maxHeartbeats 4000000 in
set_option maxRecDepth 100000 in
theorem c_L_load {l : Launch} {g : Gb} {σ : WD} {r : Int32} {σ2 : WD} (hl9 : l.stackTraces = false) (h : f_L_load  σ = some (r, σ2)) : MH l g yL_load (.codeWith yL_load cL_load 3 (some .int) [(0, 8, 11, 13)]) (rmx 8 115) [.ref (adr g 0), .ref (adr g 40)] σ (some (.int r)) σ2 := by
  refine MH.of (by decide) (Nat.le_of_ble_eq_true rfl) (fun x C hl hX ht hr hq => ?_)
  subst hl
  show WW x g 3 0 0 0 [(0, .ref (adr g 0)), (1, .ref (adr g 40))] [] σ
  unfold f_L_load hl at h
  split at h
  · rename_i p hm
    cases h
    refine x_aload_n C dL_load_0 rfl 1 rfl 1 rfl ?_
    refine x_iconst C (v := 0) dL_load_1 (by decide) 2 rfl ?_
    refine x_aload_n C dL_load_2 rfl 0 rfl 3 rfl ?_
    refine x_callV C 0 [] (c_X6_load hm) mi_X6_load (gt_0 g _) rfl q_631 rfl ⟨rfl, rfl⟩ ⟨(Nat.le_of_ble_eq_true rfl), (Nat.le_of_ble_eq_true rfl)⟩ ⟨Nat.zero_le _, Nat.zero_le _⟩ _ rfl (Nat.le_of_ble_eq_true rfl) dL_load_3 6 rfl ?_
    refine x_i2l C dL_load_6 7 rfl ?_
    refine x_last C dL_load_7 8 rfl ?_
    refine x_goto C dL_load_8 14 (by decide) ?_
    refine x_iconst C (v := 0) dL_load_14 (by decide) 15 rfl ?_
    exact x_wid (by decide) (by decide) (x_iret1 C hr hq dL_load_15)
  · rename_i e hm
    split at h
    · rename_i he
      subst he
      cases h
      refine x_aload_n C dL_load_0 rfl 1 rfl 1 rfl ?_
      refine x_iconst C (v := 0) dL_load_1 (by decide) 2 rfl ?_
      refine x_aload_n C dL_load_2 rfl 0 rfl 3 rfl ?_
      refine x_catchV C hX 0 [] (x_X6_load hl9 hm) mi_X6_load (gt_0 g _) rfl q_631 rfl ⟨rfl, rfl⟩ ⟨(Nat.le_of_ble_eq_true rfl), (Nat.le_of_ble_eq_true rfl)⟩ ⟨(Nat.le_of_ble_eq_true rfl), (Nat.le_of_ble_eq_true rfl)⟩ _ rfl (Nat.le_of_ble_eq_true rfl) [] ⟨0, 8, 11, 13⟩ [] ht (fun z hz => absurd hz List.not_mem_nil) (by decide) (by decide) q_587 (List.mem_of_getElem? (i := 0) rfl) dL_load_3 (fun q9 => ?_)
      refine x_astore_n C [(2, .ref q9), (0, .ref (adr g 0)), (1, .ref (adr g 40))] dL_load_11 rfl (by decide) rfl 12 rfl ?_
      refine x_iconst C (v := 1) dL_load_12 (by decide) 13 rfl ?_
      exact x_iret1 C hr hq dL_load_13
    · cases h
  · cases h
noncomputable def f_L_match (a1 : Int32) (a2 : Int32) (σ : WD) : Option (Int32 × WD) := hl (f_X6_match a1 a2 σ) 3 2 σ
set_option maxHeartbeats 4000000 in
set_option maxRecDepth 100000 in
theorem c_L_match {l : Launch} {g : Gb} {a1 : Int32} {a2 : Int32} {σ : WD} {r : Int32} {σ2 : WD} (hl9 : l.stackTraces = false) (h : f_L_match a1 a2 σ = some (r, σ2)) : MH l g yL_match (.codeWith yL_match cL_match 5 (some .int) [(0, 10, 13, 19), (0, 10, 17, 24)]) (rmx 9 136) [.ref (adr g 0), .int a1, .int a2, .ref (adr g 40)] σ (some (.int r)) σ2 := by
  refine MH.of (by decide) (Nat.le_of_ble_eq_true rfl) (fun x C hl hX ht hr hq => ?_)
  subst hl
  show WW x g 5 0 0 0 [(0, .ref (adr g 0)), (1, .int a1), (2, .int a2), (3, .ref (adr g 40))] [] σ
  unfold f_L_match hl at h
  split at h
  · rename_i p hm
    cases h
    refine x_aload_n C dL_match_0 rfl 3 rfl 1 rfl ?_
    refine x_iconst C (v := 0) dL_match_1 (by decide) 2 rfl ?_
    refine x_aload_n C dL_match_2 rfl 0 rfl 3 rfl ?_
    refine x_iload_n C dL_match_3 rfl 1 rfl 4 rfl ?_
    refine x_iload_n C dL_match_4 rfl 2 rfl 5 rfl ?_
    refine x_callV C 0 [.int a1, .int a2] (c_X6_match hm) mi_X6_match (gt_0 g _) rfl q_653 rfl ⟨rfl, rfl⟩ ⟨(Nat.le_of_ble_eq_true rfl), (Nat.le_of_ble_eq_true rfl)⟩ ⟨Nat.zero_le _, Nat.zero_le _⟩ _ rfl (Nat.le_of_ble_eq_true rfl) dL_match_5 8 rfl ?_
    refine x_i2l C dL_match_8 9 rfl ?_
    refine x_last C dL_match_9 10 rfl ?_
    refine x_goto C dL_match_10 21 (by decide) ?_
    refine x_iconst C (v := 0) dL_match_21 (by decide) 22 rfl ?_
    exact x_wid (by decide) (by decide) (x_iret1 C hr hq dL_match_22)
  · rename_i e hm
    split at h
    · rename_i he
      subst he
      cases h
      refine x_aload_n C dL_match_0 rfl 3 rfl 1 rfl ?_
      refine x_iconst C (v := 0) dL_match_1 (by decide) 2 rfl ?_
      refine x_aload_n C dL_match_2 rfl 0 rfl 3 rfl ?_
      refine x_iload_n C dL_match_3 rfl 1 rfl 4 rfl ?_
      refine x_iload_n C dL_match_4 rfl 2 rfl 5 rfl ?_
      refine x_catchV C hX 0 [.int a1, .int a2] (x_X6_match hl9 hm) mi_X6_match (gt_0 g _) rfl q_653 rfl ⟨rfl, rfl⟩ ⟨(Nat.le_of_ble_eq_true rfl), (Nat.le_of_ble_eq_true rfl)⟩ ⟨(Nat.le_of_ble_eq_true rfl), (Nat.le_of_ble_eq_true rfl)⟩ _ rfl (Nat.le_of_ble_eq_true rfl) [] ⟨0, 10, 13, 19⟩ [⟨0, 10, 17, 24⟩] ht (fun z hz => absurd hz List.not_mem_nil) (by decide) (by decide) q_601 (List.mem_of_getElem? (i := 2) rfl) dL_match_5 (fun q9 => ?_)
      refine x_astore C [(4, .ref q9), (0, .ref (adr g 0)), (1, .int a1), (2, .int a2), (3, .ref (adr g 40))] dL_match_13 (by decide) rfl 15 rfl ?_
      refine x_iconst C (v := 1) dL_match_15 (by decide) 16 rfl ?_
      exact x_iret1 C hr hq dL_match_16
    · split at h
      · rename_i he
        subst he
        cases h
        refine x_aload_n C dL_match_0 rfl 3 rfl 1 rfl ?_
        refine x_iconst C (v := 0) dL_match_1 (by decide) 2 rfl ?_
        refine x_aload_n C dL_match_2 rfl 0 rfl 3 rfl ?_
        refine x_iload_n C dL_match_3 rfl 1 rfl 4 rfl ?_
        refine x_iload_n C dL_match_4 rfl 2 rfl 5 rfl ?_
        refine x_catchV C hX 0 [.int a1, .int a2] (x_X6_match hl9 hm) mi_X6_match (gt_0 g _) rfl q_653 rfl ⟨rfl, rfl⟩ ⟨(Nat.le_of_ble_eq_true rfl), (Nat.le_of_ble_eq_true rfl)⟩ ⟨(Nat.le_of_ble_eq_true rfl), (Nat.le_of_ble_eq_true rfl)⟩ _ rfl (Nat.le_of_ble_eq_true rfl) [⟨0, 10, 13, 19⟩] ⟨0, 10, 17, 24⟩ [] ht (fun z hz => by obtain rfl := List.mem_singleton.mp hz; exact ⟨by decide, "java/lang/IndexOutOfBoundsException", q_601, List.mem_of_getElem? (i := 3) rfl⟩) (by decide) (by decide) q_617 (List.mem_of_getElem? (i := 1) rfl) dL_match_5 (fun q9 => ?_)
        refine x_astore C [(4, .ref q9), (0, .ref (adr g 0)), (1, .int a1), (2, .int a2), (3, .ref (adr g 40))] dL_match_17 (by decide) rfl 19 rfl ?_
        refine x_iconst C (v := 2) dL_match_19 (by decide) 20 rfl ?_
        exact x_iret1 C hr hq dL_match_20
      · cases h
  · cases h
noncomputable def f_L_unmatch (a1 : Int32) (σ : WD) : Option (Int32 × WD) := hl (f_X6_unmatch a1 σ) 3 2 σ
set_option maxHeartbeats 4000000 in
set_option maxRecDepth 100000 in
theorem c_L_unmatch {l : Launch} {g : Gb} {a1 : Int32} {σ : WD} {r : Int32} {σ2 : WD} (hl9 : l.stackTraces = false) (h : f_L_unmatch a1 σ = some (r, σ2)) : MH l g yL_unmatch (.codeWith yL_unmatch cL_unmatch 4 (some .int) [(0, 9, 12, 19), (0, 9, 15, 24)]) (rmx 9 136) [.ref (adr g 0), .int a1, .ref (adr g 40)] σ (some (.int r)) σ2 := by
  refine MH.of (by decide) (Nat.le_of_ble_eq_true rfl) (fun x C hl hX ht hr hq => ?_)
  subst hl
  show WW x g 4 0 0 0 [(0, .ref (adr g 0)), (1, .int a1), (2, .ref (adr g 40))] [] σ
  unfold f_L_unmatch hl at h
  split at h
  · rename_i p hm
    cases h
    refine x_aload_n C dL_unmatch_0 rfl 2 rfl 1 rfl ?_
    refine x_iconst C (v := 0) dL_unmatch_1 (by decide) 2 rfl ?_
    refine x_aload_n C dL_unmatch_2 rfl 0 rfl 3 rfl ?_
    refine x_iload_n C dL_unmatch_3 rfl 1 rfl 4 rfl ?_
    refine x_callV C 0 [.int a1] (c_X6_unmatch hm) mi_X6_unmatch (gt_0 g _) rfl q_661 rfl ⟨rfl, rfl⟩ ⟨(Nat.le_of_ble_eq_true rfl), (Nat.le_of_ble_eq_true rfl)⟩ ⟨Nat.zero_le _, Nat.zero_le _⟩ _ rfl (Nat.le_of_ble_eq_true rfl) dL_unmatch_4 7 rfl ?_
    refine x_i2l C dL_unmatch_7 8 rfl ?_
    refine x_last C dL_unmatch_8 9 rfl ?_
    refine x_goto C dL_unmatch_9 18 (by decide) ?_
    refine x_iconst C (v := 0) dL_unmatch_18 (by decide) 19 rfl ?_
    exact x_wid (by decide) (by decide) (x_iret1 C hr hq dL_unmatch_19)
  · rename_i e hm
    split at h
    · rename_i he
      subst he
      cases h
      refine x_aload_n C dL_unmatch_0 rfl 2 rfl 1 rfl ?_
      refine x_iconst C (v := 0) dL_unmatch_1 (by decide) 2 rfl ?_
      refine x_aload_n C dL_unmatch_2 rfl 0 rfl 3 rfl ?_
      refine x_iload_n C dL_unmatch_3 rfl 1 rfl 4 rfl ?_
      refine x_catchV C hX 0 [.int a1] (x_X6_unmatch hl9 hm) mi_X6_unmatch (gt_0 g _) rfl q_661 rfl ⟨rfl, rfl⟩ ⟨(Nat.le_of_ble_eq_true rfl), (Nat.le_of_ble_eq_true rfl)⟩ ⟨(Nat.le_of_ble_eq_true rfl), (Nat.le_of_ble_eq_true rfl)⟩ _ rfl (Nat.le_of_ble_eq_true rfl) [] ⟨0, 9, 12, 19⟩ [⟨0, 9, 15, 24⟩] ht (fun z hz => absurd hz List.not_mem_nil) (by decide) (by decide) q_601 (List.mem_of_getElem? (i := 2) rfl) dL_unmatch_4 (fun q9 => ?_)
      refine x_astore_n C [(3, .ref q9), (0, .ref (adr g 0)), (1, .int a1), (2, .ref (adr g 40))] dL_unmatch_12 rfl (by decide) rfl 13 rfl ?_
      refine x_iconst C (v := 1) dL_unmatch_13 (by decide) 14 rfl ?_
      exact x_iret1 C hr hq dL_unmatch_14
    · split at h
      · rename_i he
        subst he
        cases h
        refine x_aload_n C dL_unmatch_0 rfl 2 rfl 1 rfl ?_
        refine x_iconst C (v := 0) dL_unmatch_1 (by decide) 2 rfl ?_
        refine x_aload_n C dL_unmatch_2 rfl 0 rfl 3 rfl ?_
        refine x_iload_n C dL_unmatch_3 rfl 1 rfl 4 rfl ?_
        refine x_catchV C hX 0 [.int a1] (x_X6_unmatch hl9 hm) mi_X6_unmatch (gt_0 g _) rfl q_661 rfl ⟨rfl, rfl⟩ ⟨(Nat.le_of_ble_eq_true rfl), (Nat.le_of_ble_eq_true rfl)⟩ ⟨(Nat.le_of_ble_eq_true rfl), (Nat.le_of_ble_eq_true rfl)⟩ _ rfl (Nat.le_of_ble_eq_true rfl) [⟨0, 9, 12, 19⟩] ⟨0, 9, 15, 24⟩ [] ht (fun z hz => by obtain rfl := List.mem_singleton.mp hz; exact ⟨by decide, "java/lang/IndexOutOfBoundsException", q_601, List.mem_of_getElem? (i := 3) rfl⟩) (by decide) (by decide) q_617 (List.mem_of_getElem? (i := 1) rfl) dL_unmatch_4 (fun q9 => ?_)
        refine x_astore_n C [(3, .ref q9), (0, .ref (adr g 0)), (1, .int a1), (2, .ref (adr g 40))] dL_unmatch_15 rfl (by decide) rfl 16 rfl ?_
        refine x_iconst C (v := 2) dL_unmatch_16 (by decide) 17 rfl ?_
        exact x_iret1 C hr hq dL_unmatch_17
      · cases h
  · cases h
noncomputable def f_L_augment (a1 : Int32) (σ : WD) : Option (Int32 × WD) := hl (f_X6_augment a1 σ) 3 2 σ
set_option maxHeartbeats 4000000 in
set_option maxRecDepth 100000 in
theorem c_L_augment {l : Launch} {g : Gb} {a1 : Int32} {σ : WD} {r : Int32} {σ2 : WD} (hl9 : l.stackTraces = false) (h : f_L_augment a1 σ = some (r, σ2)) : MH l g yL_augment (.codeWith yL_augment cL_augment 4 (some .int) [(0, 9, 12, 19), (0, 9, 15, 24)]) (rmx 25 635) [.ref (adr g 0), .int a1, .ref (adr g 40)] σ (some (.int r)) σ2 := by
  refine MH.of (by decide) (Nat.le_of_ble_eq_true rfl) (fun x C hl hX ht hr hq => ?_)
  subst hl
  show WW x g 4 0 0 0 [(0, .ref (adr g 0)), (1, .int a1), (2, .ref (adr g 40))] [] σ
  unfold f_L_augment hl at h
  split at h
  · rename_i p hm
    cases h
    refine x_aload_n C dL_augment_0 rfl 2 rfl 1 rfl ?_
    refine x_iconst C (v := 0) dL_augment_1 (by decide) 2 rfl ?_
    refine x_aload_n C dL_augment_2 rfl 0 rfl 3 rfl ?_
    refine x_iload_n C dL_augment_3 rfl 1 rfl 4 rfl ?_
    refine x_callV C 0 [.int a1] (c_X6_augment hm) mi_X6_augment (gt_0 g _) rfl q_669 rfl ⟨rfl, rfl⟩ ⟨(Nat.le_of_ble_eq_true rfl), (Nat.le_of_ble_eq_true rfl)⟩ ⟨Nat.zero_le _, Nat.zero_le _⟩ _ rfl (Nat.le_of_ble_eq_true rfl) dL_augment_4 7 rfl ?_
    refine x_i2l C dL_augment_7 8 rfl ?_
    refine x_last C dL_augment_8 9 rfl ?_
    refine x_goto C dL_augment_9 18 (by decide) ?_
    refine x_iconst C (v := 0) dL_augment_18 (by decide) 19 rfl ?_
    exact x_wid (by decide) (by decide) (x_iret1 C hr hq dL_augment_19)
  · rename_i e hm
    split at h
    · rename_i he
      subst he
      cases h
      refine x_aload_n C dL_augment_0 rfl 2 rfl 1 rfl ?_
      refine x_iconst C (v := 0) dL_augment_1 (by decide) 2 rfl ?_
      refine x_aload_n C dL_augment_2 rfl 0 rfl 3 rfl ?_
      refine x_iload_n C dL_augment_3 rfl 1 rfl 4 rfl ?_
      refine x_catchV C hX 0 [.int a1] (x_X6_augment hl9 hm) mi_X6_augment (gt_0 g _) rfl q_669 rfl ⟨rfl, rfl⟩ ⟨(Nat.le_of_ble_eq_true rfl), (Nat.le_of_ble_eq_true rfl)⟩ ⟨(Nat.le_of_ble_eq_true rfl), (Nat.le_of_ble_eq_true rfl)⟩ _ rfl (Nat.le_of_ble_eq_true rfl) [] ⟨0, 9, 12, 19⟩ [⟨0, 9, 15, 24⟩] ht (fun z hz => absurd hz List.not_mem_nil) (by decide) (by decide) q_601 (List.mem_of_getElem? (i := 2) rfl) dL_augment_4 (fun q9 => ?_)
      refine x_astore_n C [(3, .ref q9), (0, .ref (adr g 0)), (1, .int a1), (2, .ref (adr g 40))] dL_augment_12 rfl (by decide) rfl 13 rfl ?_
      refine x_iconst C (v := 1) dL_augment_13 (by decide) 14 rfl ?_
      exact x_iret1 C hr hq dL_augment_14
    · split at h
      · rename_i he
        subst he
        cases h
        refine x_aload_n C dL_augment_0 rfl 2 rfl 1 rfl ?_
        refine x_iconst C (v := 0) dL_augment_1 (by decide) 2 rfl ?_
        refine x_aload_n C dL_augment_2 rfl 0 rfl 3 rfl ?_
        refine x_iload_n C dL_augment_3 rfl 1 rfl 4 rfl ?_
        refine x_catchV C hX 0 [.int a1] (x_X6_augment hl9 hm) mi_X6_augment (gt_0 g _) rfl q_669 rfl ⟨rfl, rfl⟩ ⟨(Nat.le_of_ble_eq_true rfl), (Nat.le_of_ble_eq_true rfl)⟩ ⟨(Nat.le_of_ble_eq_true rfl), (Nat.le_of_ble_eq_true rfl)⟩ _ rfl (Nat.le_of_ble_eq_true rfl) [⟨0, 9, 12, 19⟩] ⟨0, 9, 15, 24⟩ [] ht (fun z hz => by obtain rfl := List.mem_singleton.mp hz; exact ⟨by decide, "java/lang/IndexOutOfBoundsException", q_601, List.mem_of_getElem? (i := 3) rfl⟩) (by decide) (by decide) q_617 (List.mem_of_getElem? (i := 1) rfl) dL_augment_4 (fun q9 => ?_)
        refine x_astore_n C [(3, .ref q9), (0, .ref (adr g 0)), (1, .int a1), (2, .ref (adr g 40))] dL_augment_15 rfl (by decide) rfl 16 rfl ?_
        refine x_iconst C (v := 2) dL_augment_16 (by decide) 17 rfl ?_
        exact x_iret1 C hr hq dL_augment_17
      · cases h
  · cases h
noncomputable def f_L_undo (σ : WD) : Option (Int32 × WD) := hl (f_X6_undo  σ) 2 2 σ
set_option maxHeartbeats 4000000 in
set_option maxRecDepth 100000 in
theorem c_L_undo {l : Launch} {g : Gb} {σ : WD} {r : Int32} {σ2 : WD} (hl9 : l.stackTraces = false) (h : f_L_undo  σ = some (r, σ2)) : MH l g yL_undo (.codeWith yL_undo cL_undo 3 (some .int) [(0, 8, 11, 24)]) (rmx 8 127) [.ref (adr g 0), .ref (adr g 40)] σ (some (.int r)) σ2 := by
  refine MH.of (by decide) (Nat.le_of_ble_eq_true rfl) (fun x C hl hX ht hr hq => ?_)
  subst hl
  show WW x g 3 0 0 0 [(0, .ref (adr g 0)), (1, .ref (adr g 40))] [] σ
  unfold f_L_undo hl at h
  split at h
  · rename_i p hm
    cases h
    refine x_aload_n C dL_undo_0 rfl 1 rfl 1 rfl ?_
    refine x_iconst C (v := 0) dL_undo_1 (by decide) 2 rfl ?_
    refine x_aload_n C dL_undo_2 rfl 0 rfl 3 rfl ?_
    refine x_callV C 0 [] (c_X6_undo hm) mi_X6_undo (gt_0 g _) rfl q_676 rfl ⟨rfl, rfl⟩ ⟨(Nat.le_of_ble_eq_true rfl), (Nat.le_of_ble_eq_true rfl)⟩ ⟨Nat.zero_le _, Nat.zero_le _⟩ _ rfl (Nat.le_of_ble_eq_true rfl) dL_undo_3 6 rfl ?_
    refine x_i2l C dL_undo_6 7 rfl ?_
    refine x_last C dL_undo_7 8 rfl ?_
    refine x_goto C dL_undo_8 14 (by decide) ?_
    refine x_iconst C (v := 0) dL_undo_14 (by decide) 15 rfl ?_
    exact x_wid (by decide) (by decide) (x_iret1 C hr hq dL_undo_15)
  · rename_i e hm
    split at h
    · rename_i he
      subst he
      cases h
      refine x_aload_n C dL_undo_0 rfl 1 rfl 1 rfl ?_
      refine x_iconst C (v := 0) dL_undo_1 (by decide) 2 rfl ?_
      refine x_aload_n C dL_undo_2 rfl 0 rfl 3 rfl ?_
      refine x_catchV C hX 0 [] (x_X6_undo hl9 hm) mi_X6_undo (gt_0 g _) rfl q_676 rfl ⟨rfl, rfl⟩ ⟨(Nat.le_of_ble_eq_true rfl), (Nat.le_of_ble_eq_true rfl)⟩ ⟨(Nat.le_of_ble_eq_true rfl), (Nat.le_of_ble_eq_true rfl)⟩ _ rfl (Nat.le_of_ble_eq_true rfl) [] ⟨0, 8, 11, 24⟩ [] ht (fun z hz => absurd hz List.not_mem_nil) (by decide) (by decide) q_617 (List.mem_of_getElem? (i := 1) rfl) dL_undo_3 (fun q9 => ?_)
      refine x_astore_n C [(2, .ref q9), (0, .ref (adr g 0)), (1, .ref (adr g 40))] dL_undo_11 rfl (by decide) rfl 12 rfl ?_
      refine x_iconst C (v := 1) dL_undo_12 (by decide) 13 rfl ?_
      exact x_iret1 C hr hq dL_undo_13
    · cases h
  · cases h
noncomputable def f_L_way (a1 : Int32) (σ : WD) : Option (Int32 × WD) := hl (f_X6_way a1 σ) 3 2 σ
set_option maxHeartbeats 4000000 in
set_option maxRecDepth 100000 in
theorem c_L_way {l : Launch} {g : Gb} {a1 : Int32} {σ : WD} {r : Int32} {σ2 : WD} (hl9 : l.stackTraces = false) (h : f_L_way a1 σ = some (r, σ2)) : MH l g yL_way (.codeWith yL_way cL_way 4 (some .int) [(0, 9, 12, 19), (0, 9, 15, 24)]) (rmx 24 612) [.ref (adr g 0), .int a1, .ref (adr g 40)] σ (some (.int r)) σ2 := by
  refine MH.of (by decide) (Nat.le_of_ble_eq_true rfl) (fun x C hl hX ht hr hq => ?_)
  subst hl
  show WW x g 4 0 0 0 [(0, .ref (adr g 0)), (1, .int a1), (2, .ref (adr g 40))] [] σ
  unfold f_L_way hl at h
  split at h
  · rename_i p hm
    cases h
    refine x_aload_n C dL_way_0 rfl 2 rfl 1 rfl ?_
    refine x_iconst C (v := 0) dL_way_1 (by decide) 2 rfl ?_
    refine x_aload_n C dL_way_2 rfl 0 rfl 3 rfl ?_
    refine x_iload_n C dL_way_3 rfl 1 rfl 4 rfl ?_
    refine x_callV C 0 [.int a1] (c_X6_way hm) mi_X6_way (gt_0 g _) rfl q_694 rfl ⟨rfl, rfl⟩ ⟨(Nat.le_of_ble_eq_true rfl), (Nat.le_of_ble_eq_true rfl)⟩ ⟨Nat.zero_le _, Nat.zero_le _⟩ _ rfl (Nat.le_of_ble_eq_true rfl) dL_way_4 7 rfl ?_
    refine x_i2l C dL_way_7 8 rfl ?_
    refine x_last C dL_way_8 9 rfl ?_
    refine x_goto C dL_way_9 18 (by decide) ?_
    refine x_iconst C (v := 0) dL_way_18 (by decide) 19 rfl ?_
    exact x_wid (by decide) (by decide) (x_iret1 C hr hq dL_way_19)
  · rename_i e hm
    split at h
    · rename_i he
      subst he
      cases h
      refine x_aload_n C dL_way_0 rfl 2 rfl 1 rfl ?_
      refine x_iconst C (v := 0) dL_way_1 (by decide) 2 rfl ?_
      refine x_aload_n C dL_way_2 rfl 0 rfl 3 rfl ?_
      refine x_iload_n C dL_way_3 rfl 1 rfl 4 rfl ?_
      refine x_catchV C hX 0 [.int a1] (x_X6_way hl9 hm) mi_X6_way (gt_0 g _) rfl q_694 rfl ⟨rfl, rfl⟩ ⟨(Nat.le_of_ble_eq_true rfl), (Nat.le_of_ble_eq_true rfl)⟩ ⟨(Nat.le_of_ble_eq_true rfl), (Nat.le_of_ble_eq_true rfl)⟩ _ rfl (Nat.le_of_ble_eq_true rfl) [] ⟨0, 9, 12, 19⟩ [⟨0, 9, 15, 24⟩] ht (fun z hz => absurd hz List.not_mem_nil) (by decide) (by decide) q_601 (List.mem_of_getElem? (i := 2) rfl) dL_way_4 (fun q9 => ?_)
      refine x_astore_n C [(3, .ref q9), (0, .ref (adr g 0)), (1, .int a1), (2, .ref (adr g 40))] dL_way_12 rfl (by decide) rfl 13 rfl ?_
      refine x_iconst C (v := 1) dL_way_13 (by decide) 14 rfl ?_
      exact x_iret1 C hr hq dL_way_14
    · split at h
      · rename_i he
        subst he
        cases h
        refine x_aload_n C dL_way_0 rfl 2 rfl 1 rfl ?_
        refine x_iconst C (v := 0) dL_way_1 (by decide) 2 rfl ?_
        refine x_aload_n C dL_way_2 rfl 0 rfl 3 rfl ?_
        refine x_iload_n C dL_way_3 rfl 1 rfl 4 rfl ?_
        refine x_catchV C hX 0 [.int a1] (x_X6_way hl9 hm) mi_X6_way (gt_0 g _) rfl q_694 rfl ⟨rfl, rfl⟩ ⟨(Nat.le_of_ble_eq_true rfl), (Nat.le_of_ble_eq_true rfl)⟩ ⟨(Nat.le_of_ble_eq_true rfl), (Nat.le_of_ble_eq_true rfl)⟩ _ rfl (Nat.le_of_ble_eq_true rfl) [⟨0, 9, 12, 19⟩] ⟨0, 9, 15, 24⟩ [] ht (fun z hz => by obtain rfl := List.mem_singleton.mp hz; exact ⟨by decide, "java/lang/IndexOutOfBoundsException", q_601, List.mem_of_getElem? (i := 3) rfl⟩) (by decide) (by decide) q_617 (List.mem_of_getElem? (i := 1) rfl) dL_way_4 (fun q9 => ?_)
        refine x_astore_n C [(3, .ref q9), (0, .ref (adr g 0)), (1, .int a1), (2, .ref (adr g 40))] dL_way_15 rfl (by decide) rfl 16 rfl ?_
        refine x_iconst C (v := 2) dL_way_16 (by decide) 17 rfl ?_
        exact x_iret1 C hr hq dL_way_17
      · cases h
  · cases h
noncomputable def f_L_wayNode (a1 : Int32) (a2 : Int32) (σ : WD) : Option (Int32 × WD) := hl (f_X6_wayNode a1 a2 σ) 3 2 σ
set_option maxHeartbeats 4000000 in
set_option maxRecDepth 100000 in
theorem c_L_wayNode {l : Launch} {g : Gb} {a1 : Int32} {a2 : Int32} {σ : WD} {r : Int32} {σ2 : WD} (hl9 : l.stackTraces = false) (h : f_L_wayNode a1 a2 σ = some (r, σ2)) : MH l g yL_wayNode (.codeWith yL_wayNode cL_wayNode 5 (some .int) [(0, 10, 13, 19), (0, 10, 17, 24)]) (rmx 24 614) [.ref (adr g 0), .int a1, .int a2, .ref (adr g 40)] σ (some (.int r)) σ2 := by
  refine MH.of (by decide) (Nat.le_of_ble_eq_true rfl) (fun x C hl hX ht hr hq => ?_)
  subst hl
  show WW x g 5 0 0 0 [(0, .ref (adr g 0)), (1, .int a1), (2, .int a2), (3, .ref (adr g 40))] [] σ
  unfold f_L_wayNode hl at h
  split at h
  · rename_i p hm
    cases h
    refine x_aload_n C dL_wayNode_0 rfl 3 rfl 1 rfl ?_
    refine x_iconst C (v := 0) dL_wayNode_1 (by decide) 2 rfl ?_
    refine x_aload_n C dL_wayNode_2 rfl 0 rfl 3 rfl ?_
    refine x_iload_n C dL_wayNode_3 rfl 1 rfl 4 rfl ?_
    refine x_iload_n C dL_wayNode_4 rfl 2 rfl 5 rfl ?_
    refine x_callV C 0 [.int a1, .int a2] (c_X6_wayNode hm) mi_X6_wayNode (gt_0 g _) rfl q_698 rfl ⟨rfl, rfl⟩ ⟨(Nat.le_of_ble_eq_true rfl), (Nat.le_of_ble_eq_true rfl)⟩ ⟨Nat.zero_le _, Nat.zero_le _⟩ _ rfl (Nat.le_of_ble_eq_true rfl) dL_wayNode_5 8 rfl ?_
    refine x_i2l C dL_wayNode_8 9 rfl ?_
    refine x_last C dL_wayNode_9 10 rfl ?_
    refine x_goto C dL_wayNode_10 21 (by decide) ?_
    refine x_iconst C (v := 0) dL_wayNode_21 (by decide) 22 rfl ?_
    exact x_wid (by decide) (by decide) (x_iret1 C hr hq dL_wayNode_22)
  · rename_i e hm
    split at h
    · rename_i he
      subst he
      cases h
      refine x_aload_n C dL_wayNode_0 rfl 3 rfl 1 rfl ?_
      refine x_iconst C (v := 0) dL_wayNode_1 (by decide) 2 rfl ?_
      refine x_aload_n C dL_wayNode_2 rfl 0 rfl 3 rfl ?_
      refine x_iload_n C dL_wayNode_3 rfl 1 rfl 4 rfl ?_
      refine x_iload_n C dL_wayNode_4 rfl 2 rfl 5 rfl ?_
      refine x_catchV C hX 0 [.int a1, .int a2] (x_X6_wayNode hl9 hm) mi_X6_wayNode (gt_0 g _) rfl q_698 rfl ⟨rfl, rfl⟩ ⟨(Nat.le_of_ble_eq_true rfl), (Nat.le_of_ble_eq_true rfl)⟩ ⟨(Nat.le_of_ble_eq_true rfl), (Nat.le_of_ble_eq_true rfl)⟩ _ rfl (Nat.le_of_ble_eq_true rfl) [] ⟨0, 10, 13, 19⟩ [⟨0, 10, 17, 24⟩] ht (fun z hz => absurd hz List.not_mem_nil) (by decide) (by decide) q_601 (List.mem_of_getElem? (i := 2) rfl) dL_wayNode_5 (fun q9 => ?_)
      refine x_astore C [(4, .ref q9), (0, .ref (adr g 0)), (1, .int a1), (2, .int a2), (3, .ref (adr g 40))] dL_wayNode_13 (by decide) rfl 15 rfl ?_
      refine x_iconst C (v := 1) dL_wayNode_15 (by decide) 16 rfl ?_
      exact x_iret1 C hr hq dL_wayNode_16
    · split at h
      · rename_i he
        subst he
        cases h
        refine x_aload_n C dL_wayNode_0 rfl 3 rfl 1 rfl ?_
        refine x_iconst C (v := 0) dL_wayNode_1 (by decide) 2 rfl ?_
        refine x_aload_n C dL_wayNode_2 rfl 0 rfl 3 rfl ?_
        refine x_iload_n C dL_wayNode_3 rfl 1 rfl 4 rfl ?_
        refine x_iload_n C dL_wayNode_4 rfl 2 rfl 5 rfl ?_
        refine x_catchV C hX 0 [.int a1, .int a2] (x_X6_wayNode hl9 hm) mi_X6_wayNode (gt_0 g _) rfl q_698 rfl ⟨rfl, rfl⟩ ⟨(Nat.le_of_ble_eq_true rfl), (Nat.le_of_ble_eq_true rfl)⟩ ⟨(Nat.le_of_ble_eq_true rfl), (Nat.le_of_ble_eq_true rfl)⟩ _ rfl (Nat.le_of_ble_eq_true rfl) [⟨0, 10, 13, 19⟩] ⟨0, 10, 17, 24⟩ [] ht (fun z hz => by obtain rfl := List.mem_singleton.mp hz; exact ⟨by decide, "java/lang/IndexOutOfBoundsException", q_601, List.mem_of_getElem? (i := 3) rfl⟩) (by decide) (by decide) q_617 (List.mem_of_getElem? (i := 1) rfl) dL_wayNode_5 (fun q9 => ?_)
        refine x_astore C [(4, .ref q9), (0, .ref (adr g 0)), (1, .int a1), (2, .int a2), (3, .ref (adr g 40))] dL_wayNode_17 (by decide) rfl 19 rfl ?_
        refine x_iconst C (v := 2) dL_wayNode_19 (by decide) 20 rfl ?_
        exact x_iret1 C hr hq dL_wayNode_20
      · cases h
  · cases h
noncomputable def f_L_reach (a1 : Int32) (a2 : Int32) (σ : WD) : Option (Int32 × WD) := hl (f_X6_reach a1 a2 σ) 3 3 σ
set_option maxHeartbeats 4000000 in
set_option maxRecDepth 100000 in
theorem c_L_reach {l : Launch} {g : Gb} {a1 : Int32} {a2 : Int32} {σ : WD} {r : Int32} {σ2 : WD} (hl9 : l.stackTraces = false) (h : f_L_reach a1 a2 σ = some (r, σ2)) : MH l g yL_reach (.codeWith yL_reach cL_reach 5 (some .int) [(0, 10, 13, 19)]) (rmx 9 136) [.ref (adr g 0), .int a1, .int a2, .ref (adr g 40)] σ (some (.int r)) σ2 := by
  refine MH.of (by decide) (Nat.le_of_ble_eq_true rfl) (fun x C hl hX ht hr hq => ?_)
  subst hl
  show WW x g 5 0 0 0 [(0, .ref (adr g 0)), (1, .int a1), (2, .int a2), (3, .ref (adr g 40))] [] σ
  unfold f_L_reach hl at h
  split at h
  · rename_i p hm
    cases h
    refine x_aload_n C dL_reach_0 rfl 3 rfl 1 rfl ?_
    refine x_iconst C (v := 0) dL_reach_1 (by decide) 2 rfl ?_
    refine x_aload_n C dL_reach_2 rfl 0 rfl 3 rfl ?_
    refine x_iload_n C dL_reach_3 rfl 1 rfl 4 rfl ?_
    refine x_iload_n C dL_reach_4 rfl 2 rfl 5 rfl ?_
    refine x_callV C 0 [.int a1, .int a2] (c_X6_reach hm) mi_X6_reach (gt_0 g _) rfl q_705 rfl ⟨rfl, rfl⟩ ⟨(Nat.le_of_ble_eq_true rfl), (Nat.le_of_ble_eq_true rfl)⟩ ⟨Nat.zero_le _, Nat.zero_le _⟩ _ rfl (Nat.le_of_ble_eq_true rfl) dL_reach_5 8 rfl ?_
    refine x_i2l C dL_reach_8 9 rfl ?_
    refine x_last C dL_reach_9 10 rfl ?_
    refine x_goto C dL_reach_10 17 (by decide) ?_
    refine x_iconst C (v := 0) dL_reach_17 (by decide) 18 rfl ?_
    exact x_wid (by decide) (by decide) (x_iret1 C hr hq dL_reach_18)
  · rename_i e hm
    split at h
    · rename_i he
      subst he
      cases h
      refine x_aload_n C dL_reach_0 rfl 3 rfl 1 rfl ?_
      refine x_iconst C (v := 0) dL_reach_1 (by decide) 2 rfl ?_
      refine x_aload_n C dL_reach_2 rfl 0 rfl 3 rfl ?_
      refine x_iload_n C dL_reach_3 rfl 1 rfl 4 rfl ?_
      refine x_iload_n C dL_reach_4 rfl 2 rfl 5 rfl ?_
      refine x_catchV C hX 0 [.int a1, .int a2] (x_X6_reach hl9 hm) mi_X6_reach (gt_0 g _) rfl q_705 rfl ⟨rfl, rfl⟩ ⟨(Nat.le_of_ble_eq_true rfl), (Nat.le_of_ble_eq_true rfl)⟩ ⟨(Nat.le_of_ble_eq_true rfl), (Nat.le_of_ble_eq_true rfl)⟩ _ rfl (Nat.le_of_ble_eq_true rfl) [] ⟨0, 10, 13, 19⟩ [] ht (fun z hz => absurd hz List.not_mem_nil) (by decide) (by decide) q_601 (List.mem_of_getElem? (i := 2) rfl) dL_reach_5 (fun q9 => ?_)
      refine x_astore C [(4, .ref q9), (0, .ref (adr g 0)), (1, .int a1), (2, .int a2), (3, .ref (adr g 40))] dL_reach_13 (by decide) rfl 15 rfl ?_
      refine x_iconst C (v := 1) dL_reach_15 (by decide) 16 rfl ?_
      exact x_iret1 C hr hq dL_reach_16
    · cases h
  · cases h
noncomputable def f_L_firstMate (a1 : Int32) (σ : WD) : Option (Int32 × WD) := hl (f_X6_firstMate a1 σ) 3 3 σ
set_option maxHeartbeats 4000000 in
set_option maxRecDepth 100000 in
theorem c_L_firstMate {l : Launch} {g : Gb} {a1 : Int32} {σ : WD} {r : Int32} {σ2 : WD} (hl9 : l.stackTraces = false) (h : f_L_firstMate a1 σ = some (r, σ2)) : MH l g yL_firstMate (.codeWith yL_firstMate cL_firstMate 4 (some .int) [(0, 9, 12, 19)]) (rmx 22 619) [.ref (adr g 0), .int a1, .ref (adr g 40)] σ (some (.int r)) σ2 := by
  refine MH.of (by decide) (Nat.le_of_ble_eq_true rfl) (fun x C hl hX ht hr hq => ?_)
  subst hl
  show WW x g 4 0 0 0 [(0, .ref (adr g 0)), (1, .int a1), (2, .ref (adr g 40))] [] σ
  unfold f_L_firstMate hl at h
  split at h
  · rename_i p hm
    cases h
    refine x_aload_n C dL_firstMate_0 rfl 2 rfl 1 rfl ?_
    refine x_iconst C (v := 0) dL_firstMate_1 (by decide) 2 rfl ?_
    refine x_aload_n C dL_firstMate_2 rfl 0 rfl 3 rfl ?_
    refine x_iload_n C dL_firstMate_3 rfl 1 rfl 4 rfl ?_
    refine x_callV C 0 [.int a1] (c_X6_firstMate hm) mi_X6_firstMate (gt_0 g _) rfl q_709 rfl ⟨rfl, rfl⟩ ⟨(Nat.le_of_ble_eq_true rfl), (Nat.le_of_ble_eq_true rfl)⟩ ⟨Nat.zero_le _, Nat.zero_le _⟩ _ rfl (Nat.le_of_ble_eq_true rfl) dL_firstMate_4 7 rfl ?_
    refine x_i2l C dL_firstMate_7 8 rfl ?_
    refine x_last C dL_firstMate_8 9 rfl ?_
    refine x_goto C dL_firstMate_9 15 (by decide) ?_
    refine x_iconst C (v := 0) dL_firstMate_15 (by decide) 16 rfl ?_
    exact x_wid (by decide) (by decide) (x_iret1 C hr hq dL_firstMate_16)
  · rename_i e hm
    split at h
    · rename_i he
      subst he
      cases h
      refine x_aload_n C dL_firstMate_0 rfl 2 rfl 1 rfl ?_
      refine x_iconst C (v := 0) dL_firstMate_1 (by decide) 2 rfl ?_
      refine x_aload_n C dL_firstMate_2 rfl 0 rfl 3 rfl ?_
      refine x_iload_n C dL_firstMate_3 rfl 1 rfl 4 rfl ?_
      refine x_catchV C hX 0 [.int a1] (x_X6_firstMate hl9 hm) mi_X6_firstMate (gt_0 g _) rfl q_709 rfl ⟨rfl, rfl⟩ ⟨(Nat.le_of_ble_eq_true rfl), (Nat.le_of_ble_eq_true rfl)⟩ ⟨(Nat.le_of_ble_eq_true rfl), (Nat.le_of_ble_eq_true rfl)⟩ _ rfl (Nat.le_of_ble_eq_true rfl) [] ⟨0, 9, 12, 19⟩ [] ht (fun z hz => absurd hz List.not_mem_nil) (by decide) (by decide) q_601 (List.mem_of_getElem? (i := 2) rfl) dL_firstMate_4 (fun q9 => ?_)
      refine x_astore_n C [(3, .ref q9), (0, .ref (adr g 0)), (1, .int a1), (2, .ref (adr g 40))] dL_firstMate_12 rfl (by decide) rfl 13 rfl ?_
      refine x_iconst C (v := 1) dL_firstMate_13 (by decide) 14 rfl ?_
      exact x_iret1 C hr hq dL_firstMate_14
    · cases h
  · cases h
noncomputable def f_L_components (a1 : Int32) (a2 : Int32) (σ : WD) : Option (Int32 × WD) := hlr (f_X6_components a1 a2 σ) 1 1 σ
set_option maxHeartbeats 4000000 in
set_option maxRecDepth 100000 in
theorem c_L_components {l : Launch} {g : Gb} {a1 : Int32} {a2 : Int32} {σ : WD} {r : Int32} {σ2 : WD} (hl9 : l.stackTraces = false) (h : f_L_components a1 a2 σ = some (r, σ2)) : MH l g yL_components (.codeWith yL_components cL_components 5 (some .int) [(0, 10, 13, 13)]) (rmx 8 114) [.ref (adr g 0), .int a1, .int a2, .ref (adr g 40)] σ (some (.int r)) σ2 := by
  refine MH.of (by decide) (Nat.le_of_ble_eq_true rfl) (fun x C hl hX ht hr hq => ?_)
  subst hl
  show WW x g 5 0 0 0 [(0, .ref (adr g 0)), (1, .int a1), (2, .int a2), (3, .ref (adr g 40))] [] σ
  unfold f_L_components hlr at h
  split at h
  · rename_i p hm
    cases h
    refine x_aload_n C dL_components_0 rfl 3 rfl 1 rfl ?_
    refine x_iconst C (v := 0) dL_components_1 (by decide) 2 rfl ?_
    refine x_aload_n C dL_components_2 rfl 0 rfl 3 rfl ?_
    refine x_iload_n C dL_components_3 rfl 1 rfl 4 rfl ?_
    refine x_iload_n C dL_components_4 rfl 2 rfl 5 rfl ?_
    refine x_callV C 0 [.int a1, .int a2] (c_X6_components hm) mi_X6_components (gt_0 g _) rfl q_713 rfl ⟨rfl, rfl⟩ ⟨(Nat.le_of_ble_eq_true rfl), (Nat.le_of_ble_eq_true rfl)⟩ ⟨Nat.zero_le _, Nat.zero_le _⟩ _ rfl (Nat.le_of_ble_eq_true rfl) dL_components_5 8 rfl ?_
    refine x_i2l C dL_components_8 9 rfl ?_
    refine x_last C dL_components_9 10 rfl ?_
    refine x_goto C dL_components_10 17 (by decide) ?_
    refine x_iconst C (v := 0) dL_components_17 (by decide) 18 rfl ?_
    exact x_wid (by decide) (by decide) (x_iret1 C hr hq dL_components_18)
  · rename_i e hm
    split at h
    · rename_i he
      subst he
      cases h
      refine x_aload_n C dL_components_0 rfl 3 rfl 1 rfl ?_
      refine x_iconst C (v := 0) dL_components_1 (by decide) 2 rfl ?_
      refine x_aload_n C dL_components_2 rfl 0 rfl 3 rfl ?_
      refine x_iload_n C dL_components_3 rfl 1 rfl 4 rfl ?_
      refine x_iload_n C dL_components_4 rfl 2 rfl 5 rfl ?_
      refine x_catchV C hX 0 [.int a1, .int a2] (x_X6_components hl9 hm) mi_X6_components (gt_0 g _) rfl q_713 rfl ⟨rfl, rfl⟩ ⟨(Nat.le_of_ble_eq_true rfl), (Nat.le_of_ble_eq_true rfl)⟩ ⟨(Nat.le_of_ble_eq_true rfl), (Nat.le_of_ble_eq_true rfl)⟩ _ rfl (Nat.le_of_ble_eq_true rfl) [] ⟨0, 10, 13, 13⟩ [] ht (fun z hz => absurd hz List.not_mem_nil) (by decide) (by decide) q_587 (List.mem_of_getElem? (i := 0) rfl) dL_components_5 (fun q9 => ?_)
      refine x_astore C [(4, .ref q9), (0, .ref (adr g 0)), (1, .int a1), (2, .int a2), (3, .ref (adr g 40))] dL_components_13 (by decide) rfl 15 rfl ?_
      refine x_iconst C (v := 1) dL_components_15 (by decide) 16 rfl ?_
      exact x_iret1 C hr hq dL_components_16
    · cases h
  · cases h
noncomputable def f_L_ifChanged (a1 : Int32) (a2 : Int32) (σ : WD) : Option (Int32 × WD) := hl (f_X6_ifChanged a1 a2 σ) 3 1 σ
set_option maxHeartbeats 4000000 in
set_option maxRecDepth 100000 in
theorem c_L_ifChanged {l : Launch} {g : Gb} {a1 : Int32} {a2 : Int32} {σ : WD} {r : Int32} {σ2 : WD} (hl9 : l.stackTraces = false) (h : f_L_ifChanged a1 a2 σ = some (r, σ2)) : MH l g yL_ifChanged (.codeWith yL_ifChanged cL_ifChanged 5 (some .int) [(0, 10, 13, 19), (0, 10, 17, 13)]) (rmx 21 598) [.ref (adr g 0), .int a1, .int a2, .ref (adr g 40)] σ (some (.int r)) σ2 := by
  refine MH.of (by decide) (Nat.le_of_ble_eq_true rfl) (fun x C hl hX ht hr hq => ?_)
  subst hl
  show WW x g 5 0 0 0 [(0, .ref (adr g 0)), (1, .int a1), (2, .int a2), (3, .ref (adr g 40))] [] σ
  unfold f_L_ifChanged hl at h
  split at h
  · rename_i p hm
    cases h
    refine x_aload_n C dL_ifChanged_0 rfl 3 rfl 1 rfl ?_
    refine x_iconst C (v := 0) dL_ifChanged_1 (by decide) 2 rfl ?_
    refine x_aload_n C dL_ifChanged_2 rfl 0 rfl 3 rfl ?_
    refine x_iload_n C dL_ifChanged_3 rfl 1 rfl 4 rfl ?_
    refine x_iload_n C dL_ifChanged_4 rfl 2 rfl 5 rfl ?_
    refine x_callV C 0 [.int a1, .int a2] (c_X6_ifChanged hm) mi_X6_ifChanged (gt_0 g _) rfl q_721 rfl ⟨rfl, rfl⟩ ⟨(Nat.le_of_ble_eq_true rfl), (Nat.le_of_ble_eq_true rfl)⟩ ⟨Nat.zero_le _, Nat.zero_le _⟩ _ rfl (Nat.le_of_ble_eq_true rfl) dL_ifChanged_5 8 rfl ?_
    refine x_i2l C dL_ifChanged_8 9 rfl ?_
    refine x_last C dL_ifChanged_9 10 rfl ?_
    refine x_goto C dL_ifChanged_10 21 (by decide) ?_
    refine x_iconst C (v := 0) dL_ifChanged_21 (by decide) 22 rfl ?_
    exact x_wid (by decide) (by decide) (x_iret1 C hr hq dL_ifChanged_22)
  · rename_i e hm
    split at h
    · rename_i he
      subst he
      cases h
      refine x_aload_n C dL_ifChanged_0 rfl 3 rfl 1 rfl ?_
      refine x_iconst C (v := 0) dL_ifChanged_1 (by decide) 2 rfl ?_
      refine x_aload_n C dL_ifChanged_2 rfl 0 rfl 3 rfl ?_
      refine x_iload_n C dL_ifChanged_3 rfl 1 rfl 4 rfl ?_
      refine x_iload_n C dL_ifChanged_4 rfl 2 rfl 5 rfl ?_
      refine x_catchV C hX 0 [.int a1, .int a2] (x_X6_ifChanged hl9 hm) mi_X6_ifChanged (gt_0 g _) rfl q_721 rfl ⟨rfl, rfl⟩ ⟨(Nat.le_of_ble_eq_true rfl), (Nat.le_of_ble_eq_true rfl)⟩ ⟨(Nat.le_of_ble_eq_true rfl), (Nat.le_of_ble_eq_true rfl)⟩ _ rfl (Nat.le_of_ble_eq_true rfl) [] ⟨0, 10, 13, 19⟩ [⟨0, 10, 17, 13⟩] ht (fun z hz => absurd hz List.not_mem_nil) (by decide) (by decide) q_601 (List.mem_of_getElem? (i := 2) rfl) dL_ifChanged_5 (fun q9 => ?_)
      refine x_astore C [(4, .ref q9), (0, .ref (adr g 0)), (1, .int a1), (2, .int a2), (3, .ref (adr g 40))] dL_ifChanged_13 (by decide) rfl 15 rfl ?_
      refine x_iconst C (v := 1) dL_ifChanged_15 (by decide) 16 rfl ?_
      exact x_iret1 C hr hq dL_ifChanged_16
    · split at h
      · rename_i he
        subst he
        cases h
        refine x_aload_n C dL_ifChanged_0 rfl 3 rfl 1 rfl ?_
        refine x_iconst C (v := 0) dL_ifChanged_1 (by decide) 2 rfl ?_
        refine x_aload_n C dL_ifChanged_2 rfl 0 rfl 3 rfl ?_
        refine x_iload_n C dL_ifChanged_3 rfl 1 rfl 4 rfl ?_
        refine x_iload_n C dL_ifChanged_4 rfl 2 rfl 5 rfl ?_
        refine x_catchV C hX 0 [.int a1, .int a2] (x_X6_ifChanged hl9 hm) mi_X6_ifChanged (gt_0 g _) rfl q_721 rfl ⟨rfl, rfl⟩ ⟨(Nat.le_of_ble_eq_true rfl), (Nat.le_of_ble_eq_true rfl)⟩ ⟨(Nat.le_of_ble_eq_true rfl), (Nat.le_of_ble_eq_true rfl)⟩ _ rfl (Nat.le_of_ble_eq_true rfl) [⟨0, 10, 13, 19⟩] ⟨0, 10, 17, 13⟩ [] ht (fun z hz => by obtain rfl := List.mem_singleton.mp hz; exact ⟨by decide, "java/lang/IndexOutOfBoundsException", q_601, List.mem_of_getElem? (i := 1) rfl⟩) (by decide) (by decide) q_587 (List.mem_of_getElem? (i := 0) rfl) dL_ifChanged_5 (fun q9 => ?_)
        refine x_astore C [(4, .ref q9), (0, .ref (adr g 0)), (1, .int a1), (2, .int a2), (3, .ref (adr g 40))] dL_ifChanged_17 (by decide) rfl 19 rfl ?_
        refine x_iconst C (v := 2) dL_ifChanged_19 (by decide) 20 rfl ?_
        exact x_iret1 C hr hq dL_ifChanged_20
      · cases h
  · cases h
noncomputable def f_L_node (a1 : Int32) (a2 : Int32) (σ : WD) : Option (Int32 × WD) := hl (f_X6_node a1 a2 σ) 3 1 σ
set_option maxHeartbeats 4000000 in
set_option maxRecDepth 100000 in
theorem c_L_node {l : Launch} {g : Gb} {a1 : Int32} {a2 : Int32} {σ : WD} {r : Int32} {σ2 : WD} (hl9 : l.stackTraces = false) (h : f_L_node a1 a2 σ = some (r, σ2)) : MH l g yL_node (.codeWith yL_node cL_node 5 (some .int) [(0, 10, 13, 19), (0, 10, 17, 13)]) (rmx 22 619) [.ref (adr g 0), .int a1, .int a2, .ref (adr g 40)] σ (some (.int r)) σ2 := by
  refine MH.of (by decide) (Nat.le_of_ble_eq_true rfl) (fun x C hl hX ht hr hq => ?_)
  subst hl
  show WW x g 5 0 0 0 [(0, .ref (adr g 0)), (1, .int a1), (2, .int a2), (3, .ref (adr g 40))] [] σ
  unfold f_L_node hl at h
  split at h
  · rename_i p hm
    cases h
    refine x_aload_n C dL_node_0 rfl 3 rfl 1 rfl ?_
    refine x_iconst C (v := 0) dL_node_1 (by decide) 2 rfl ?_
    refine x_aload_n C dL_node_2 rfl 0 rfl 3 rfl ?_
    refine x_iload_n C dL_node_3 rfl 1 rfl 4 rfl ?_
    refine x_iload_n C dL_node_4 rfl 2 rfl 5 rfl ?_
    refine x_callV C 0 [.int a1, .int a2] (c_X6_node hm) mi_X6_node (gt_0 g _) rfl q_735 rfl ⟨rfl, rfl⟩ ⟨(Nat.le_of_ble_eq_true rfl), (Nat.le_of_ble_eq_true rfl)⟩ ⟨Nat.zero_le _, Nat.zero_le _⟩ _ rfl (Nat.le_of_ble_eq_true rfl) dL_node_5 8 rfl ?_
    refine x_i2l C dL_node_8 9 rfl ?_
    refine x_last C dL_node_9 10 rfl ?_
    refine x_goto C dL_node_10 21 (by decide) ?_
    refine x_iconst C (v := 0) dL_node_21 (by decide) 22 rfl ?_
    exact x_wid (by decide) (by decide) (x_iret1 C hr hq dL_node_22)
  · rename_i e hm
    split at h
    · rename_i he
      subst he
      cases h
      refine x_aload_n C dL_node_0 rfl 3 rfl 1 rfl ?_
      refine x_iconst C (v := 0) dL_node_1 (by decide) 2 rfl ?_
      refine x_aload_n C dL_node_2 rfl 0 rfl 3 rfl ?_
      refine x_iload_n C dL_node_3 rfl 1 rfl 4 rfl ?_
      refine x_iload_n C dL_node_4 rfl 2 rfl 5 rfl ?_
      refine x_catchV C hX 0 [.int a1, .int a2] (x_X6_node hl9 hm) mi_X6_node (gt_0 g _) rfl q_735 rfl ⟨rfl, rfl⟩ ⟨(Nat.le_of_ble_eq_true rfl), (Nat.le_of_ble_eq_true rfl)⟩ ⟨(Nat.le_of_ble_eq_true rfl), (Nat.le_of_ble_eq_true rfl)⟩ _ rfl (Nat.le_of_ble_eq_true rfl) [] ⟨0, 10, 13, 19⟩ [⟨0, 10, 17, 13⟩] ht (fun z hz => absurd hz List.not_mem_nil) (by decide) (by decide) q_601 (List.mem_of_getElem? (i := 2) rfl) dL_node_5 (fun q9 => ?_)
      refine x_astore C [(4, .ref q9), (0, .ref (adr g 0)), (1, .int a1), (2, .int a2), (3, .ref (adr g 40))] dL_node_13 (by decide) rfl 15 rfl ?_
      refine x_iconst C (v := 1) dL_node_15 (by decide) 16 rfl ?_
      exact x_iret1 C hr hq dL_node_16
    · split at h
      · rename_i he
        subst he
        cases h
        refine x_aload_n C dL_node_0 rfl 3 rfl 1 rfl ?_
        refine x_iconst C (v := 0) dL_node_1 (by decide) 2 rfl ?_
        refine x_aload_n C dL_node_2 rfl 0 rfl 3 rfl ?_
        refine x_iload_n C dL_node_3 rfl 1 rfl 4 rfl ?_
        refine x_iload_n C dL_node_4 rfl 2 rfl 5 rfl ?_
        refine x_catchV C hX 0 [.int a1, .int a2] (x_X6_node hl9 hm) mi_X6_node (gt_0 g _) rfl q_735 rfl ⟨rfl, rfl⟩ ⟨(Nat.le_of_ble_eq_true rfl), (Nat.le_of_ble_eq_true rfl)⟩ ⟨(Nat.le_of_ble_eq_true rfl), (Nat.le_of_ble_eq_true rfl)⟩ _ rfl (Nat.le_of_ble_eq_true rfl) [⟨0, 10, 13, 19⟩] ⟨0, 10, 17, 13⟩ [] ht (fun z hz => by obtain rfl := List.mem_singleton.mp hz; exact ⟨by decide, "java/lang/IndexOutOfBoundsException", q_601, List.mem_of_getElem? (i := 1) rfl⟩) (by decide) (by decide) q_587 (List.mem_of_getElem? (i := 0) rfl) dL_node_5 (fun q9 => ?_)
        refine x_astore C [(4, .ref q9), (0, .ref (adr g 0)), (1, .int a1), (2, .int a2), (3, .ref (adr g 40))] dL_node_17 (by decide) rfl 19 rfl ?_
        refine x_iconst C (v := 2) dL_node_19 (by decide) 20 rfl ?_
        exact x_iret1 C hr hq dL_node_20
      · cases h
  · cases h
noncomputable def f_L_edge (a1 : Int32) (a2 : Int32) (a3 : Int32) (σ : WD) : Option (Int32 × WD) := hl (f_X6_edge a1 a2 a3 σ) 3 1 σ
set_option maxHeartbeats 4000000 in
set_option maxRecDepth 100000 in
theorem c_L_edge {l : Launch} {g : Gb} {a1 : Int32} {a2 : Int32} {a3 : Int32} {σ : WD} {r : Int32} {σ2 : WD} (hl9 : l.stackTraces = false) (h : f_L_edge a1 a2 a3 σ = some (r, σ2)) : MH l g yL_edge (.codeWith yL_edge cL_edge 6 (some .int) [(0, 12, 15, 19), (0, 12, 19, 13)]) (rmx 21 598) [.ref (adr g 0), .int a1, .int a2, .int a3, .ref (adr g 40)] σ (some (.int r)) σ2 := by
  refine MH.of (by decide) (Nat.le_of_ble_eq_true rfl) (fun x C hl hX ht hr hq => ?_)
  subst hl
  show WW x g 6 0 0 0 [(0, .ref (adr g 0)), (1, .int a1), (2, .int a2), (3, .int a3), (4, .ref (adr g 40))] [] σ
  unfold f_L_edge hl at h
  split at h
  · rename_i p hm
    cases h
    refine x_aload C dL_edge_0 4 rfl 2 rfl ?_
    refine x_iconst C (v := 0) dL_edge_2 (by decide) 3 rfl ?_
    refine x_aload_n C dL_edge_3 rfl 0 rfl 4 rfl ?_
    refine x_iload_n C dL_edge_4 rfl 1 rfl 5 rfl ?_
    refine x_iload_n C dL_edge_5 rfl 2 rfl 6 rfl ?_
    refine x_iload_n C dL_edge_6 rfl 3 rfl 7 rfl ?_
    refine x_callV C 0 [.int a1, .int a2, .int a3] (c_X6_edge hm) mi_X6_edge (gt_0 g _) rfl q_739 rfl ⟨rfl, rfl⟩ ⟨(Nat.le_of_ble_eq_true rfl), (Nat.le_of_ble_eq_true rfl)⟩ ⟨Nat.zero_le _, Nat.zero_le _⟩ _ rfl (Nat.le_of_ble_eq_true rfl) dL_edge_7 10 rfl ?_
    refine x_i2l C dL_edge_10 11 rfl ?_
    refine x_last C dL_edge_11 12 rfl ?_
    refine x_goto C dL_edge_12 23 (by decide) ?_
    refine x_iconst C (v := 0) dL_edge_23 (by decide) 24 rfl ?_
    exact x_wid (by decide) (by decide) (x_iret1 C hr hq dL_edge_24)
  · rename_i e hm
    split at h
    · rename_i he
      subst he
      cases h
      refine x_aload C dL_edge_0 4 rfl 2 rfl ?_
      refine x_iconst C (v := 0) dL_edge_2 (by decide) 3 rfl ?_
      refine x_aload_n C dL_edge_3 rfl 0 rfl 4 rfl ?_
      refine x_iload_n C dL_edge_4 rfl 1 rfl 5 rfl ?_
      refine x_iload_n C dL_edge_5 rfl 2 rfl 6 rfl ?_
      refine x_iload_n C dL_edge_6 rfl 3 rfl 7 rfl ?_
      refine x_catchV C hX 0 [.int a1, .int a2, .int a3] (x_X6_edge hl9 hm) mi_X6_edge (gt_0 g _) rfl q_739 rfl ⟨rfl, rfl⟩ ⟨(Nat.le_of_ble_eq_true rfl), (Nat.le_of_ble_eq_true rfl)⟩ ⟨(Nat.le_of_ble_eq_true rfl), (Nat.le_of_ble_eq_true rfl)⟩ _ rfl (Nat.le_of_ble_eq_true rfl) [] ⟨0, 12, 15, 19⟩ [⟨0, 12, 19, 13⟩] ht (fun z hz => absurd hz List.not_mem_nil) (by decide) (by decide) q_601 (List.mem_of_getElem? (i := 2) rfl) dL_edge_7 (fun q9 => ?_)
      refine x_astore C [(5, .ref q9), (0, .ref (adr g 0)), (1, .int a1), (2, .int a2), (3, .int a3), (4, .ref (adr g 40))] dL_edge_15 (by decide) rfl 17 rfl ?_
      refine x_iconst C (v := 1) dL_edge_17 (by decide) 18 rfl ?_
      exact x_iret1 C hr hq dL_edge_18
    · split at h
      · rename_i he
        subst he
        cases h
        refine x_aload C dL_edge_0 4 rfl 2 rfl ?_
        refine x_iconst C (v := 0) dL_edge_2 (by decide) 3 rfl ?_
        refine x_aload_n C dL_edge_3 rfl 0 rfl 4 rfl ?_
        refine x_iload_n C dL_edge_4 rfl 1 rfl 5 rfl ?_
        refine x_iload_n C dL_edge_5 rfl 2 rfl 6 rfl ?_
        refine x_iload_n C dL_edge_6 rfl 3 rfl 7 rfl ?_
        refine x_catchV C hX 0 [.int a1, .int a2, .int a3] (x_X6_edge hl9 hm) mi_X6_edge (gt_0 g _) rfl q_739 rfl ⟨rfl, rfl⟩ ⟨(Nat.le_of_ble_eq_true rfl), (Nat.le_of_ble_eq_true rfl)⟩ ⟨(Nat.le_of_ble_eq_true rfl), (Nat.le_of_ble_eq_true rfl)⟩ _ rfl (Nat.le_of_ble_eq_true rfl) [⟨0, 12, 15, 19⟩] ⟨0, 12, 19, 13⟩ [] ht (fun z hz => by obtain rfl := List.mem_singleton.mp hz; exact ⟨by decide, "java/lang/IndexOutOfBoundsException", q_601, List.mem_of_getElem? (i := 1) rfl⟩) (by decide) (by decide) q_587 (List.mem_of_getElem? (i := 0) rfl) dL_edge_7 (fun q9 => ?_)
        refine x_astore C [(5, .ref q9), (0, .ref (adr g 0)), (1, .int a1), (2, .int a2), (3, .int a3), (4, .ref (adr g 40))] dL_edge_19 (by decide) rfl 21 rfl ?_
        refine x_iconst C (v := 2) dL_edge_21 (by decide) 22 rfl ?_
        exact x_iret1 C hr hq dL_edge_22
      · cases h
  · cases h
noncomputable def f_L_count (a1 : Int32) (σ : WD) : Option (Int32 × WD) := hl (f_X6_count a1 σ) 1 1 σ
set_option maxHeartbeats 4000000 in
set_option maxRecDepth 100000 in
theorem c_L_count {l : Launch} {g : Gb} {a1 : Int32} {σ : WD} {r : Int32} {σ2 : WD} (hl9 : l.stackTraces = false) (h : f_L_count a1 σ = some (r, σ2)) : MH l g yL_count (.codeWith yL_count cL_count 4 (some .int) [(0, 9, 12, 13)]) (rmx 22 621) [.ref (adr g 0), .int a1, .ref (adr g 40)] σ (some (.int r)) σ2 := by
  refine MH.of (by decide) (Nat.le_of_ble_eq_true rfl) (fun x C hl hX ht hr hq => ?_)
  subst hl
  show WW x g 4 0 0 0 [(0, .ref (adr g 0)), (1, .int a1), (2, .ref (adr g 40))] [] σ
  unfold f_L_count hl at h
  split at h
  · rename_i p hm
    cases h
    refine x_aload_n C dL_count_0 rfl 2 rfl 1 rfl ?_
    refine x_iconst C (v := 0) dL_count_1 (by decide) 2 rfl ?_
    refine x_aload_n C dL_count_2 rfl 0 rfl 3 rfl ?_
    refine x_iload_n C dL_count_3 rfl 1 rfl 4 rfl ?_
    refine x_callV C 0 [.int a1] (c_X6_count hm) mi_X6_count (gt_0 g _) rfl q_743 rfl ⟨rfl, rfl⟩ ⟨(Nat.le_of_ble_eq_true rfl), (Nat.le_of_ble_eq_true rfl)⟩ ⟨Nat.zero_le _, Nat.zero_le _⟩ _ rfl (Nat.le_of_ble_eq_true rfl) dL_count_4 7 rfl ?_
    refine x_i2l C dL_count_7 8 rfl ?_
    refine x_last C dL_count_8 9 rfl ?_
    refine x_goto C dL_count_9 15 (by decide) ?_
    refine x_iconst C (v := 0) dL_count_15 (by decide) 16 rfl ?_
    exact x_wid (by decide) (by decide) (x_iret1 C hr hq dL_count_16)
  · rename_i e hm
    split at h
    · rename_i he
      subst he
      cases h
      refine x_aload_n C dL_count_0 rfl 2 rfl 1 rfl ?_
      refine x_iconst C (v := 0) dL_count_1 (by decide) 2 rfl ?_
      refine x_aload_n C dL_count_2 rfl 0 rfl 3 rfl ?_
      refine x_iload_n C dL_count_3 rfl 1 rfl 4 rfl ?_
      refine x_catchV C hX 0 [.int a1] (x_X6_count hl9 hm) mi_X6_count (gt_0 g _) rfl q_743 rfl ⟨rfl, rfl⟩ ⟨(Nat.le_of_ble_eq_true rfl), (Nat.le_of_ble_eq_true rfl)⟩ ⟨(Nat.le_of_ble_eq_true rfl), (Nat.le_of_ble_eq_true rfl)⟩ _ rfl (Nat.le_of_ble_eq_true rfl) [] ⟨0, 9, 12, 13⟩ [] ht (fun z hz => absurd hz List.not_mem_nil) (by decide) (by decide) q_587 (List.mem_of_getElem? (i := 0) rfl) dL_count_4 (fun q9 => ?_)
      refine x_astore_n C [(3, .ref q9), (0, .ref (adr g 0)), (1, .int a1), (2, .ref (adr g 40))] dL_count_12 rfl (by decide) rfl 13 rfl ?_
      refine x_iconst C (v := 1) dL_count_13 (by decide) 14 rfl ?_
      exact x_iret1 C hr hq dL_count_14
    · cases h
  · cases h
noncomputable def f_L_difference (a1 : Int32) (σ : WD) : Option (Int32 × WD) := hl (f_X6_difference a1 σ) 1 1 σ
set_option maxHeartbeats 4000000 in
set_option maxRecDepth 100000 in
theorem c_L_difference {l : Launch} {g : Gb} {a1 : Int32} {σ : WD} {r : Int32} {σ2 : WD} (hl9 : l.stackTraces = false) (h : f_L_difference a1 σ = some (r, σ2)) : MH l g yL_difference (.codeWith yL_difference cL_difference 4 (some .int) [(0, 9, 12, 13)]) (rmx 22 625) [.ref (adr g 0), .int a1, .ref (adr g 40)] σ (some (.int r)) σ2 := by
  refine MH.of (by decide) (Nat.le_of_ble_eq_true rfl) (fun x C hl hX ht hr hq => ?_)
  subst hl
  show WW x g 4 0 0 0 [(0, .ref (adr g 0)), (1, .int a1), (2, .ref (adr g 40))] [] σ
  unfold f_L_difference hl at h
  split at h
  · rename_i p hm
    cases h
    refine x_aload_n C dL_difference_0 rfl 2 rfl 1 rfl ?_
    refine x_iconst C (v := 0) dL_difference_1 (by decide) 2 rfl ?_
    refine x_aload_n C dL_difference_2 rfl 0 rfl 3 rfl ?_
    refine x_iload_n C dL_difference_3 rfl 1 rfl 4 rfl ?_
    refine x_callV C 0 [.int a1] (c_X6_difference hm) mi_X6_difference (gt_0 g _) rfl q_747 rfl ⟨rfl, rfl⟩ ⟨(Nat.le_of_ble_eq_true rfl), (Nat.le_of_ble_eq_true rfl)⟩ ⟨Nat.zero_le _, Nat.zero_le _⟩ _ rfl (Nat.le_of_ble_eq_true rfl) dL_difference_4 7 rfl ?_
    refine x_i2l C dL_difference_7 8 rfl ?_
    refine x_last C dL_difference_8 9 rfl ?_
    refine x_goto C dL_difference_9 15 (by decide) ?_
    refine x_iconst C (v := 0) dL_difference_15 (by decide) 16 rfl ?_
    exact x_wid (by decide) (by decide) (x_iret1 C hr hq dL_difference_16)
  · rename_i e hm
    split at h
    · rename_i he
      subst he
      cases h
      refine x_aload_n C dL_difference_0 rfl 2 rfl 1 rfl ?_
      refine x_iconst C (v := 0) dL_difference_1 (by decide) 2 rfl ?_
      refine x_aload_n C dL_difference_2 rfl 0 rfl 3 rfl ?_
      refine x_iload_n C dL_difference_3 rfl 1 rfl 4 rfl ?_
      refine x_catchV C hX 0 [.int a1] (x_X6_difference hl9 hm) mi_X6_difference (gt_0 g _) rfl q_747 rfl ⟨rfl, rfl⟩ ⟨(Nat.le_of_ble_eq_true rfl), (Nat.le_of_ble_eq_true rfl)⟩ ⟨(Nat.le_of_ble_eq_true rfl), (Nat.le_of_ble_eq_true rfl)⟩ _ rfl (Nat.le_of_ble_eq_true rfl) [] ⟨0, 9, 12, 13⟩ [] ht (fun z hz => absurd hz List.not_mem_nil) (by decide) (by decide) q_587 (List.mem_of_getElem? (i := 0) rfl) dL_difference_4 (fun q9 => ?_)
      refine x_astore_n C [(3, .ref q9), (0, .ref (adr g 0)), (1, .int a1), (2, .ref (adr g 40))] dL_difference_12 rfl (by decide) rfl 13 rfl ?_
      refine x_iconst C (v := 1) dL_difference_13 (by decide) 14 rfl ?_
      exact x_iret1 C hr hq dL_difference_14
    · cases h
  · cases h
