/-- the script, as the law sees it -/
def SC (x : Cx) (g : Gb) (b L : Nat) (xs : Nat → Int32) : Prop := va_X b L xs x.2.2.2.2.1 x.2.2.2.2.1.heap ∧ b < x.2.2.2.2.1.heap.size ∧ ¬ fA g b
/-- the same walk with another record of draws -/
def xdr (x : Cx) (d : Drawn) : Cx := (x.1, x.2.1, x.2.2.1, x.2.2.2.1, x.2.2.2.2.1.setDrawn d, x.2.2.2.2.2)
section XL
variable {x : Cx} {g : Gb} {own : String} {cc : ByteArray} {nL ce sl pc : Nat} {rm : Room} {lv : List (Nat × Value)} {st : List Value} {σ : WD} {b L : Nat} {xs : Nat → Int32}
theorem CF.dr (C : CF x g own cc nL rm) (d : Drawn) : CF (xdr x d) g own cc nL rm := ⟨C.ex, C.by, C.ml, C.ow, dr_words C.ts d, C.K, C.D, fun w hw => (Cond.before_setDrawn _ _ d w).trans (C.nw w hw), C.bs, C.ro, C.lk⟩
theorem x_sld (C : CF x g own cc nL rm) (S : SC x g b L xs) {i : Int32} (hin : ¬ (i < 0 ∨ L ≤ i.toNatClampNeg)) (hdg : decode cc pc = .ok (.iaload, 1)) (pn : Nat) (hp : pc + 1 = pn) (kk : WW x g nL ce sl pn lv (.int (xs i.toNatClampNeg) :: st) σ) : WW x g nL ce sl pc lv (.int i :: .ref b :: st) σ := by
  subst hp
  exact fun H locs ls hP hS hl => va_sld C.ex C.by S.1 S.2.1 S.2.2 hS hin hdg (kk H locs ls hP hS hl)
theorem x_slen (C : CF x g own cc nL rm) (S : SC x g b L xs) (hdg : decode cc pc = .ok (.arraylength, 1)) (pn : Nat) (hp : pc + 1 = pn) (kk : WW x g nL ce sl pn lv (.int (Int32.ofNat L) :: st) σ) : WW x g nL ce sl pc lv (.ref b :: st) σ := by
  subst hp
  exact fun H locs ls hP hS hl => va_slen C.ex C.by S.1 S.2.1 S.2.2 hS hdg (kk H locs ls hP hS hl)
/-- a helper of the law is called: one cell, six slots -/
theorem x_callH (C : CF x g own cc nL rm) (hX : XP g x.2.2.2.2.1) {y : MethodName} {bytes : ByteArray} {maxL n idx : Nat} {ret : Option FieldType} {hh : List (Nat × Nat × Nat × Nat)} {rm' : Room} {v : Option Value} {σ' : WD} (As : List Value)
    (hM : MH x.2.1 g y (.codeWith y bytes maxL ret hh) rm' As σ v σ') (hcw : Cond.codeWith y bytes maxL ret hh ∈ WS) (hst9 : Cond.static y ∈ WS) (hl0 : Cond.methodLink own idx y ∈ WS) (hini : Cond.initialized y.cls ∈ WS) (hd : y.cls ≠ "java/lang/invoke/MethodHandle" ∧ y.cls ≠ "java/lang/invoke/VarHandle" ∧ (parseMethodDescriptor y.desc).map (fun d => d.parameters.length) = some n) (hn : As.length = n) (hz : rm'.cells = 1 ∧ rm'.slots = 6) (hR : rm'.frames + 1 ≤ rm.frames ∧ 8 + (maxL + 11) + rm'.locals ≤ rm.locals) (hce : ce + 1 ≤ rm.cells ∧ sl + 6 ≤ rm.slots) (st0 : List Value) (hst : st0 = As.reverse ++ st) (hw : (st.map fun v => v.category).sum ≤ 8)
    (hdg : decode cc pc = .ok (.invokestatic idx, 3)) (pn : Nat) (hp : pc + 3 = pn) (kk : WW x g nL (ce + 1) (sl + 6) pn lv (v.toList ++ st) σ') : WW x g nL ce sl pc lv st0 σ := by
  subst hp
  intro H locs ls hP hS hl
  have hr := vx_runSW (R := x.2.2.2.1) (p := x.1) (e := x.2.2.1) (below := x.2.2.2.2.2.2.2.1) (meth := x.2.2.2.2.2.2.2.2.1) (cells := ce) (slots := sl) (locs := locs) (g := F0 x.2.2.2.2.2.1 pc ls st0) (As := As) (rest := st) (hh := hh) (bytes := bytes) (maxL := maxL) (ret := ret) ⟨C.ex, C.by, C.ml, C.ow, C.ts⟩ hM (vx_cwSW n C.ts (fun w hw => by
      unfold va_wsS at hw
      rcases List.mem_append.mp hw with h | h
      · simp only [List.mem_cons, List.not_mem_nil, or_false] at h
        rcases h with rfl | rfl | rfl
        · exact ⟨hl0, good_of_word (ws_gd hl0)⟩
        · exact ⟨hst9, good_of_word (ws_gd hst9)⟩
        · exact ⟨hini, good_of_word (ws_gd hini)⟩
      · exact ws_gi hcw w h) rfl hz.1 hz.2 hd (by rw [C.ro]; exact hR)) ⟨wx_blind, x_preX C hX hP hS⟩ rfl hn hl.1 hst (lv_room hw) hdg (by rw [C.ro]; exact hce)
  intro T hT X
  obtain ⟨v1, s0, t, T', L, h0, X', hL, e1, e2, ⟨⟨hv, hb⟩, hF⟩, stp⟩ := hr T hT X
  cases hv
  obtain ⟨k1, k2, k3⟩ := vx_keep h0 e1 hS (fun _ _ h => h) (fun _ h => h) hL hF
  obtain ⟨t2, a1, b1⟩ := kk T'.heap (locs ++ L) ls (by rw [e1]; exact hb) k3 hl T' rfl X'
  exact ⟨t2, stp t2 a1, b1⟩
/-- a call that may draw -/
theorem x_callD (C : CF x g own cc nL rm) {y : MethodName} {cw : Cond} {bytes : ByteArray} {maxL n idx ci : Nat} {ret : Option FieldType} {rm' : Room} {dd : Option (Int32 × Int32)} {σ' : WD} {fs : List Value} {T : u_T} {N : Nat} (k : Nat) (As : List Value)
    (hM : MCD x.2.1 g y cw rm' (.ref (adr g k) :: As) σ dd σ') (hI : MI y cw bytes maxL n ret) (hg : (cells g σ)[k]? = some (adr g k, .inr (ci, fs))) (hc : vwCl[ci]? = some (y.cls, T, N)) (hl0 : Cond.methodLink own idx y ∈ WS) (hn : As.length = n) (hz : rm'.cells = 0 ∧ rm'.slots = 0) (hR : rm'.frames + 1 ≤ rm.frames ∧ 8 + (maxL + 11) + rm'.locals ≤ rm.locals) (hce : ce ≤ rm.cells ∧ sl ≤ rm.slots) (st0 : List Value) (hst : st0 = As.reverse ++ .ref (adr g k) :: st) (hw : (st.map fun v => v.category).sum ≤ 8)
    (hdg : decode cc pc = .ok (.invokevirtual idx, 3)) (pn : Nat) (hp : pc + 3 = pn) (kk : ∀ (r : UInt64) (d : Drawn), x.2.2.2.2.1.drawn.sameBut d lw_cs → alike64 r (dvl dd) = true → WW (xdr x d) g nL ce sl pn lv (.double r :: st) σ') : WW x g nL ce sl pc lv st0 σ := by
  subst hp
  obtain ⟨h1, h2, h3, h4, h5, h6, h7, h8⟩ := hI
  subst h1
  intro H locs ls hP hS hl
  have hr := va_runV_D (cs := lw_cs) (R := x.2.2.2.1) (p := x.1) (e := x.2.2.1) (below := x.2.2.2.2.2.2.2.1) (meth := x.2.2.2.2.2.2.2.2.1) (cells := ce) (slots := sl) (locs := locs) (g := F0 x.2.2.2.2.2.1 pc ls st0) (As := As) (rest := st) (C := y.cls) (bytes := bytes) (maxL := maxL) (ret := ret) ⟨C.ex, C.by, C.ml, C.ow, C.ts⟩ hM ⟨callB_of n C.ts (ws_gi h2) rfl hz.1 hz.2 (C.ts _ h5) (C.ts _ hl0) ⟨h6, h7, h8⟩ (by rw [C.ro]; exact hR), C.ts _ h3, C.ts _ h4⟩ ⟨wp_blind, va_recv C.K hP hc hg, x_pre C hP hS⟩ rfl hn hl.1 hst (lv_room hw) hdg (by rw [C.ro]; exact ⟨by omega, by omega⟩)
  intro T hT X
  obtain ⟨v1, s0, t, T', L, d', hd', h0, X', hL, e1, e2, ⟨⟨r, hv, hal, hb⟩, hF⟩, stp⟩ := hr T hT X
  cases hv
  obtain ⟨k1, k2, k3⟩ := vx_keep h0 e1 hS (fun _ _ h => h) (fun _ h => h) hL hF
  obtain ⟨t2, a1, b1⟩ := kk r d' hd' hal T'.heap (locs ++ L) ls (by rw [e1]; exact hb) k3 hl T' rfl X'
  exact ⟨t2, stp t2 a1, b1⟩
theorem x_dcmp (C : CF x g own cc nL rm) {a b : UInt64} {op : CmpOp} (hdg : decode cc pc = .ok (.dcmp op, 1)) (pn : Nat) (hp : pc + 1 = pn) (k : WW x g nL ce sl pn lv (.int (Op.cmpValue (FP.dcmp a b) op) :: st) σ) : WW x g nL ce sl pc lv (.double b :: .double a :: st) σ := by
  subst hp
  exact fun H locs ls hP hS hl => lv_dcmp C.ex C.by hdg (k H locs ls hP hS hl)
end XL
theorem nan_val {r : UInt64} (h : isNaN64 r = true) : FP.Core.val64 r = .nan := by
  have h1 := isNaN64_iff.mp h
  have h2 : r.toNat < 2 ^ 64 := r.toNat_lt
  have e : (0x7fffffffffffffff : Nat) = 2 ^ 63 - 1 := by decide
  rw [e, Nat.and_two_pow_sub_one_eq_mod] at h1
  unfold FP.Core.val64 FP.Core.decode
  have hE : FP.Core.fieldE FP.Core.b64 r.toNat = FP.Core.b64.exps - 1 := by
    simp only [FP.Core.fieldE, FP.Core.Fmt.tails, FP.Core.Fmt.exps, FP.Core.b64]
    omega
  have hT : ¬ FP.Core.fieldT FP.Core.b64 r.toNat = 0 := by
    simp only [FP.Core.fieldT, FP.Core.Fmt.tails, FP.Core.b64]
    omega
  rw [if_pos hE, if_neg hT]
/-- two answers of one double: equal, or both NaN -/
theorem two_alike {r1 r2 v : UInt64} (h1 : alike64 r1 v = true) (h2 : alike64 r2 v = true) : Op.cmpValue (FP.dcmp r1 r2) .l = 0 ∨ (¬ Op.cmpValue (FP.dcmp r1 r1) .l = 0 ∧ ¬ Op.cmpValue (FP.dcmp r2 r2) .l = 0) := by
  by_cases hn : FP.Core.val64 v = .nan
  · right
    have key : ∀ r, alike64 r v = true → FP.Core.val64 r = .nan := by
      intro r hr
      simp only [alike64, Bool.or_eq_true, decide_eq_true_eq, Bool.and_eq_true] at hr
      rcases hr with rfl | ⟨h, -⟩
      · exact hn
      · exact nan_val h
    have e : ∀ r, alike64 r v = true → FP.dcmp r r = none := fun r hr => (FP.Core.dcmp_none r r).mpr (Or.inl (key r hr))
    rw [e r1 h1, e r2 h2]
    exact ⟨by decide, by decide⟩
  · left
    have key : ∀ r, alike64 r v = true → r = v := by
      intro r hr
      simp only [alike64, Bool.or_eq_true, decide_eq_true_eq, Bool.and_eq_true] at hr
      rcases hr with rfl | ⟨-, h⟩
      · rfl
      · exact absurd (nan_val h) hn
    rw [key r1 h1, key r2 h2]
    have e : FP.dcmp v v = some .eq := FP.Core.dcmp_self hn
    rw [e]
    rfl
noncomputable def f_law_1386 (xs : Nat → Int32) (L : Nat) (l4 : Int32) (σ : WD) : Option ((Int32 × WD) ⊕ Unit) :=
  bn (f_X6_meanUse σ) (fun d1 σ1 => bn (f_X7_meanUse σ1) (fun d2 σ2 => if d1 = d2 then some (.inl ((l4 + 4), σ2)) else none))
noncomputable def f_law_272 (xs : Nat → Int32) (L : Nat) (l4 : Int32) (l5 : Int32) (s0 : Int32) (s1 : Int32) (s2 : Int32) (σ : WD) : Option ((Int32 × WD) ⊕ (Unit)) :=
  bn (f_X7_setEdge s2 s1 s0 σ) (fun r272 σ272 => bv (f_X7_thrown σ272) (fun r278 => if r278 = l5 then if l5 = 0 then if (lg_cmp (σ272.2.2) ((r272).toInt64)) = 0 then some (.inl ((l4 + 4), σ272)) else none else some (.inl ((l4 + 4), σ272)) else none))
noncomputable def f_law_239 (xs : Nat → Int32) (L : Nat) (l4 : Int32) (s0 : Int32) (s1 : Int32) (s2 : Int32) (σ : WD) : Option ((Int32 × WD) ⊕ (Unit)) :=
  bn (f_L_setEdge s2 s1 s0 σ) (fun r240 σ240 => gi (l4 + 1) L (gi (l4 + 2) L (gi (l4 + 3) L (if (xs ((l4 + 3) : Int32).toNatClampNeg) = 0 then f_law_272 xs L l4 r240 0 (xs ((l4 + 2) : Int32).toNatClampNeg) (xs ((l4 + 1) : Int32).toNatClampNeg) σ240 else f_law_272 xs L l4 r240 1 (xs ((l4 + 2) : Int32).toNatClampNeg) (xs ((l4 + 1) : Int32).toNatClampNeg) σ240))))
noncomputable def f_law_856 (xs : Nat → Int32) (L : Nat) (l4 : Int32) (l5 : Int32) (s0 : Int32) (s1 : Int32) (σ : WD) : Option ((Int32 × WD) ⊕ (Unit)) :=
  bn (f_X7_reach s1 s0 σ) (fun r856 σ856 => bv (f_X7_thrown σ856) (fun r862 => if r862 = l5 then if l5 = 0 then if (lg_cmp (σ856.2.2) ((r856).toInt64)) = 0 then some (.inl ((l4 + 4), σ856)) else none else some (.inl ((l4 + 4), σ856)) else none))
noncomputable def f_law_829 (xs : Nat → Int32) (L : Nat) (l4 : Int32) (s0 : Int32) (s1 : Int32) (σ : WD) : Option ((Int32 × WD) ⊕ (Unit)) :=
  bn (f_L_reach s1 s0 σ) (fun r830 σ830 => gi (l4 + 1) L (gi (l4 + 2) L (if (xs ((l4 + 2) : Int32).toNatClampNeg) = 0 then f_law_856 xs L l4 r830 0 (xs ((l4 + 1) : Int32).toNatClampNeg) σ830 else f_law_856 xs L l4 r830 1 (xs ((l4 + 1) : Int32).toNatClampNeg) σ830)))
noncomputable def f_law_1022 (xs : Nat → Int32) (L : Nat) (l4 : Int32) (l5 : Int32) (s0 : Int32) (s1 : Int32) (σ : WD) : Option ((Int32 × WD) ⊕ (Unit)) :=
  bn (f_X7_components s1 s0 σ) (fun r1022 σ1022 => bv (f_X7_thrown σ1022) (fun r1028 => if r1028 = l5 then if l5 = 0 then if (lg_cmp (σ1022.2.2) ((r1022).toInt64)) = 0 then some (.inl ((l4 + 4), σ1022)) else none else some (.inl ((l4 + 4), σ1022)) else none))
noncomputable def f_law_995 (xs : Nat → Int32) (L : Nat) (l4 : Int32) (s0 : Int32) (s1 : Int32) (σ : WD) : Option ((Int32 × WD) ⊕ (Unit)) :=
  bn (f_L_components s1 s0 σ) (fun r996 σ996 => gi (l4 + 1) L (gi (l4 + 2) L (if (xs ((l4 + 2) : Int32).toNatClampNeg) = 0 then f_law_1022 xs L l4 r996 0 (xs ((l4 + 1) : Int32).toNatClampNeg) σ996 else f_law_1022 xs L l4 r996 1 (xs ((l4 + 1) : Int32).toNatClampNeg) σ996)))
noncomputable def f_law_b23 (xs : Nat → Int32) (L : Nat) (l4 : Int32) (σ : WD) : Option ((Int32 × WD) ⊕ Unit) :=
  if ((Int32.ofNat L) - 4) < l4 then some (.inr ()) else gi l4 L (if ((xs (l4 : Int32).toNatClampNeg) &&& 31) = 0 then gi (l4 + 1) L (bn (f_L_begin (xs ((l4 + 1) : Int32).toNatClampNeg) σ) (fun r164 σ164 => gi (l4 + 1) L (bn (f_X7_begin (xs ((l4 + 1) : Int32).toNatClampNeg) σ164) (fun r176 σ176 => bv (f_X7_thrown σ176) (fun r182 => if r182 = r164 then if r164 = 0 then if (lg_cmp (σ176.2.2) ((r176).toInt64)) = 0 then some (.inl ((l4 + 4), σ176)) else none else some (.inl ((l4 + 4), σ176)) else none))))) else if ((xs (l4 : Int32).toNatClampNeg) &&& 31) = 1 then gi (l4 + 1) L (gi (l4 + 2) L (gi (l4 + 3) L (if (xs ((l4 + 3) : Int32).toNatClampNeg) = 0 then f_law_239 xs L l4 0 (xs ((l4 + 2) : Int32).toNatClampNeg) (xs ((l4 + 1) : Int32).toNatClampNeg) σ else f_law_239 xs L l4 1 (xs ((l4 + 2) : Int32).toNatClampNeg) (xs ((l4 + 1) : Int32).toNatClampNeg) σ))) else if ((xs (l4 : Int32).toNatClampNeg) &&& 31) = 2 then gi (l4 + 1) L (bn (f_L_append (xs ((l4 + 1) : Int32).toNatClampNeg) σ) (fun r316 σ316 => gi (l4 + 1) L (bn (f_X7_append (xs ((l4 + 1) : Int32).toNatClampNeg) σ316) (fun r328 σ328 => bv (f_X7_thrown σ328) (fun r334 => if r334 = r316 then if r316 = 0 then if (lg_cmp (σ328.2.2) ((r328).toInt64)) = 0 then some (.inl ((l4 + 4), σ328)) else none else some (.inl ((l4 + 4), σ328)) else none))))) else if ((xs (l4 : Int32).toNatClampNeg) &&& 31) = 3 then bn (f_X6_clearInput σ) (fun r365 σ365 => bn (f_X7_clearInput σ365) (fun r369 σ369 => if r365 = r369 then some (.inl ((l4 + 4), σ369)) else none)) else if ((xs (l4 : Int32).toNatClampNeg) &&& 31) = 4 then bv (f_X6_firstError σ) (fun r378 => bn (f_X7_firstError σ) (fun r382 σ382 => if r378 = r382 then some (.inl ((l4 + 4), σ382)) else none)) else if ((xs (l4 : Int32).toNatClampNeg) &&& 31) = 5 then bn (f_L_load σ) (fun r392 σ392 => bn (f_X7_load σ392) (fun r398 σ398 => bv (f_X7_thrown σ398) (fun r404 => if r404 = r392 then if r392 = 0 then if (lg_cmp (σ398.2.2) ((r398).toInt64)) = 0 then some (.inl ((l4 + 4), σ398)) else none else some (.inl ((l4 + 4), σ398)) else none))) else if ((xs (l4 : Int32).toNatClampNeg) &&& 31) = 6 then gi (l4 + 1) L (gi (l4 + 2) L (bn (f_L_match (xs ((l4 + 1) : Int32).toNatClampNeg) (xs ((l4 + 2) : Int32).toNatClampNeg) σ) (fun r448 σ448 => gi (l4 + 1) L (gi (l4 + 2) L (bn (f_X7_match (xs ((l4 + 1) : Int32).toNatClampNeg) (xs ((l4 + 2) : Int32).toNatClampNeg) σ448) (fun r466 σ466 => bv (f_X7_thrown σ466) (fun r472 => if r472 = r448 then if r448 = 0 then if (lg_cmp (σ466.2.2) ((r466).toInt64)) = 0 then some (.inl ((l4 + 4), σ466)) else none else some (.inl ((l4 + 4), σ466)) else none))))))) else if ((xs (l4 : Int32).toNatClampNeg) &&& 31) = 7 then gi (l4 + 1) L (bn (f_L_unmatch (xs ((l4 + 1) : Int32).toNatClampNeg) σ) (fun r510 σ510 => gi (l4 + 1) L (bn (f_X7_unmatch (xs ((l4 + 1) : Int32).toNatClampNeg) σ510) (fun r522 σ522 => bv (f_X7_thrown σ522) (fun r528 => if r528 = r510 then if r510 = 0 then if (lg_cmp (σ522.2.2) ((r522).toInt64)) = 0 then some (.inl ((l4 + 4), σ522)) else none else some (.inl ((l4 + 4), σ522)) else none))))) else if ((xs (l4 : Int32).toNatClampNeg) &&& 31) = 8 then gi (l4 + 1) L (bn (f_L_augment (xs ((l4 + 1) : Int32).toNatClampNeg) σ) (fun r566 σ566 => gi (l4 + 1) L (bn (f_X7_augment (xs ((l4 + 1) : Int32).toNatClampNeg) σ566) (fun r578 σ578 => bv (f_X7_thrown σ578) (fun r584 => if r584 = r566 then if r566 = 0 then if (lg_cmp (σ578.2.2) ((r578).toInt64)) = 0 then some (.inl ((l4 + 4), σ578)) else none else some (.inl ((l4 + 4), σ578)) else none))))) else if ((xs (l4 : Int32).toNatClampNeg) &&& 31) = 9 then bn (f_X6_maximize σ) (fun r615 σ615 => bn (f_X7_maximize σ615) (fun r619 σ619 => if r615 = r619 then some (.inl ((l4 + 4), σ619)) else none)) else if ((xs (l4 : Int32).toNatClampNeg) &&& 31) = 10 then bn (f_X6_takeFirst σ) (fun r628 σ628 => bn (f_X7_takeFirst σ628) (fun r632 σ632 => if r628 = r632 then some (.inl ((l4 + 4), σ632)) else none)) else if ((xs (l4 : Int32).toNatClampNeg) &&& 31) = 11 then bn (f_L_undo σ) (fun r642 σ642 => bn (f_X7_undo σ642) (fun r648 σ648 => bv (f_X7_thrown σ648) (fun r654 => if r654 = r642 then if r642 = 0 then if (lg_cmp (σ648.2.2) ((r648).toInt64)) = 0 then some (.inl ((l4 + 4), σ648)) else none else some (.inl ((l4 + 4), σ648)) else none))) else if ((xs (l4 : Int32).toNatClampNeg) &&& 31) = 12 then gi (l4 + 1) L (bn (f_L_way (xs ((l4 + 1) : Int32).toNatClampNeg) σ) (fun r692 σ692 => gi (l4 + 1) L (bn (f_X7_way (xs ((l4 + 1) : Int32).toNatClampNeg) σ692) (fun r704 σ704 => bv (f_X7_thrown σ704) (fun r710 => if r710 = r692 then if r692 = 0 then if (lg_cmp (σ704.2.2) ((r704).toInt64)) = 0 then some (.inl ((l4 + 4), σ704)) else none else some (.inl ((l4 + 4), σ704)) else none))))) else if ((xs (l4 : Int32).toNatClampNeg) &&& 31) = 13 then gi (l4 + 1) L (gi (l4 + 2) L (bn (f_L_wayNode (xs ((l4 + 1) : Int32).toNatClampNeg) (xs ((l4 + 2) : Int32).toNatClampNeg) σ) (fun r754 σ754 => gi (l4 + 1) L (gi (l4 + 2) L (bn (f_X7_wayNode (xs ((l4 + 1) : Int32).toNatClampNeg) (xs ((l4 + 2) : Int32).toNatClampNeg) σ754) (fun r772 σ772 => bv (f_X7_thrown σ772) (fun r778 => if r778 = r754 then if r754 = 0 then if (lg_cmp (σ772.2.2) ((r772).toInt64)) = 0 then some (.inl ((l4 + 4), σ772)) else none else some (.inl ((l4 + 4), σ772)) else none))))))) else if ((xs (l4 : Int32).toNatClampNeg) &&& 31) = 14 then gi (l4 + 1) L (gi (l4 + 2) L (if (xs ((l4 + 2) : Int32).toNatClampNeg) = 0 then f_law_829 xs L l4 0 (xs ((l4 + 1) : Int32).toNatClampNeg) σ else f_law_829 xs L l4 1 (xs ((l4 + 1) : Int32).toNatClampNeg) σ)) else if ((xs (l4 : Int32).toNatClampNeg) &&& 31) = 15 then bv (f_X6_oddCycle σ) (fun r893 => bn (f_X7_oddCycle σ) (fun r897 σ897 => if r893 = r897 then some (.inl ((l4 + 4), σ897)) else none)) else if ((xs (l4 : Int32).toNatClampNeg) &&& 31) = 16 then gi (l4 + 1) L (bn (f_L_firstMate (xs ((l4 + 1) : Int32).toNatClampNeg) σ) (fun r913 σ913 => gi (l4 + 1) L (bn (f_X7_firstMate (xs ((l4 + 1) : Int32).toNatClampNeg) σ913) (fun r925 σ925 => bv (f_X7_thrown σ925) (fun r931 => if r931 = r913 then if r913 = 0 then if (lg_cmp (σ925.2.2) ((r925).toInt64)) = 0 then some (.inl ((l4 + 4), σ925)) else none else some (.inl ((l4 + 4), σ925)) else none))))) else if ((xs (l4 : Int32).toNatClampNeg) &&& 31) = 17 then bn (f_X6_proof σ) (fun r962 σ962 => bn (f_X7_proof σ962) (fun r966 σ966 => if r962 = r966 then some (.inl ((l4 + 4), σ966)) else none)) else if ((xs (l4 : Int32).toNatClampNeg) &&& 31) = 18 then gi (l4 + 1) L (gi (l4 + 2) L (if (xs ((l4 + 2) : Int32).toNatClampNeg) = 0 then f_law_995 xs L l4 0 (xs ((l4 + 1) : Int32).toNatClampNeg) σ else f_law_995 xs L l4 1 (xs ((l4 + 1) : Int32).toNatClampNeg) σ)) else if ((xs (l4 : Int32).toNatClampNeg) &&& 31) = 19 then gi (l4 + 1) L (gi (l4 + 2) L (bn (f_L_ifChanged (xs ((l4 + 1) : Int32).toNatClampNeg) (xs ((l4 + 2) : Int32).toNatClampNeg) σ) (fun r1072 σ1072 => gi (l4 + 1) L (gi (l4 + 2) L (bn (f_X7_ifChanged (xs ((l4 + 1) : Int32).toNatClampNeg) (xs ((l4 + 2) : Int32).toNatClampNeg) σ1072) (fun r1090 σ1090 => bv (f_X7_thrown σ1090) (fun r1096 => if r1096 = r1072 then if r1072 = 0 then if (lg_cmp (σ1090.2.2) ((r1090).toInt64)) = 0 then some (.inl ((l4 + 4), σ1090)) else none else some (.inl ((l4 + 4), σ1090)) else none))))))) else if ((xs (l4 : Int32).toNatClampNeg) &&& 31) = 20 then gi (l4 + 1) L (gi (l4 + 2) L (bn (f_L_node (xs ((l4 + 1) : Int32).toNatClampNeg) (xs ((l4 + 2) : Int32).toNatClampNeg) σ) (fun r1140 σ1140 => gi (l4 + 1) L (gi (l4 + 2) L (bn (f_X7_node (xs ((l4 + 1) : Int32).toNatClampNeg) (xs ((l4 + 2) : Int32).toNatClampNeg) σ1140) (fun r1158 σ1158 => bv (f_X7_thrown σ1158) (fun r1164 => if r1164 = r1140 then if r1140 = 0 then if (lg_cmp (σ1158.2.2) ((r1158).toInt64)) = 0 then some (.inl ((l4 + 4), σ1158)) else none else some (.inl ((l4 + 4), σ1158)) else none))))))) else if ((xs (l4 : Int32).toNatClampNeg) &&& 31) = 21 then gi (l4 + 1) L (gi (l4 + 2) L (gi (l4 + 3) L (bn (f_L_edge (xs ((l4 + 1) : Int32).toNatClampNeg) (xs ((l4 + 2) : Int32).toNatClampNeg) (xs ((l4 + 3) : Int32).toNatClampNeg) σ) (fun r1214 σ1214 => gi (l4 + 1) L (gi (l4 + 2) L (gi (l4 + 3) L (bn (f_X7_edge (xs ((l4 + 1) : Int32).toNatClampNeg) (xs ((l4 + 2) : Int32).toNatClampNeg) (xs ((l4 + 3) : Int32).toNatClampNeg) σ1214) (fun r1238 σ1238 => bv (f_X7_thrown σ1238) (fun r1244 => if r1244 = r1214 then if r1214 = 0 then if (lg_cmp (σ1238.2.2) ((r1238).toInt64)) = 0 then some (.inl ((l4 + 4), σ1238)) else none else some (.inl ((l4 + 4), σ1238)) else none))))))))) else if ((xs (l4 : Int32).toNatClampNeg) &&& 31) = 22 then gi (l4 + 1) L (bn (f_L_count (xs ((l4 + 1) : Int32).toNatClampNeg) σ) (fun r1282 σ1282 => gi (l4 + 1) L (bn (f_X7_count (xs ((l4 + 1) : Int32).toNatClampNeg) σ1282) (fun r1294 σ1294 => bv (f_X7_thrown σ1294) (fun r1300 => if r1300 = r1282 then if r1282 = 0 then if (lg_cmp (σ1294.2.2) ((r1294).toInt64)) = 0 then some (.inl ((l4 + 4), σ1294)) else none else some (.inl ((l4 + 4), σ1294)) else none))))) else if ((xs (l4 : Int32).toNatClampNeg) &&& 31) = 23 then gi (l4 + 1) L (bn (f_L_difference (xs ((l4 + 1) : Int32).toNatClampNeg) σ) (fun r1338 σ1338 => gi (l4 + 1) L (bn (f_X7_difference (xs ((l4 + 1) : Int32).toNatClampNeg) σ1338) (fun r1350 σ1350 => bv (f_X7_thrown σ1350) (fun r1356 => if r1356 = r1338 then if r1338 = 0 then if (lg_cmp (σ1350.2.2) ((r1350).toInt64)) = 0 then some (.inl ((l4 + 4), σ1350)) else none else some (.inl ((l4 + 4), σ1350)) else none))))) else if ((xs (l4 : Int32).toNatClampNeg) &&& 31) = 24 then f_law_1386 xs L l4 σ else if ((xs (l4 : Int32).toNatClampNeg) &&& 31) = 25 then bn (f_X6_digest σ) (fun r1428 σ1428 => bn (f_X7_digest σ1428) (fun r1432 σ1432 => if (lg_cmp r1428 r1432) = 0 then some (.inl ((l4 + 4), σ1432)) else none)) else some (.inl ((l4 + 4), σ)))
set_option maxHeartbeats 4000000 in
set_option maxRecDepth 100000 in
theorem w_law_1386 {x : Cx} {g : Gb} {b L ce sl : Nat} {xs : Nat → Int32} {E : (Int32 × WD) ⊕ Unit → Prop} (C : CF x g RL cL_law 9 room_1) (S : SC x g b L xs) (hX : XP g x.2.2.2.2.1) (hl9 : x.2.1.stackTraces = false) (ga0 : ce ≤ room_1.cells ∧ sl ≤ room_1.slots) (ga1 : ce + 1 ≤ room_1.cells ∧ sl + 6 ≤ room_1.slots) {l4 : Int32} {σ : WD} (hI0 : ∀ s, E (.inl s) → WW x g 9 (ce + 1) (sl + 6) 23 [(0, .ref b), (1, .ref (adr g 0)), (2, .ref (adr g 29)), (3, .ref (adr g 40)), (4, .int s.1)] [] s.2) (hD : ∀ d, x.2.2.2.2.1.drawn.sameBut d lw_cs → ∀ s, E (.inl s) → WW (xdr x d) g 9 (ce + 1) (sl + 6) 23 [(0, .ref b), (1, .ref (adr g 0)), (2, .ref (adr g 29)), (3, .ref (adr g 40)), (4, .int s.1)] [] s.2) (hE : E (.inr ()) → ∀ pc lv (τ : WD), decode cL_law pc = .ok (.ireturn, 1) → WW x g 9 ce sl pc lv [.int 1] τ) {t : (Int32 × WD) ⊕ Unit} (h : f_law_1386 xs L l4 σ = some t) (ht : E t) : WW x g 9 ce sl 1386 [(0, .ref b), (1, .ref (adr g 0)), (2, .ref (adr g 29)), (3, .ref (adr g 40)), (4, .int l4)] [] σ := by
  unfold f_law_1386 at h
  obtain ⟨d1, σ1, h1, h⟩ := bn_some h
  obtain ⟨d2, σ2, h2, h⟩ := bn_some h
  split at h
  · rename_i hd12
    subst hd12
    cases h
    refine x_aload_n C dL_law_1386 rfl 1 rfl 1387 rfl ?_
    refine x_callD C 0 [] (c_X6_meanUse h1) mi_X6_meanUse (gt_0 g _) rfl q_358 rfl ⟨rfl, rfl⟩ ⟨Nat.le_of_ble_eq_true rfl, Nat.le_of_ble_eq_true rfl⟩ ga0 _ rfl (Nat.le_of_ble_eq_true rfl) dL_law_1387 1390 rfl (fun r1 e1 he1 ha1 => ?_)
    have C1 := C.dr e1
    refine x_dstore C1 [(5, .double r1), (0, .ref b), (1, .ref (adr g 0)), (2, .ref (adr g 29)), (3, .ref (adr g 40)), (4, .int l4)] dL_law_1390 (by decide) rfl 1392 rfl ?_
    refine x_aload_n C1 dL_law_1392 rfl 3 rfl 1393 rfl ?_
    refine x_callD C1 29 [] (c_X7_meanUse h2) mi_X7_meanUse (gt_29 g _) rfl q_1077 rfl ⟨rfl, rfl⟩ ⟨Nat.le_of_ble_eq_true rfl, Nat.le_of_ble_eq_true rfl⟩ ga0 _ rfl (Nat.le_of_ble_eq_true rfl) dL_law_1393 1396 rfl (fun r2 e2 he2 ha2 => ?_)
    have C2 := C1.dr e2
    have hs2 : x.2.2.2.2.1.drawn.sameBut e2 lw_cs := he1.trans he2
    refine x_dstore C2 [(7, .double r2), (5, .double r1), (0, .ref b), (1, .ref (adr g 0)), (2, .ref (adr g 29)), (3, .ref (adr g 40)), (4, .int l4)] dL_law_1396 (by decide) rfl 1398 rfl ?_
    refine x_dload C2 dL_law_1398 1 rfl 1400 rfl ?_
    refine x_dload C2 dL_law_1400 0 rfl 1402 rfl ?_
    refine x_dcmp C2 dL_law_1402 1403 rfl ?_
    have fin : WW (xdr (xdr x e1) e2) g 9 ce sl 1424 [(7, .double r2), (5, .double r1), (0, .ref b), (1, .ref (adr g 0)), (2, .ref (adr g 29)), (3, .ref (adr g 40)), (4, .int l4)] [] σ2 := by
      refine x_goto C2 dL_law_1424 1441 (by decide) ?_
      refine x_iinc C2 [(4, .int (l4 + 4)), (7, .double r2), (5, .double r1), (0, .ref b), (1, .ref (adr g 0)), (2, .ref (adr g 29)), (3, .ref (adr g 40))] dL_law_1441 6 rfl rfl (by decide) rfl 1444 rfl ?_
      refine x_goto C2 dL_law_1444 23 (by decide) ?_
      refine x_wid (Nat.le_succ ce) (Nat.le_add_right sl 6) ?_
      exact x_sub [3, 4, 5, 6, 0] rfl (hD e2 hs2 ((l4 + 4), σ2) ht)
    refine x_if_eq C2 dL_law_1403 1424 (by decide) 1406 rfl (fun _ => fin) (fun hne => ?_)
    rcases two_alike ha1 ha2 with h0 | ⟨hp, hq⟩
    · exact absurd h0 hne
    · refine x_dload C2 dL_law_1406 1 rfl 1408 rfl ?_
      refine x_dload C2 dL_law_1408 1 rfl 1410 rfl ?_
      refine x_dcmp C2 dL_law_1410 1411 rfl ?_
      refine x_if_eq C2 dL_law_1411 1422 (by decide) 1414 rfl (fun h0 => absurd h0 hp) (fun _ => ?_)
      refine x_dload C2 dL_law_1414 0 rfl 1416 rfl ?_
      refine x_dload C2 dL_law_1416 0 rfl 1418 rfl ?_
      refine x_dcmp C2 dL_law_1418 1419 rfl ?_
      exact x_if_ne C2 dL_law_1419 1424 (by decide) 1422 rfl (fun _ => fin) (fun h0 => absurd h0 hq)
  · cases h
set_option maxHeartbeats 4000000 in
set_option maxRecDepth 100000 in
theorem w_law_272 {x : Cx} {g : Gb} {b L ce sl : Nat} {xs : Nat → Int32} {E : (Int32 × WD) ⊕ Unit → Prop} (C : CF x g RL cL_law 9 room_1) (S : SC x g b L xs) (hX : XP g x.2.2.2.2.1) (hl9 : x.2.1.stackTraces = false) (ga0 : ce ≤ room_1.cells ∧ sl ≤ room_1.slots) (ga1 : ce + 1 ≤ room_1.cells ∧ sl + 6 ≤ room_1.slots) {l4 : Int32} {l5 : Int32} {s0 : Int32} {s1 : Int32} {s2 : Int32} {σ : WD} (hI0 : ∀ s, E (.inl s) → WW x g 9 (ce + 1) (sl + 6) 23 [(0, .ref b), (1, .ref (adr g 0)), (2, .ref (adr g 29)), (3, .ref (adr g 40)), (4, .int s.1)] [] s.2) (hD : ∀ d, x.2.2.2.2.1.drawn.sameBut d lw_cs → ∀ s, E (.inl s) → WW (xdr x d) g 9 (ce + 1) (sl + 6) 23 [(0, .ref b), (1, .ref (adr g 0)), (2, .ref (adr g 29)), (3, .ref (adr g 40)), (4, .int s.1)] [] s.2) (hE : E (.inr ()) → ∀ pc lv (τ : WD), decode cL_law pc = .ok (.ireturn, 1) → WW x g 9 ce sl pc lv [.int 1] τ) {t : (Int32 × WD) ⊕ Unit} (h : f_law_272 xs L l4 l5 s0 s1 s2 σ = some t) (ht : E t) : WW x g 9 (ce + 1) (sl + 6) 272 [(0, .ref b), (1, .ref (adr g 0)), (2, .ref (adr g 29)), (3, .ref (adr g 40)), (4, .int l4), (5, .int l5)] [.int s0, .int s1, .int s2, .ref (adr g 29)] σ := by
  unfold f_law_272 at h
  obtain ⟨r272, σ272, h272, h⟩ := bn_some h
  refine x_callV C (st := []) 29 [.int s2, .int s1, .int s0] (c_X7_setEdge  h272) mi_X7_setEdge (gt_29 g _) rfl q_827 rfl ⟨rfl, rfl⟩ ⟨Nat.le_of_ble_eq_true rfl, Nat.le_of_ble_eq_true rfl⟩ ga1 _ rfl (Nat.le_of_ble_eq_true rfl) dL_law_272 275 rfl ?_
  refine x_istore C [(6, .int r272), (0, .ref b), (1, .ref (adr g 0)), (2, .ref (adr g 29)), (3, .ref (adr g 40)), (4, .int l4), (5, .int l5)] dL_law_275 (by decide) rfl 277 rfl ?_
  refine x_aload_n C dL_law_277 rfl 3 rfl 278 rfl ?_
  obtain ⟨r278, h278, h⟩ := bv_some h
  refine x_callV C (st := []) 29 [] (c_X7_thrown  h278) mi_X7_thrown (gt_29 g _) rfl q_816 rfl ⟨rfl, rfl⟩ ⟨Nat.le_of_ble_eq_true rfl, Nat.le_of_ble_eq_true rfl⟩ ga1 _ rfl (Nat.le_of_ble_eq_true rfl) dL_law_278 281 rfl ?_
  refine x_iload C dL_law_281 6 rfl 283 rfl ?_
  refine x_icmp_eq C dL_law_283 288 (by decide) 286 rfl (fun hc => ?_) (fun hc => ?_)
  · have h := ip hc h
    refine x_iload C dL_law_288 6 rfl 290 rfl ?_
    refine x_if_ne C dL_law_290 305 (by decide) 293 rfl (fun hc => ?_) (fun hc => ?_)
    · have h := iq hc h
      refine x_goto C dL_law_305 1441 (by decide) ?_
      refine x_iinc C [(4, .int (l4 + 4)), (6, .int r272), (0, .ref b), (1, .ref (adr g 0)), (2, .ref (adr g 29)), (3, .ref (adr g 40)), (5, .int l5)] dL_law_1441 5 rfl rfl (by decide) rfl 1444 rfl ?_
      refine x_goto C dL_law_1444 23 (by decide) ?_
      cases h
      exact x_sub [2, 3, 4, 5, 0] rfl (hI0 ((l4 + 4), σ272) ht)
    · have h := ip hc h
      refine x_aload_n C dL_law_293 rfl 4 rfl 294 rfl ?_
      refine x_iconst C (v := 0) dL_law_294 (by decide) 295 rfl ?_
      refine x_lald C dL_law_295 296 rfl ?_
      refine x_iload C dL_law_296 0 rfl 298 rfl ?_
      refine x_i2l C dL_law_298 299 rfl ?_
      refine x_lcmp C dL_law_299 300 rfl ?_
      refine x_if_eq C dL_law_300 305 (by decide) 303 rfl (fun hc => ?_) (fun hc => ?_)
      · have h := ip hc h
        refine x_goto C dL_law_305 1441 (by decide) ?_
        refine x_iinc C [(4, .int (l4 + 4)), (6, .int r272), (0, .ref b), (1, .ref (adr g 0)), (2, .ref (adr g 29)), (3, .ref (adr g 40)), (5, .int l5)] dL_law_1441 5 rfl rfl (by decide) rfl 1444 rfl ?_
        refine x_goto C dL_law_1444 23 (by decide) ?_
        cases h
        exact x_sub [2, 3, 4, 5, 0] rfl (hI0 ((l4 + 4), σ272) ht)
      · have h := iq hc h
        refine x_iconst C (v := 0) dL_law_303 (by decide) 304 rfl ?_
        cases h
  · have h := iq hc h
    refine x_iconst C (v := 0) dL_law_286 (by decide) 287 rfl ?_
    cases h
set_option maxHeartbeats 4000000 in
set_option maxRecDepth 100000 in
theorem w_law_239 {x : Cx} {g : Gb} {b L ce sl : Nat} {xs : Nat → Int32} {E : (Int32 × WD) ⊕ Unit → Prop} (C : CF x g RL cL_law 9 room_1) (S : SC x g b L xs) (hX : XP g x.2.2.2.2.1) (hl9 : x.2.1.stackTraces = false) (ga0 : ce ≤ room_1.cells ∧ sl ≤ room_1.slots) (ga1 : ce + 1 ≤ room_1.cells ∧ sl + 6 ≤ room_1.slots) {l4 : Int32} {s0 : Int32} {s1 : Int32} {s2 : Int32} {σ : WD} (hI0 : ∀ s, E (.inl s) → WW x g 9 (ce + 1) (sl + 6) 23 [(0, .ref b), (1, .ref (adr g 0)), (2, .ref (adr g 29)), (3, .ref (adr g 40)), (4, .int s.1)] [] s.2) (hD : ∀ d, x.2.2.2.2.1.drawn.sameBut d lw_cs → ∀ s, E (.inl s) → WW (xdr x d) g 9 (ce + 1) (sl + 6) 23 [(0, .ref b), (1, .ref (adr g 0)), (2, .ref (adr g 29)), (3, .ref (adr g 40)), (4, .int s.1)] [] s.2) (hE : E (.inr ()) → ∀ pc lv (τ : WD), decode cL_law pc = .ok (.ireturn, 1) → WW x g 9 ce sl pc lv [.int 1] τ) {t : (Int32 × WD) ⊕ Unit} (h : f_law_239 xs L l4 s0 s1 s2 σ = some t) (ht : E t) : WW x g 9 ce sl 239 [(0, .ref b), (1, .ref (adr g 0)), (2, .ref (adr g 29)), (3, .ref (adr g 40)), (4, .int l4)] [.int s0, .int s1, .int s2, .ref (adr g 0)] σ := by
  unfold f_law_239 at h
  refine x_aload_n C dL_law_239 rfl 3 rfl 240 rfl ?_
  obtain ⟨r240, σ240, h240, h⟩ := bn_some h
  refine x_callH C hX (n := 5) [.ref (adr g 0), .int s2, .int s1, .int s0, .ref (adr g 40)] (c_L_setEdge hl9 h240) q_600 q_599 q_598 q_0 (by decide +kernel) rfl ⟨rfl, rfl⟩ ⟨Nat.le_of_ble_eq_true rfl, Nat.le_of_ble_eq_true rfl⟩ ga1 _ rfl (Nat.le_of_ble_eq_true rfl) dL_law_240 243 rfl ?_
  refine x_istore C [(5, .int r240), (0, .ref b), (1, .ref (adr g 0)), (2, .ref (adr g 29)), (3, .ref (adr g 40)), (4, .int l4)] dL_law_243 (by decide) rfl 245 rfl ?_
  refine x_aload_n C dL_law_245 rfl 3 rfl 246 rfl ?_
  refine x_aload_n C dL_law_246 rfl 1 rfl 247 rfl ?_
  refine x_iload C dL_law_247 5 rfl 249 rfl ?_
  refine x_iconst C (v := 1) dL_law_249 (by decide) 250 rfl ?_
  refine x_iadd C dL_law_250 251 rfl ?_
  obtain ⟨hin, h⟩ := gi_some h
  refine x_sld C S hin dL_law_251 252 rfl ?_
  refine x_aload_n C dL_law_252 rfl 1 rfl 253 rfl ?_
  refine x_iload C dL_law_253 5 rfl 255 rfl ?_
  refine x_iconst C (v := 2) dL_law_255 (by decide) 256 rfl ?_
  refine x_iadd C dL_law_256 257 rfl ?_
  obtain ⟨hin, h⟩ := gi_some h
  refine x_sld C S hin dL_law_257 258 rfl ?_
  refine x_aload_n C dL_law_258 rfl 1 rfl 259 rfl ?_
  refine x_iload C dL_law_259 5 rfl 261 rfl ?_
  refine x_iconst C (v := 3) dL_law_261 (by decide) 262 rfl ?_
  refine x_iadd C dL_law_262 263 rfl ?_
  obtain ⟨hin, h⟩ := gi_some h
  refine x_sld C S hin dL_law_263 264 rfl ?_
  refine x_if_eq C dL_law_264 271 (by decide) 267 rfl (fun hc => ?_) (fun hc => ?_)
  · have h := ip hc h
    refine x_iconst C (v := 0) dL_law_271 (by decide) 272 rfl ?_
    exact x_sub [1, 2, 3, 4, 5, 0] rfl (w_law_272 C S hX hl9 ga0 ga1 hI0 hD hE h ht)
  · have h := iq hc h
    refine x_iconst C (v := 1) dL_law_267 (by decide) 268 rfl ?_
    refine x_goto C dL_law_268 272 (by decide) ?_
    exact x_sub [1, 2, 3, 4, 5, 0] rfl (w_law_272 C S hX hl9 ga0 ga1 hI0 hD hE h ht)
set_option maxHeartbeats 4000000 in
set_option maxRecDepth 100000 in
theorem w_law_856 {x : Cx} {g : Gb} {b L ce sl : Nat} {xs : Nat → Int32} {E : (Int32 × WD) ⊕ Unit → Prop} (C : CF x g RL cL_law 9 room_1) (S : SC x g b L xs) (hX : XP g x.2.2.2.2.1) (hl9 : x.2.1.stackTraces = false) (ga0 : ce ≤ room_1.cells ∧ sl ≤ room_1.slots) (ga1 : ce + 1 ≤ room_1.cells ∧ sl + 6 ≤ room_1.slots) {l4 : Int32} {l5 : Int32} {s0 : Int32} {s1 : Int32} {σ : WD} (hI0 : ∀ s, E (.inl s) → WW x g 9 (ce + 1) (sl + 6) 23 [(0, .ref b), (1, .ref (adr g 0)), (2, .ref (adr g 29)), (3, .ref (adr g 40)), (4, .int s.1)] [] s.2) (hD : ∀ d, x.2.2.2.2.1.drawn.sameBut d lw_cs → ∀ s, E (.inl s) → WW (xdr x d) g 9 (ce + 1) (sl + 6) 23 [(0, .ref b), (1, .ref (adr g 0)), (2, .ref (adr g 29)), (3, .ref (adr g 40)), (4, .int s.1)] [] s.2) (hE : E (.inr ()) → ∀ pc lv (τ : WD), decode cL_law pc = .ok (.ireturn, 1) → WW x g 9 ce sl pc lv [.int 1] τ) {t : (Int32 × WD) ⊕ Unit} (h : f_law_856 xs L l4 l5 s0 s1 σ = some t) (ht : E t) : WW x g 9 (ce + 1) (sl + 6) 856 [(0, .ref b), (1, .ref (adr g 0)), (2, .ref (adr g 29)), (3, .ref (adr g 40)), (4, .int l4), (5, .int l5)] [.int s0, .int s1, .ref (adr g 29)] σ := by
  unfold f_law_856 at h
  obtain ⟨r856, σ856, h856, h⟩ := bn_some h
  refine x_callV C (st := []) 29 [.int s1, .int s0] (c_X7_reach  h856) mi_X7_reach (gt_29 g _) rfl q_954 rfl ⟨rfl, rfl⟩ ⟨Nat.le_of_ble_eq_true rfl, Nat.le_of_ble_eq_true rfl⟩ ga1 _ rfl (Nat.le_of_ble_eq_true rfl) dL_law_856 859 rfl ?_
  refine x_istore C [(6, .int r856), (0, .ref b), (1, .ref (adr g 0)), (2, .ref (adr g 29)), (3, .ref (adr g 40)), (4, .int l4), (5, .int l5)] dL_law_859 (by decide) rfl 861 rfl ?_
  refine x_aload_n C dL_law_861 rfl 3 rfl 862 rfl ?_
  obtain ⟨r862, h862, h⟩ := bv_some h
  refine x_callV C (st := []) 29 [] (c_X7_thrown  h862) mi_X7_thrown (gt_29 g _) rfl q_816 rfl ⟨rfl, rfl⟩ ⟨Nat.le_of_ble_eq_true rfl, Nat.le_of_ble_eq_true rfl⟩ ga1 _ rfl (Nat.le_of_ble_eq_true rfl) dL_law_862 865 rfl ?_
  refine x_iload C dL_law_865 6 rfl 867 rfl ?_
  refine x_icmp_eq C dL_law_867 872 (by decide) 870 rfl (fun hc => ?_) (fun hc => ?_)
  · have h := ip hc h
    refine x_iload C dL_law_872 6 rfl 874 rfl ?_
    refine x_if_ne C dL_law_874 889 (by decide) 877 rfl (fun hc => ?_) (fun hc => ?_)
    · have h := iq hc h
      refine x_goto C dL_law_889 1441 (by decide) ?_
      refine x_iinc C [(4, .int (l4 + 4)), (6, .int r856), (0, .ref b), (1, .ref (adr g 0)), (2, .ref (adr g 29)), (3, .ref (adr g 40)), (5, .int l5)] dL_law_1441 5 rfl rfl (by decide) rfl 1444 rfl ?_
      refine x_goto C dL_law_1444 23 (by decide) ?_
      cases h
      exact x_sub [2, 3, 4, 5, 0] rfl (hI0 ((l4 + 4), σ856) ht)
    · have h := ip hc h
      refine x_aload_n C dL_law_877 rfl 4 rfl 878 rfl ?_
      refine x_iconst C (v := 0) dL_law_878 (by decide) 879 rfl ?_
      refine x_lald C dL_law_879 880 rfl ?_
      refine x_iload C dL_law_880 0 rfl 882 rfl ?_
      refine x_i2l C dL_law_882 883 rfl ?_
      refine x_lcmp C dL_law_883 884 rfl ?_
      refine x_if_eq C dL_law_884 889 (by decide) 887 rfl (fun hc => ?_) (fun hc => ?_)
      · have h := ip hc h
        refine x_goto C dL_law_889 1441 (by decide) ?_
        refine x_iinc C [(4, .int (l4 + 4)), (6, .int r856), (0, .ref b), (1, .ref (adr g 0)), (2, .ref (adr g 29)), (3, .ref (adr g 40)), (5, .int l5)] dL_law_1441 5 rfl rfl (by decide) rfl 1444 rfl ?_
        refine x_goto C dL_law_1444 23 (by decide) ?_
        cases h
        exact x_sub [2, 3, 4, 5, 0] rfl (hI0 ((l4 + 4), σ856) ht)
      · have h := iq hc h
        refine x_iconst C (v := 0) dL_law_887 (by decide) 888 rfl ?_
        cases h
  · have h := iq hc h
    refine x_iconst C (v := 0) dL_law_870 (by decide) 871 rfl ?_
    cases h
set_option maxHeartbeats 4000000 in
set_option maxRecDepth 100000 in
theorem w_law_829 {x : Cx} {g : Gb} {b L ce sl : Nat} {xs : Nat → Int32} {E : (Int32 × WD) ⊕ Unit → Prop} (C : CF x g RL cL_law 9 room_1) (S : SC x g b L xs) (hX : XP g x.2.2.2.2.1) (hl9 : x.2.1.stackTraces = false) (ga0 : ce ≤ room_1.cells ∧ sl ≤ room_1.slots) (ga1 : ce + 1 ≤ room_1.cells ∧ sl + 6 ≤ room_1.slots) {l4 : Int32} {s0 : Int32} {s1 : Int32} {σ : WD} (hI0 : ∀ s, E (.inl s) → WW x g 9 (ce + 1) (sl + 6) 23 [(0, .ref b), (1, .ref (adr g 0)), (2, .ref (adr g 29)), (3, .ref (adr g 40)), (4, .int s.1)] [] s.2) (hD : ∀ d, x.2.2.2.2.1.drawn.sameBut d lw_cs → ∀ s, E (.inl s) → WW (xdr x d) g 9 (ce + 1) (sl + 6) 23 [(0, .ref b), (1, .ref (adr g 0)), (2, .ref (adr g 29)), (3, .ref (adr g 40)), (4, .int s.1)] [] s.2) (hE : E (.inr ()) → ∀ pc lv (τ : WD), decode cL_law pc = .ok (.ireturn, 1) → WW x g 9 ce sl pc lv [.int 1] τ) {t : (Int32 × WD) ⊕ Unit} (h : f_law_829 xs L l4 s0 s1 σ = some t) (ht : E t) : WW x g 9 ce sl 829 [(0, .ref b), (1, .ref (adr g 0)), (2, .ref (adr g 29)), (3, .ref (adr g 40)), (4, .int l4)] [.int s0, .int s1, .ref (adr g 0)] σ := by
  unfold f_law_829 at h
  refine x_aload_n C dL_law_829 rfl 3 rfl 830 rfl ?_
  obtain ⟨r830, σ830, h830, h⟩ := bn_some h
  refine x_callH C hX (n := 4) [.ref (adr g 0), .int s1, .int s0, .ref (adr g 40)] (c_L_reach hl9 h830) q_704 q_703 q_702 q_0 (by decide +kernel) rfl ⟨rfl, rfl⟩ ⟨Nat.le_of_ble_eq_true rfl, Nat.le_of_ble_eq_true rfl⟩ ga1 _ rfl (Nat.le_of_ble_eq_true rfl) dL_law_830 833 rfl ?_
  refine x_istore C [(5, .int r830), (0, .ref b), (1, .ref (adr g 0)), (2, .ref (adr g 29)), (3, .ref (adr g 40)), (4, .int l4)] dL_law_833 (by decide) rfl 835 rfl ?_
  refine x_aload_n C dL_law_835 rfl 3 rfl 836 rfl ?_
  refine x_aload_n C dL_law_836 rfl 1 rfl 837 rfl ?_
  refine x_iload C dL_law_837 5 rfl 839 rfl ?_
  refine x_iconst C (v := 1) dL_law_839 (by decide) 840 rfl ?_
  refine x_iadd C dL_law_840 841 rfl ?_
  obtain ⟨hin, h⟩ := gi_some h
  refine x_sld C S hin dL_law_841 842 rfl ?_
  refine x_aload_n C dL_law_842 rfl 1 rfl 843 rfl ?_
  refine x_iload C dL_law_843 5 rfl 845 rfl ?_
  refine x_iconst C (v := 2) dL_law_845 (by decide) 846 rfl ?_
  refine x_iadd C dL_law_846 847 rfl ?_
  obtain ⟨hin, h⟩ := gi_some h
  refine x_sld C S hin dL_law_847 848 rfl ?_
  refine x_if_eq C dL_law_848 855 (by decide) 851 rfl (fun hc => ?_) (fun hc => ?_)
  · have h := ip hc h
    refine x_iconst C (v := 0) dL_law_855 (by decide) 856 rfl ?_
    exact x_sub [1, 2, 3, 4, 5, 0] rfl (w_law_856 C S hX hl9 ga0 ga1 hI0 hD hE h ht)
  · have h := iq hc h
    refine x_iconst C (v := 1) dL_law_851 (by decide) 852 rfl ?_
    refine x_goto C dL_law_852 856 (by decide) ?_
    exact x_sub [1, 2, 3, 4, 5, 0] rfl (w_law_856 C S hX hl9 ga0 ga1 hI0 hD hE h ht)
set_option maxHeartbeats 4000000 in
set_option maxRecDepth 100000 in
theorem w_law_1022 {x : Cx} {g : Gb} {b L ce sl : Nat} {xs : Nat → Int32} {E : (Int32 × WD) ⊕ Unit → Prop} (C : CF x g RL cL_law 9 room_1) (S : SC x g b L xs) (hX : XP g x.2.2.2.2.1) (hl9 : x.2.1.stackTraces = false) (ga0 : ce ≤ room_1.cells ∧ sl ≤ room_1.slots) (ga1 : ce + 1 ≤ room_1.cells ∧ sl + 6 ≤ room_1.slots) {l4 : Int32} {l5 : Int32} {s0 : Int32} {s1 : Int32} {σ : WD} (hI0 : ∀ s, E (.inl s) → WW x g 9 (ce + 1) (sl + 6) 23 [(0, .ref b), (1, .ref (adr g 0)), (2, .ref (adr g 29)), (3, .ref (adr g 40)), (4, .int s.1)] [] s.2) (hD : ∀ d, x.2.2.2.2.1.drawn.sameBut d lw_cs → ∀ s, E (.inl s) → WW (xdr x d) g 9 (ce + 1) (sl + 6) 23 [(0, .ref b), (1, .ref (adr g 0)), (2, .ref (adr g 29)), (3, .ref (adr g 40)), (4, .int s.1)] [] s.2) (hE : E (.inr ()) → ∀ pc lv (τ : WD), decode cL_law pc = .ok (.ireturn, 1) → WW x g 9 ce sl pc lv [.int 1] τ) {t : (Int32 × WD) ⊕ Unit} (h : f_law_1022 xs L l4 l5 s0 s1 σ = some t) (ht : E t) : WW x g 9 (ce + 1) (sl + 6) 1022 [(0, .ref b), (1, .ref (adr g 0)), (2, .ref (adr g 29)), (3, .ref (adr g 40)), (4, .int l4), (5, .int l5)] [.int s0, .int s1, .ref (adr g 29)] σ := by
  unfold f_law_1022 at h
  obtain ⟨r1022, σ1022, h1022, h⟩ := bn_some h
  refine x_callV C (st := []) 29 [.int s1, .int s0] (c_X7_components  h1022) mi_X7_components (gt_29 g _) rfl q_997 rfl ⟨rfl, rfl⟩ ⟨Nat.le_of_ble_eq_true rfl, Nat.le_of_ble_eq_true rfl⟩ ga1 _ rfl (Nat.le_of_ble_eq_true rfl) dL_law_1022 1025 rfl ?_
  refine x_istore C [(6, .int r1022), (0, .ref b), (1, .ref (adr g 0)), (2, .ref (adr g 29)), (3, .ref (adr g 40)), (4, .int l4), (5, .int l5)] dL_law_1025 (by decide) rfl 1027 rfl ?_
  refine x_aload_n C dL_law_1027 rfl 3 rfl 1028 rfl ?_
  obtain ⟨r1028, h1028, h⟩ := bv_some h
  refine x_callV C (st := []) 29 [] (c_X7_thrown  h1028) mi_X7_thrown (gt_29 g _) rfl q_816 rfl ⟨rfl, rfl⟩ ⟨Nat.le_of_ble_eq_true rfl, Nat.le_of_ble_eq_true rfl⟩ ga1 _ rfl (Nat.le_of_ble_eq_true rfl) dL_law_1028 1031 rfl ?_
  refine x_iload C dL_law_1031 6 rfl 1033 rfl ?_
  refine x_icmp_eq C dL_law_1033 1038 (by decide) 1036 rfl (fun hc => ?_) (fun hc => ?_)
  · have h := ip hc h
    refine x_iload C dL_law_1038 6 rfl 1040 rfl ?_
    refine x_if_ne C dL_law_1040 1055 (by decide) 1043 rfl (fun hc => ?_) (fun hc => ?_)
    · have h := iq hc h
      refine x_goto C dL_law_1055 1441 (by decide) ?_
      refine x_iinc C [(4, .int (l4 + 4)), (6, .int r1022), (0, .ref b), (1, .ref (adr g 0)), (2, .ref (adr g 29)), (3, .ref (adr g 40)), (5, .int l5)] dL_law_1441 5 rfl rfl (by decide) rfl 1444 rfl ?_
      refine x_goto C dL_law_1444 23 (by decide) ?_
      cases h
      exact x_sub [2, 3, 4, 5, 0] rfl (hI0 ((l4 + 4), σ1022) ht)
    · have h := ip hc h
      refine x_aload_n C dL_law_1043 rfl 4 rfl 1044 rfl ?_
      refine x_iconst C (v := 0) dL_law_1044 (by decide) 1045 rfl ?_
      refine x_lald C dL_law_1045 1046 rfl ?_
      refine x_iload C dL_law_1046 0 rfl 1048 rfl ?_
      refine x_i2l C dL_law_1048 1049 rfl ?_
      refine x_lcmp C dL_law_1049 1050 rfl ?_
      refine x_if_eq C dL_law_1050 1055 (by decide) 1053 rfl (fun hc => ?_) (fun hc => ?_)
      · have h := ip hc h
        refine x_goto C dL_law_1055 1441 (by decide) ?_
        refine x_iinc C [(4, .int (l4 + 4)), (6, .int r1022), (0, .ref b), (1, .ref (adr g 0)), (2, .ref (adr g 29)), (3, .ref (adr g 40)), (5, .int l5)] dL_law_1441 5 rfl rfl (by decide) rfl 1444 rfl ?_
        refine x_goto C dL_law_1444 23 (by decide) ?_
        cases h
        exact x_sub [2, 3, 4, 5, 0] rfl (hI0 ((l4 + 4), σ1022) ht)
      · have h := iq hc h
        refine x_iconst C (v := 0) dL_law_1053 (by decide) 1054 rfl ?_
        cases h
  · have h := iq hc h
    refine x_iconst C (v := 0) dL_law_1036 (by decide) 1037 rfl ?_
    cases h
set_option maxHeartbeats 4000000 in
set_option maxRecDepth 100000 in
theorem w_law_995 {x : Cx} {g : Gb} {b L ce sl : Nat} {xs : Nat → Int32} {E : (Int32 × WD) ⊕ Unit → Prop} (C : CF x g RL cL_law 9 room_1) (S : SC x g b L xs) (hX : XP g x.2.2.2.2.1) (hl9 : x.2.1.stackTraces = false) (ga0 : ce ≤ room_1.cells ∧ sl ≤ room_1.slots) (ga1 : ce + 1 ≤ room_1.cells ∧ sl + 6 ≤ room_1.slots) {l4 : Int32} {s0 : Int32} {s1 : Int32} {σ : WD} (hI0 : ∀ s, E (.inl s) → WW x g 9 (ce + 1) (sl + 6) 23 [(0, .ref b), (1, .ref (adr g 0)), (2, .ref (adr g 29)), (3, .ref (adr g 40)), (4, .int s.1)] [] s.2) (hD : ∀ d, x.2.2.2.2.1.drawn.sameBut d lw_cs → ∀ s, E (.inl s) → WW (xdr x d) g 9 (ce + 1) (sl + 6) 23 [(0, .ref b), (1, .ref (adr g 0)), (2, .ref (adr g 29)), (3, .ref (adr g 40)), (4, .int s.1)] [] s.2) (hE : E (.inr ()) → ∀ pc lv (τ : WD), decode cL_law pc = .ok (.ireturn, 1) → WW x g 9 ce sl pc lv [.int 1] τ) {t : (Int32 × WD) ⊕ Unit} (h : f_law_995 xs L l4 s0 s1 σ = some t) (ht : E t) : WW x g 9 ce sl 995 [(0, .ref b), (1, .ref (adr g 0)), (2, .ref (adr g 29)), (3, .ref (adr g 40)), (4, .int l4)] [.int s0, .int s1, .ref (adr g 0)] σ := by
  unfold f_law_995 at h
  refine x_aload_n C dL_law_995 rfl 3 rfl 996 rfl ?_
  obtain ⟨r996, σ996, h996, h⟩ := bn_some h
  refine x_callH C hX (n := 4) [.ref (adr g 0), .int s1, .int s0, .ref (adr g 40)] (c_L_components hl9 h996) q_712 q_711 q_710 q_0 (by decide +kernel) rfl ⟨rfl, rfl⟩ ⟨Nat.le_of_ble_eq_true rfl, Nat.le_of_ble_eq_true rfl⟩ ga1 _ rfl (Nat.le_of_ble_eq_true rfl) dL_law_996 999 rfl ?_
  refine x_istore C [(5, .int r996), (0, .ref b), (1, .ref (adr g 0)), (2, .ref (adr g 29)), (3, .ref (adr g 40)), (4, .int l4)] dL_law_999 (by decide) rfl 1001 rfl ?_
  refine x_aload_n C dL_law_1001 rfl 3 rfl 1002 rfl ?_
  refine x_aload_n C dL_law_1002 rfl 1 rfl 1003 rfl ?_
  refine x_iload C dL_law_1003 5 rfl 1005 rfl ?_
  refine x_iconst C (v := 1) dL_law_1005 (by decide) 1006 rfl ?_
  refine x_iadd C dL_law_1006 1007 rfl ?_
  obtain ⟨hin, h⟩ := gi_some h
  refine x_sld C S hin dL_law_1007 1008 rfl ?_
  refine x_aload_n C dL_law_1008 rfl 1 rfl 1009 rfl ?_
  refine x_iload C dL_law_1009 5 rfl 1011 rfl ?_
  refine x_iconst C (v := 2) dL_law_1011 (by decide) 1012 rfl ?_
  refine x_iadd C dL_law_1012 1013 rfl ?_
  obtain ⟨hin, h⟩ := gi_some h
  refine x_sld C S hin dL_law_1013 1014 rfl ?_
  refine x_if_eq C dL_law_1014 1021 (by decide) 1017 rfl (fun hc => ?_) (fun hc => ?_)
  · have h := ip hc h
    refine x_iconst C (v := 0) dL_law_1021 (by decide) 1022 rfl ?_
    exact x_sub [1, 2, 3, 4, 5, 0] rfl (w_law_1022 C S hX hl9 ga0 ga1 hI0 hD hE h ht)
  · have h := iq hc h
    refine x_iconst C (v := 1) dL_law_1017 (by decide) 1018 rfl ?_
    refine x_goto C dL_law_1018 1022 (by decide) ?_
    exact x_sub [1, 2, 3, 4, 5, 0] rfl (w_law_1022 C S hX hl9 ga0 ga1 hI0 hD hE h ht)
set_option maxHeartbeats 4000000 in
set_option maxRecDepth 100000 in
theorem w_law_b23 {x : Cx} {g : Gb} {b L ce sl : Nat} {xs : Nat → Int32} {E : (Int32 × WD) ⊕ Unit → Prop} (C : CF x g RL cL_law 9 room_1) (S : SC x g b L xs) (hX : XP g x.2.2.2.2.1) (hl9 : x.2.1.stackTraces = false) (ga0 : ce ≤ room_1.cells ∧ sl ≤ room_1.slots) (ga1 : ce + 1 ≤ room_1.cells ∧ sl + 6 ≤ room_1.slots) {l4 : Int32} {σ : WD} (hI0 : ∀ s, E (.inl s) → WW x g 9 (ce + 1) (sl + 6) 23 [(0, .ref b), (1, .ref (adr g 0)), (2, .ref (adr g 29)), (3, .ref (adr g 40)), (4, .int s.1)] [] s.2) (hD : ∀ d, x.2.2.2.2.1.drawn.sameBut d lw_cs → ∀ s, E (.inl s) → WW (xdr x d) g 9 (ce + 1) (sl + 6) 23 [(0, .ref b), (1, .ref (adr g 0)), (2, .ref (adr g 29)), (3, .ref (adr g 40)), (4, .int s.1)] [] s.2) (hE : E (.inr ()) → ∀ pc lv (τ : WD), decode cL_law pc = .ok (.ireturn, 1) → WW x g 9 ce sl pc lv [.int 1] τ) {t : (Int32 × WD) ⊕ Unit} (h : f_law_b23 xs L l4 σ = some t) (ht : E t) : WW x g 9 ce sl 23 [(0, .ref b), (1, .ref (adr g 0)), (2, .ref (adr g 29)), (3, .ref (adr g 40)), (4, .int l4)] [] σ := by
  unfold f_law_b23 at h
  refine x_iload C dL_law_23 4 rfl 25 rfl ?_
  refine x_aload_n C dL_law_25 rfl 0 rfl 26 rfl ?_
  refine x_slen C S dL_law_26 27 rfl ?_
  refine x_iconst C (v := 4) dL_law_27 (by decide) 28 rfl ?_
  refine x_isub C dL_law_28 29 rfl ?_
  refine x_icmp_gt C dL_law_29 1447 (by decide) 32 rfl (fun hc => ?_) (fun hc => ?_)
  · have h := ip hc h
    refine x_iconst C (v := 1) dL_law_1447 (by decide) 1448 rfl ?_
    cases h
    exact hE ht 1448 _ _ dL_law_1448
  · have h := iq hc h
    refine x_aload_n C dL_law_32 rfl 0 rfl 33 rfl ?_
    refine x_iload C dL_law_33 4 rfl 35 rfl ?_
    obtain ⟨hin, h⟩ := gi_some h
    refine x_sld C S hin dL_law_35 36 rfl ?_
    refine x_bipush C (v := 31) dL_law_36 (by decide) 38 rfl ?_
    refine x_iand C dL_law_38 39 rfl ?_
    by_cases hc0 : ((xs (l4 : Int32).toNatClampNeg) &&& 31) = 0
    · have h := ip hc0 h
      refine x_tabIn C 0 hc0 dL_law_39 117 (by decide +kernel) 156 (by decide) ?_
      refine x_aload_n C dL_law_156 rfl 1 rfl 157 rfl ?_
      refine x_aload_n C dL_law_157 rfl 0 rfl 158 rfl ?_
      refine x_iload C dL_law_158 4 rfl 160 rfl ?_
      refine x_iconst C (v := 1) dL_law_160 (by decide) 161 rfl ?_
      refine x_iadd C dL_law_161 162 rfl ?_
      obtain ⟨hin, h⟩ := gi_some h
      refine x_sld C S hin dL_law_162 163 rfl ?_
      refine x_aload_n C dL_law_163 rfl 3 rfl 164 rfl ?_
      obtain ⟨r164, σ164, h164, h⟩ := bn_some h
      refine x_callH C hX (n := 3) [.ref (adr g 0), .int (xs ((l4 + 1) : Int32).toNatClampNeg), .ref (adr g 40)] (c_L_begin hl9 h164) q_586 q_585 q_584 q_0 (by decide +kernel) rfl ⟨rfl, rfl⟩ ⟨Nat.le_of_ble_eq_true rfl, Nat.le_of_ble_eq_true rfl⟩ ga1 _ rfl (Nat.le_of_ble_eq_true rfl) dL_law_164 167 rfl ?_
      refine x_istore C [(5, .int r164), (0, .ref b), (1, .ref (adr g 0)), (2, .ref (adr g 29)), (3, .ref (adr g 40)), (4, .int l4)] dL_law_167 (by decide) rfl 169 rfl ?_
      refine x_aload_n C dL_law_169 rfl 3 rfl 170 rfl ?_
      refine x_aload_n C dL_law_170 rfl 1 rfl 171 rfl ?_
      refine x_iload C dL_law_171 5 rfl 173 rfl ?_
      refine x_iconst C (v := 1) dL_law_173 (by decide) 174 rfl ?_
      refine x_iadd C dL_law_174 175 rfl ?_
      obtain ⟨hin, h⟩ := gi_some h
      refine x_sld C S hin dL_law_175 176 rfl ?_
      obtain ⟨r176, σ176, h176, h⟩ := bn_some h
      refine x_callV C (st := []) 29 [.int (xs ((l4 + 1) : Int32).toNatClampNeg)] (c_X7_begin  h176) mi_X7_begin (gt_29 g _) rfl q_820 rfl ⟨rfl, rfl⟩ ⟨Nat.le_of_ble_eq_true rfl, Nat.le_of_ble_eq_true rfl⟩ ga1 _ rfl (Nat.le_of_ble_eq_true rfl) dL_law_176 179 rfl ?_
      refine x_istore C [(6, .int r176), (5, .int r164), (0, .ref b), (1, .ref (adr g 0)), (2, .ref (adr g 29)), (3, .ref (adr g 40)), (4, .int l4)] dL_law_179 (by decide) rfl 181 rfl ?_
      refine x_aload_n C dL_law_181 rfl 4 rfl 182 rfl ?_
      obtain ⟨r182, h182, h⟩ := bv_some h
      refine x_callV C (st := []) 29 [] (c_X7_thrown  h182) mi_X7_thrown (gt_29 g _) rfl q_816 rfl ⟨rfl, rfl⟩ ⟨Nat.le_of_ble_eq_true rfl, Nat.le_of_ble_eq_true rfl⟩ ga1 _ rfl (Nat.le_of_ble_eq_true rfl) dL_law_182 185 rfl ?_
      refine x_iload C dL_law_185 1 rfl 187 rfl ?_
      refine x_icmp_eq C dL_law_187 192 (by decide) 190 rfl (fun hc => ?_) (fun hc => ?_)
      · have h := ip hc h
        refine x_iload C dL_law_192 1 rfl 194 rfl ?_
        refine x_if_ne C dL_law_194 209 (by decide) 197 rfl (fun hc => ?_) (fun hc => ?_)
        · have h := iq hc h
          refine x_goto C dL_law_209 1441 (by decide) ?_
          refine x_iinc C [(4, .int (l4 + 4)), (6, .int r176), (5, .int r164), (0, .ref b), (1, .ref (adr g 0)), (2, .ref (adr g 29)), (3, .ref (adr g 40))] dL_law_1441 6 rfl rfl (by decide) rfl 1444 rfl ?_
          refine x_goto C dL_law_1444 23 (by decide) ?_
          cases h
          exact x_sub [3, 4, 5, 6, 0] rfl (hI0 ((l4 + 4), σ176) ht)
        · have h := ip hc h
          refine x_aload_n C dL_law_197 rfl 5 rfl 198 rfl ?_
          refine x_iconst C (v := 0) dL_law_198 (by decide) 199 rfl ?_
          refine x_lald C dL_law_199 200 rfl ?_
          refine x_iload C dL_law_200 0 rfl 202 rfl ?_
          refine x_i2l C dL_law_202 203 rfl ?_
          refine x_lcmp C dL_law_203 204 rfl ?_
          refine x_if_eq C dL_law_204 209 (by decide) 207 rfl (fun hc => ?_) (fun hc => ?_)
          · have h := ip hc h
            refine x_goto C dL_law_209 1441 (by decide) ?_
            refine x_iinc C [(4, .int (l4 + 4)), (6, .int r176), (5, .int r164), (0, .ref b), (1, .ref (adr g 0)), (2, .ref (adr g 29)), (3, .ref (adr g 40))] dL_law_1441 6 rfl rfl (by decide) rfl 1444 rfl ?_
            refine x_goto C dL_law_1444 23 (by decide) ?_
            cases h
            exact x_sub [3, 4, 5, 6, 0] rfl (hI0 ((l4 + 4), σ176) ht)
          · have h := iq hc h
            refine x_iconst C (v := 0) dL_law_207 (by decide) 208 rfl ?_
            cases h
      · have h := iq hc h
        refine x_iconst C (v := 0) dL_law_190 (by decide) 191 rfl ?_
        cases h
    · have h := iq hc0 h
      by_cases hc1 : ((xs (l4 : Int32).toNatClampNeg) &&& 31) = 1
      · have h := ip hc1 h
        refine x_tabIn C 1 hc1 dL_law_39 173 (by decide +kernel) 212 (by decide) ?_
        refine x_aload_n C dL_law_212 rfl 1 rfl 213 rfl ?_
        refine x_aload_n C dL_law_213 rfl 0 rfl 214 rfl ?_
        refine x_iload C dL_law_214 4 rfl 216 rfl ?_
        refine x_iconst C (v := 1) dL_law_216 (by decide) 217 rfl ?_
        refine x_iadd C dL_law_217 218 rfl ?_
        obtain ⟨hin, h⟩ := gi_some h
        refine x_sld C S hin dL_law_218 219 rfl ?_
        refine x_aload_n C dL_law_219 rfl 0 rfl 220 rfl ?_
        refine x_iload C dL_law_220 4 rfl 222 rfl ?_
        refine x_iconst C (v := 2) dL_law_222 (by decide) 223 rfl ?_
        refine x_iadd C dL_law_223 224 rfl ?_
        obtain ⟨hin, h⟩ := gi_some h
        refine x_sld C S hin dL_law_224 225 rfl ?_
        refine x_aload_n C dL_law_225 rfl 0 rfl 226 rfl ?_
        refine x_iload C dL_law_226 4 rfl 228 rfl ?_
        refine x_iconst C (v := 3) dL_law_228 (by decide) 229 rfl ?_
        refine x_iadd C dL_law_229 230 rfl ?_
        obtain ⟨hin, h⟩ := gi_some h
        refine x_sld C S hin dL_law_230 231 rfl ?_
        refine x_if_eq C dL_law_231 238 (by decide) 234 rfl (fun hc => ?_) (fun hc => ?_)
        · have h := ip hc h
          refine x_iconst C (v := 0) dL_law_238 (by decide) 239 rfl ?_
          exact x_sub [0, 1, 2, 3, 4] rfl (w_law_239 C S hX hl9 ga0 ga1 hI0 hD hE h ht)
        · have h := iq hc h
          refine x_iconst C (v := 1) dL_law_234 (by decide) 235 rfl ?_
          refine x_goto C dL_law_235 239 (by decide) ?_
          exact x_sub [0, 1, 2, 3, 4] rfl (w_law_239 C S hX hl9 ga0 ga1 hI0 hD hE h ht)
      · have h := iq hc1 h
        by_cases hc2 : ((xs (l4 : Int32).toNatClampNeg) &&& 31) = 2
        · have h := ip hc2 h
          refine x_tabIn C 2 hc2 dL_law_39 269 (by decide +kernel) 308 (by decide) ?_
          refine x_aload_n C dL_law_308 rfl 1 rfl 309 rfl ?_
          refine x_aload_n C dL_law_309 rfl 0 rfl 310 rfl ?_
          refine x_iload C dL_law_310 4 rfl 312 rfl ?_
          refine x_iconst C (v := 1) dL_law_312 (by decide) 313 rfl ?_
          refine x_iadd C dL_law_313 314 rfl ?_
          obtain ⟨hin, h⟩ := gi_some h
          refine x_sld C S hin dL_law_314 315 rfl ?_
          refine x_aload_n C dL_law_315 rfl 3 rfl 316 rfl ?_
          obtain ⟨r316, σ316, h316, h⟩ := bn_some h
          refine x_callH C hX (n := 3) [.ref (adr g 0), .int (xs ((l4 + 1) : Int32).toNatClampNeg), .ref (adr g 40)] (c_L_append hl9 h316) q_616 q_615 q_614 q_0 (by decide +kernel) rfl ⟨rfl, rfl⟩ ⟨Nat.le_of_ble_eq_true rfl, Nat.le_of_ble_eq_true rfl⟩ ga1 _ rfl (Nat.le_of_ble_eq_true rfl) dL_law_316 319 rfl ?_
          refine x_istore C [(5, .int r316), (0, .ref b), (1, .ref (adr g 0)), (2, .ref (adr g 29)), (3, .ref (adr g 40)), (4, .int l4)] dL_law_319 (by decide) rfl 321 rfl ?_
          refine x_aload_n C dL_law_321 rfl 3 rfl 322 rfl ?_
          refine x_aload_n C dL_law_322 rfl 1 rfl 323 rfl ?_
          refine x_iload C dL_law_323 5 rfl 325 rfl ?_
          refine x_iconst C (v := 1) dL_law_325 (by decide) 326 rfl ?_
          refine x_iadd C dL_law_326 327 rfl ?_
          obtain ⟨hin, h⟩ := gi_some h
          refine x_sld C S hin dL_law_327 328 rfl ?_
          obtain ⟨r328, σ328, h328, h⟩ := bn_some h
          refine x_callV C (st := []) 29 [.int (xs ((l4 + 1) : Int32).toNatClampNeg)] (c_X7_append  h328) mi_X7_append (gt_29 g _) rfl q_850 rfl ⟨rfl, rfl⟩ ⟨Nat.le_of_ble_eq_true rfl, Nat.le_of_ble_eq_true rfl⟩ ga1 _ rfl (Nat.le_of_ble_eq_true rfl) dL_law_328 331 rfl ?_
          refine x_istore C [(6, .int r328), (5, .int r316), (0, .ref b), (1, .ref (adr g 0)), (2, .ref (adr g 29)), (3, .ref (adr g 40)), (4, .int l4)] dL_law_331 (by decide) rfl 333 rfl ?_
          refine x_aload_n C dL_law_333 rfl 4 rfl 334 rfl ?_
          obtain ⟨r334, h334, h⟩ := bv_some h
          refine x_callV C (st := []) 29 [] (c_X7_thrown  h334) mi_X7_thrown (gt_29 g _) rfl q_816 rfl ⟨rfl, rfl⟩ ⟨Nat.le_of_ble_eq_true rfl, Nat.le_of_ble_eq_true rfl⟩ ga1 _ rfl (Nat.le_of_ble_eq_true rfl) dL_law_334 337 rfl ?_
          refine x_iload C dL_law_337 1 rfl 339 rfl ?_
          refine x_icmp_eq C dL_law_339 344 (by decide) 342 rfl (fun hc => ?_) (fun hc => ?_)
          · have h := ip hc h
            refine x_iload C dL_law_344 1 rfl 346 rfl ?_
            refine x_if_ne C dL_law_346 361 (by decide) 349 rfl (fun hc => ?_) (fun hc => ?_)
            · have h := iq hc h
              refine x_goto C dL_law_361 1441 (by decide) ?_
              refine x_iinc C [(4, .int (l4 + 4)), (6, .int r328), (5, .int r316), (0, .ref b), (1, .ref (adr g 0)), (2, .ref (adr g 29)), (3, .ref (adr g 40))] dL_law_1441 6 rfl rfl (by decide) rfl 1444 rfl ?_
              refine x_goto C dL_law_1444 23 (by decide) ?_
              cases h
              exact x_sub [3, 4, 5, 6, 0] rfl (hI0 ((l4 + 4), σ328) ht)
            · have h := ip hc h
              refine x_aload_n C dL_law_349 rfl 5 rfl 350 rfl ?_
              refine x_iconst C (v := 0) dL_law_350 (by decide) 351 rfl ?_
              refine x_lald C dL_law_351 352 rfl ?_
              refine x_iload C dL_law_352 0 rfl 354 rfl ?_
              refine x_i2l C dL_law_354 355 rfl ?_
              refine x_lcmp C dL_law_355 356 rfl ?_
              refine x_if_eq C dL_law_356 361 (by decide) 359 rfl (fun hc => ?_) (fun hc => ?_)
              · have h := ip hc h
                refine x_goto C dL_law_361 1441 (by decide) ?_
                refine x_iinc C [(4, .int (l4 + 4)), (6, .int r328), (5, .int r316), (0, .ref b), (1, .ref (adr g 0)), (2, .ref (adr g 29)), (3, .ref (adr g 40))] dL_law_1441 6 rfl rfl (by decide) rfl 1444 rfl ?_
                refine x_goto C dL_law_1444 23 (by decide) ?_
                cases h
                exact x_sub [3, 4, 5, 6, 0] rfl (hI0 ((l4 + 4), σ328) ht)
              · have h := iq hc h
                refine x_iconst C (v := 0) dL_law_359 (by decide) 360 rfl ?_
                cases h
          · have h := iq hc h
            refine x_iconst C (v := 0) dL_law_342 (by decide) 343 rfl ?_
            cases h
        · have h := iq hc2 h
          by_cases hc3 : ((xs (l4 : Int32).toNatClampNeg) &&& 31) = 3
          · have h := ip hc3 h
            refine x_tabIn C 3 hc3 dL_law_39 325 (by decide +kernel) 364 (by decide) ?_
            refine x_aload_n C dL_law_364 rfl 1 rfl 365 rfl ?_
            obtain ⟨r365, σ365, h365, h⟩ := bn_some h
            refine x_callV C (st := []) 0 [] (c_X6_clearInput  h365) mi_X6_clearInput (gt_0 g _) rfl q_184 rfl ⟨rfl, rfl⟩ ⟨Nat.le_of_ble_eq_true rfl, Nat.le_of_ble_eq_true rfl⟩ ga0 _ rfl (Nat.le_of_ble_eq_true rfl) dL_law_365 368 rfl ?_
            refine x_aload_n C dL_law_368 rfl 2 rfl 369 rfl ?_
            obtain ⟨r369, σ369, h369, h⟩ := bn_some h
            refine x_callV C (st := [.int r365]) 29 [] (c_X7_clearInput  h369) mi_X7_clearInput (gt_29 g _) rfl q_854 rfl ⟨rfl, rfl⟩ ⟨Nat.le_of_ble_eq_true rfl, Nat.le_of_ble_eq_true rfl⟩ ga0 _ rfl (Nat.le_of_ble_eq_true rfl) dL_law_369 372 rfl ?_
            refine x_icmp_eq C dL_law_372 1441 (by decide) 375 rfl (fun hc => ?_) (fun hc => ?_)
            · have h := ip hc h
              refine x_iinc C [(4, .int (l4 + 4)), (0, .ref b), (1, .ref (adr g 0)), (2, .ref (adr g 29)), (3, .ref (adr g 40))] dL_law_1441 4 rfl rfl (by decide) rfl 1444 rfl ?_
              refine x_goto C dL_law_1444 23 (by decide) ?_
              cases h
              refine x_wid (Nat.le_succ ce) (Nat.le_add_right sl 6) ?_
              exact x_sub [1, 2, 3, 4, 0] rfl (hI0 ((l4 + 4), σ369) ht)
            · have h := iq hc h
              refine x_iconst C (v := 0) dL_law_375 (by decide) 376 rfl ?_
              cases h
          · have h := iq hc3 h
            by_cases hc4 : ((xs (l4 : Int32).toNatClampNeg) &&& 31) = 4
            · have h := ip hc4 h
              refine x_tabIn C 4 hc4 dL_law_39 338 (by decide +kernel) 377 (by decide) ?_
              refine x_aload_n C dL_law_377 rfl 1 rfl 378 rfl ?_
              obtain ⟨r378, h378, h⟩ := bv_some h
              refine x_callV C (st := []) 0 [] (c_X6_firstError  h378) mi_X6_firstError (gt_0 g _) rfl q_188 rfl ⟨rfl, rfl⟩ ⟨Nat.le_of_ble_eq_true rfl, Nat.le_of_ble_eq_true rfl⟩ ga0 _ rfl (Nat.le_of_ble_eq_true rfl) dL_law_378 381 rfl ?_
              refine x_aload_n C dL_law_381 rfl 2 rfl 382 rfl ?_
              obtain ⟨r382, σ382, h382, h⟩ := bn_some h
              refine x_callV C (st := [.int r378]) 29 [] (c_X7_firstError  h382) mi_X7_firstError (gt_29 g _) rfl q_858 rfl ⟨rfl, rfl⟩ ⟨Nat.le_of_ble_eq_true rfl, Nat.le_of_ble_eq_true rfl⟩ ga0 _ rfl (Nat.le_of_ble_eq_true rfl) dL_law_382 385 rfl ?_
              refine x_icmp_eq C dL_law_385 1441 (by decide) 388 rfl (fun hc => ?_) (fun hc => ?_)
              · have h := ip hc h
                refine x_iinc C [(4, .int (l4 + 4)), (0, .ref b), (1, .ref (adr g 0)), (2, .ref (adr g 29)), (3, .ref (adr g 40))] dL_law_1441 4 rfl rfl (by decide) rfl 1444 rfl ?_
                refine x_goto C dL_law_1444 23 (by decide) ?_
                cases h
                refine x_wid (Nat.le_succ ce) (Nat.le_add_right sl 6) ?_
                exact x_sub [1, 2, 3, 4, 0] rfl (hI0 ((l4 + 4), σ382) ht)
              · have h := iq hc h
                refine x_iconst C (v := 0) dL_law_388 (by decide) 389 rfl ?_
                cases h
            · have h := iq hc4 h
              by_cases hc5 : ((xs (l4 : Int32).toNatClampNeg) &&& 31) = 5
              · have h := ip hc5 h
                refine x_tabIn C 5 hc5 dL_law_39 351 (by decide +kernel) 390 (by decide) ?_
                refine x_aload_n C dL_law_390 rfl 1 rfl 391 rfl ?_
                refine x_aload_n C dL_law_391 rfl 3 rfl 392 rfl ?_
                obtain ⟨r392, σ392, h392, h⟩ := bn_some h
                refine x_callH C hX (n := 2) [.ref (adr g 0), .ref (adr g 40)] (c_L_load hl9 h392) q_630 q_629 q_628 q_0 (by decide +kernel) rfl ⟨rfl, rfl⟩ ⟨Nat.le_of_ble_eq_true rfl, Nat.le_of_ble_eq_true rfl⟩ ga1 _ rfl (Nat.le_of_ble_eq_true rfl) dL_law_392 395 rfl ?_
                refine x_istore C [(5, .int r392), (0, .ref b), (1, .ref (adr g 0)), (2, .ref (adr g 29)), (3, .ref (adr g 40)), (4, .int l4)] dL_law_395 (by decide) rfl 397 rfl ?_
                refine x_aload_n C dL_law_397 rfl 3 rfl 398 rfl ?_
                obtain ⟨r398, σ398, h398, h⟩ := bn_some h
                refine x_callV C (st := []) 29 [] (c_X7_load  h398) mi_X7_load (gt_29 g _) rfl q_870 rfl ⟨rfl, rfl⟩ ⟨Nat.le_of_ble_eq_true rfl, Nat.le_of_ble_eq_true rfl⟩ ga1 _ rfl (Nat.le_of_ble_eq_true rfl) dL_law_398 401 rfl ?_
                refine x_istore C [(6, .int r398), (5, .int r392), (0, .ref b), (1, .ref (adr g 0)), (2, .ref (adr g 29)), (3, .ref (adr g 40)), (4, .int l4)] dL_law_401 (by decide) rfl 403 rfl ?_
                refine x_aload_n C dL_law_403 rfl 4 rfl 404 rfl ?_
                obtain ⟨r404, h404, h⟩ := bv_some h
                refine x_callV C (st := []) 29 [] (c_X7_thrown  h404) mi_X7_thrown (gt_29 g _) rfl q_816 rfl ⟨rfl, rfl⟩ ⟨Nat.le_of_ble_eq_true rfl, Nat.le_of_ble_eq_true rfl⟩ ga1 _ rfl (Nat.le_of_ble_eq_true rfl) dL_law_404 407 rfl ?_
                refine x_iload C dL_law_407 1 rfl 409 rfl ?_
                refine x_icmp_eq C dL_law_409 414 (by decide) 412 rfl (fun hc => ?_) (fun hc => ?_)
                · have h := ip hc h
                  refine x_iload C dL_law_414 1 rfl 416 rfl ?_
                  refine x_if_ne C dL_law_416 431 (by decide) 419 rfl (fun hc => ?_) (fun hc => ?_)
                  · have h := iq hc h
                    refine x_goto C dL_law_431 1441 (by decide) ?_
                    refine x_iinc C [(4, .int (l4 + 4)), (6, .int r398), (5, .int r392), (0, .ref b), (1, .ref (adr g 0)), (2, .ref (adr g 29)), (3, .ref (adr g 40))] dL_law_1441 6 rfl rfl (by decide) rfl 1444 rfl ?_
                    refine x_goto C dL_law_1444 23 (by decide) ?_
                    cases h
                    exact x_sub [3, 4, 5, 6, 0] rfl (hI0 ((l4 + 4), σ398) ht)
                  · have h := ip hc h
                    refine x_aload_n C dL_law_419 rfl 5 rfl 420 rfl ?_
                    refine x_iconst C (v := 0) dL_law_420 (by decide) 421 rfl ?_
                    refine x_lald C dL_law_421 422 rfl ?_
                    refine x_iload C dL_law_422 0 rfl 424 rfl ?_
                    refine x_i2l C dL_law_424 425 rfl ?_
                    refine x_lcmp C dL_law_425 426 rfl ?_
                    refine x_if_eq C dL_law_426 431 (by decide) 429 rfl (fun hc => ?_) (fun hc => ?_)
                    · have h := ip hc h
                      refine x_goto C dL_law_431 1441 (by decide) ?_
                      refine x_iinc C [(4, .int (l4 + 4)), (6, .int r398), (5, .int r392), (0, .ref b), (1, .ref (adr g 0)), (2, .ref (adr g 29)), (3, .ref (adr g 40))] dL_law_1441 6 rfl rfl (by decide) rfl 1444 rfl ?_
                      refine x_goto C dL_law_1444 23 (by decide) ?_
                      cases h
                      exact x_sub [3, 4, 5, 6, 0] rfl (hI0 ((l4 + 4), σ398) ht)
                    · have h := iq hc h
                      refine x_iconst C (v := 0) dL_law_429 (by decide) 430 rfl ?_
                      cases h
                · have h := iq hc h
                  refine x_iconst C (v := 0) dL_law_412 (by decide) 413 rfl ?_
                  cases h
              · have h := iq hc5 h
                by_cases hc6 : ((xs (l4 : Int32).toNatClampNeg) &&& 31) = 6
                · have h := ip hc6 h
                  refine x_tabIn C 6 hc6 dL_law_39 395 (by decide +kernel) 434 (by decide) ?_
                  refine x_aload_n C dL_law_434 rfl 1 rfl 435 rfl ?_
                  refine x_aload_n C dL_law_435 rfl 0 rfl 436 rfl ?_
                  refine x_iload C dL_law_436 4 rfl 438 rfl ?_
                  refine x_iconst C (v := 1) dL_law_438 (by decide) 439 rfl ?_
                  refine x_iadd C dL_law_439 440 rfl ?_
                  obtain ⟨hin, h⟩ := gi_some h
                  refine x_sld C S hin dL_law_440 441 rfl ?_
                  refine x_aload_n C dL_law_441 rfl 0 rfl 442 rfl ?_
                  refine x_iload C dL_law_442 4 rfl 444 rfl ?_
                  refine x_iconst C (v := 2) dL_law_444 (by decide) 445 rfl ?_
                  refine x_iadd C dL_law_445 446 rfl ?_
                  obtain ⟨hin, h⟩ := gi_some h
                  refine x_sld C S hin dL_law_446 447 rfl ?_
                  refine x_aload_n C dL_law_447 rfl 3 rfl 448 rfl ?_
                  obtain ⟨r448, σ448, h448, h⟩ := bn_some h
                  refine x_callH C hX (n := 4) [.ref (adr g 0), .int (xs ((l4 + 1) : Int32).toNatClampNeg), .int (xs ((l4 + 2) : Int32).toNatClampNeg), .ref (adr g 40)] (c_L_match hl9 h448) q_652 q_651 q_650 q_0 (by decide +kernel) rfl ⟨rfl, rfl⟩ ⟨Nat.le_of_ble_eq_true rfl, Nat.le_of_ble_eq_true rfl⟩ ga1 _ rfl (Nat.le_of_ble_eq_true rfl) dL_law_448 451 rfl ?_
                  refine x_istore C [(5, .int r448), (0, .ref b), (1, .ref (adr g 0)), (2, .ref (adr g 29)), (3, .ref (adr g 40)), (4, .int l4)] dL_law_451 (by decide) rfl 453 rfl ?_
                  refine x_aload_n C dL_law_453 rfl 3 rfl 454 rfl ?_
                  refine x_aload_n C dL_law_454 rfl 1 rfl 455 rfl ?_
                  refine x_iload C dL_law_455 5 rfl 457 rfl ?_
                  refine x_iconst C (v := 1) dL_law_457 (by decide) 458 rfl ?_
                  refine x_iadd C dL_law_458 459 rfl ?_
                  obtain ⟨hin, h⟩ := gi_some h
                  refine x_sld C S hin dL_law_459 460 rfl ?_
                  refine x_aload_n C dL_law_460 rfl 1 rfl 461 rfl ?_
                  refine x_iload C dL_law_461 5 rfl 463 rfl ?_
                  refine x_iconst C (v := 2) dL_law_463 (by decide) 464 rfl ?_
                  refine x_iadd C dL_law_464 465 rfl ?_
                  obtain ⟨hin, h⟩ := gi_some h
                  refine x_sld C S hin dL_law_465 466 rfl ?_
                  obtain ⟨r466, σ466, h466, h⟩ := bn_some h
                  refine x_callV C (st := []) 29 [.int (xs ((l4 + 1) : Int32).toNatClampNeg), .int (xs ((l4 + 2) : Int32).toNatClampNeg)] (c_X7_match  h466) mi_X7_match (gt_29 g _) rfl q_878 rfl ⟨rfl, rfl⟩ ⟨Nat.le_of_ble_eq_true rfl, Nat.le_of_ble_eq_true rfl⟩ ga1 _ rfl (Nat.le_of_ble_eq_true rfl) dL_law_466 469 rfl ?_
                  refine x_istore C [(6, .int r466), (5, .int r448), (0, .ref b), (1, .ref (adr g 0)), (2, .ref (adr g 29)), (3, .ref (adr g 40)), (4, .int l4)] dL_law_469 (by decide) rfl 471 rfl ?_
                  refine x_aload_n C dL_law_471 rfl 4 rfl 472 rfl ?_
                  obtain ⟨r472, h472, h⟩ := bv_some h
                  refine x_callV C (st := []) 29 [] (c_X7_thrown  h472) mi_X7_thrown (gt_29 g _) rfl q_816 rfl ⟨rfl, rfl⟩ ⟨Nat.le_of_ble_eq_true rfl, Nat.le_of_ble_eq_true rfl⟩ ga1 _ rfl (Nat.le_of_ble_eq_true rfl) dL_law_472 475 rfl ?_
                  refine x_iload C dL_law_475 1 rfl 477 rfl ?_
                  refine x_icmp_eq C dL_law_477 482 (by decide) 480 rfl (fun hc => ?_) (fun hc => ?_)
                  · have h := ip hc h
                    refine x_iload C dL_law_482 1 rfl 484 rfl ?_
                    refine x_if_ne C dL_law_484 499 (by decide) 487 rfl (fun hc => ?_) (fun hc => ?_)
                    · have h := iq hc h
                      refine x_goto C dL_law_499 1441 (by decide) ?_
                      refine x_iinc C [(4, .int (l4 + 4)), (6, .int r466), (5, .int r448), (0, .ref b), (1, .ref (adr g 0)), (2, .ref (adr g 29)), (3, .ref (adr g 40))] dL_law_1441 6 rfl rfl (by decide) rfl 1444 rfl ?_
                      refine x_goto C dL_law_1444 23 (by decide) ?_
                      cases h
                      exact x_sub [3, 4, 5, 6, 0] rfl (hI0 ((l4 + 4), σ466) ht)
                    · have h := ip hc h
                      refine x_aload_n C dL_law_487 rfl 5 rfl 488 rfl ?_
                      refine x_iconst C (v := 0) dL_law_488 (by decide) 489 rfl ?_
                      refine x_lald C dL_law_489 490 rfl ?_
                      refine x_iload C dL_law_490 0 rfl 492 rfl ?_
                      refine x_i2l C dL_law_492 493 rfl ?_
                      refine x_lcmp C dL_law_493 494 rfl ?_
                      refine x_if_eq C dL_law_494 499 (by decide) 497 rfl (fun hc => ?_) (fun hc => ?_)
                      · have h := ip hc h
                        refine x_goto C dL_law_499 1441 (by decide) ?_
                        refine x_iinc C [(4, .int (l4 + 4)), (6, .int r466), (5, .int r448), (0, .ref b), (1, .ref (adr g 0)), (2, .ref (adr g 29)), (3, .ref (adr g 40))] dL_law_1441 6 rfl rfl (by decide) rfl 1444 rfl ?_
                        refine x_goto C dL_law_1444 23 (by decide) ?_
                        cases h
                        exact x_sub [3, 4, 5, 6, 0] rfl (hI0 ((l4 + 4), σ466) ht)
                      · have h := iq hc h
                        refine x_iconst C (v := 0) dL_law_497 (by decide) 498 rfl ?_
                        cases h
                  · have h := iq hc h
                    refine x_iconst C (v := 0) dL_law_480 (by decide) 481 rfl ?_
                    cases h
                · have h := iq hc6 h
                  by_cases hc7 : ((xs (l4 : Int32).toNatClampNeg) &&& 31) = 7
                  · have h := ip hc7 h
                    refine x_tabIn C 7 hc7 dL_law_39 463 (by decide +kernel) 502 (by decide) ?_
                    refine x_aload_n C dL_law_502 rfl 1 rfl 503 rfl ?_
                    refine x_aload_n C dL_law_503 rfl 0 rfl 504 rfl ?_
                    refine x_iload C dL_law_504 4 rfl 506 rfl ?_
                    refine x_iconst C (v := 1) dL_law_506 (by decide) 507 rfl ?_
                    refine x_iadd C dL_law_507 508 rfl ?_
                    obtain ⟨hin, h⟩ := gi_some h
                    refine x_sld C S hin dL_law_508 509 rfl ?_
                    refine x_aload_n C dL_law_509 rfl 3 rfl 510 rfl ?_
                    obtain ⟨r510, σ510, h510, h⟩ := bn_some h
                    refine x_callH C hX (n := 3) [.ref (adr g 0), .int (xs ((l4 + 1) : Int32).toNatClampNeg), .ref (adr g 40)] (c_L_unmatch hl9 h510) q_660 q_659 q_658 q_0 (by decide +kernel) rfl ⟨rfl, rfl⟩ ⟨Nat.le_of_ble_eq_true rfl, Nat.le_of_ble_eq_true rfl⟩ ga1 _ rfl (Nat.le_of_ble_eq_true rfl) dL_law_510 513 rfl ?_
                    refine x_istore C [(5, .int r510), (0, .ref b), (1, .ref (adr g 0)), (2, .ref (adr g 29)), (3, .ref (adr g 40)), (4, .int l4)] dL_law_513 (by decide) rfl 515 rfl ?_
                    refine x_aload_n C dL_law_515 rfl 3 rfl 516 rfl ?_
                    refine x_aload_n C dL_law_516 rfl 1 rfl 517 rfl ?_
                    refine x_iload C dL_law_517 5 rfl 519 rfl ?_
                    refine x_iconst C (v := 1) dL_law_519 (by decide) 520 rfl ?_
                    refine x_iadd C dL_law_520 521 rfl ?_
                    obtain ⟨hin, h⟩ := gi_some h
                    refine x_sld C S hin dL_law_521 522 rfl ?_
                    obtain ⟨r522, σ522, h522, h⟩ := bn_some h
                    refine x_callV C (st := []) 29 [.int (xs ((l4 + 1) : Int32).toNatClampNeg)] (c_X7_unmatch  h522) mi_X7_unmatch (gt_29 g _) rfl q_886 rfl ⟨rfl, rfl⟩ ⟨Nat.le_of_ble_eq_true rfl, Nat.le_of_ble_eq_true rfl⟩ ga1 _ rfl (Nat.le_of_ble_eq_true rfl) dL_law_522 525 rfl ?_
                    refine x_istore C [(6, .int r522), (5, .int r510), (0, .ref b), (1, .ref (adr g 0)), (2, .ref (adr g 29)), (3, .ref (adr g 40)), (4, .int l4)] dL_law_525 (by decide) rfl 527 rfl ?_
                    refine x_aload_n C dL_law_527 rfl 4 rfl 528 rfl ?_
                    obtain ⟨r528, h528, h⟩ := bv_some h
                    refine x_callV C (st := []) 29 [] (c_X7_thrown  h528) mi_X7_thrown (gt_29 g _) rfl q_816 rfl ⟨rfl, rfl⟩ ⟨Nat.le_of_ble_eq_true rfl, Nat.le_of_ble_eq_true rfl⟩ ga1 _ rfl (Nat.le_of_ble_eq_true rfl) dL_law_528 531 rfl ?_
                    refine x_iload C dL_law_531 1 rfl 533 rfl ?_
                    refine x_icmp_eq C dL_law_533 538 (by decide) 536 rfl (fun hc => ?_) (fun hc => ?_)
                    · have h := ip hc h
                      refine x_iload C dL_law_538 1 rfl 540 rfl ?_
                      refine x_if_ne C dL_law_540 555 (by decide) 543 rfl (fun hc => ?_) (fun hc => ?_)
                      · have h := iq hc h
                        refine x_goto C dL_law_555 1441 (by decide) ?_
                        refine x_iinc C [(4, .int (l4 + 4)), (6, .int r522), (5, .int r510), (0, .ref b), (1, .ref (adr g 0)), (2, .ref (adr g 29)), (3, .ref (adr g 40))] dL_law_1441 6 rfl rfl (by decide) rfl 1444 rfl ?_
                        refine x_goto C dL_law_1444 23 (by decide) ?_
                        cases h
                        exact x_sub [3, 4, 5, 6, 0] rfl (hI0 ((l4 + 4), σ522) ht)
                      · have h := ip hc h
                        refine x_aload_n C dL_law_543 rfl 5 rfl 544 rfl ?_
                        refine x_iconst C (v := 0) dL_law_544 (by decide) 545 rfl ?_
                        refine x_lald C dL_law_545 546 rfl ?_
                        refine x_iload C dL_law_546 0 rfl 548 rfl ?_
                        refine x_i2l C dL_law_548 549 rfl ?_
                        refine x_lcmp C dL_law_549 550 rfl ?_
                        refine x_if_eq C dL_law_550 555 (by decide) 553 rfl (fun hc => ?_) (fun hc => ?_)
                        · have h := ip hc h
                          refine x_goto C dL_law_555 1441 (by decide) ?_
                          refine x_iinc C [(4, .int (l4 + 4)), (6, .int r522), (5, .int r510), (0, .ref b), (1, .ref (adr g 0)), (2, .ref (adr g 29)), (3, .ref (adr g 40))] dL_law_1441 6 rfl rfl (by decide) rfl 1444 rfl ?_
                          refine x_goto C dL_law_1444 23 (by decide) ?_
                          cases h
                          exact x_sub [3, 4, 5, 6, 0] rfl (hI0 ((l4 + 4), σ522) ht)
                        · have h := iq hc h
                          refine x_iconst C (v := 0) dL_law_553 (by decide) 554 rfl ?_
                          cases h
                    · have h := iq hc h
                      refine x_iconst C (v := 0) dL_law_536 (by decide) 537 rfl ?_
                      cases h
                  · have h := iq hc7 h
                    by_cases hc8 : ((xs (l4 : Int32).toNatClampNeg) &&& 31) = 8
                    · have h := ip hc8 h
                      refine x_tabIn C 8 hc8 dL_law_39 519 (by decide +kernel) 558 (by decide) ?_
                      refine x_aload_n C dL_law_558 rfl 1 rfl 559 rfl ?_
                      refine x_aload_n C dL_law_559 rfl 0 rfl 560 rfl ?_
                      refine x_iload C dL_law_560 4 rfl 562 rfl ?_
                      refine x_iconst C (v := 1) dL_law_562 (by decide) 563 rfl ?_
                      refine x_iadd C dL_law_563 564 rfl ?_
                      obtain ⟨hin, h⟩ := gi_some h
                      refine x_sld C S hin dL_law_564 565 rfl ?_
                      refine x_aload_n C dL_law_565 rfl 3 rfl 566 rfl ?_
                      obtain ⟨r566, σ566, h566, h⟩ := bn_some h
                      refine x_callH C hX (n := 3) [.ref (adr g 0), .int (xs ((l4 + 1) : Int32).toNatClampNeg), .ref (adr g 40)] (c_L_augment hl9 h566) q_668 q_667 q_666 q_0 (by decide +kernel) rfl ⟨rfl, rfl⟩ ⟨Nat.le_of_ble_eq_true rfl, Nat.le_of_ble_eq_true rfl⟩ ga1 _ rfl (Nat.le_of_ble_eq_true rfl) dL_law_566 569 rfl ?_
                      refine x_istore C [(5, .int r566), (0, .ref b), (1, .ref (adr g 0)), (2, .ref (adr g 29)), (3, .ref (adr g 40)), (4, .int l4)] dL_law_569 (by decide) rfl 571 rfl ?_
                      refine x_aload_n C dL_law_571 rfl 3 rfl 572 rfl ?_
                      refine x_aload_n C dL_law_572 rfl 1 rfl 573 rfl ?_
                      refine x_iload C dL_law_573 5 rfl 575 rfl ?_
                      refine x_iconst C (v := 1) dL_law_575 (by decide) 576 rfl ?_
                      refine x_iadd C dL_law_576 577 rfl ?_
                      obtain ⟨hin, h⟩ := gi_some h
                      refine x_sld C S hin dL_law_577 578 rfl ?_
                      obtain ⟨r578, σ578, h578, h⟩ := bn_some h
                      refine x_callV C (st := []) 29 [.int (xs ((l4 + 1) : Int32).toNatClampNeg)] (c_X7_augment  h578) mi_X7_augment (gt_29 g _) rfl q_890 rfl ⟨rfl, rfl⟩ ⟨Nat.le_of_ble_eq_true rfl, Nat.le_of_ble_eq_true rfl⟩ ga1 _ rfl (Nat.le_of_ble_eq_true rfl) dL_law_578 581 rfl ?_
                      refine x_istore C [(6, .int r578), (5, .int r566), (0, .ref b), (1, .ref (adr g 0)), (2, .ref (adr g 29)), (3, .ref (adr g 40)), (4, .int l4)] dL_law_581 (by decide) rfl 583 rfl ?_
                      refine x_aload_n C dL_law_583 rfl 4 rfl 584 rfl ?_
                      obtain ⟨r584, h584, h⟩ := bv_some h
                      refine x_callV C (st := []) 29 [] (c_X7_thrown  h584) mi_X7_thrown (gt_29 g _) rfl q_816 rfl ⟨rfl, rfl⟩ ⟨Nat.le_of_ble_eq_true rfl, Nat.le_of_ble_eq_true rfl⟩ ga1 _ rfl (Nat.le_of_ble_eq_true rfl) dL_law_584 587 rfl ?_
                      refine x_iload C dL_law_587 1 rfl 589 rfl ?_
                      refine x_icmp_eq C dL_law_589 594 (by decide) 592 rfl (fun hc => ?_) (fun hc => ?_)
                      · have h := ip hc h
                        refine x_iload C dL_law_594 1 rfl 596 rfl ?_
                        refine x_if_ne C dL_law_596 611 (by decide) 599 rfl (fun hc => ?_) (fun hc => ?_)
                        · have h := iq hc h
                          refine x_goto C dL_law_611 1441 (by decide) ?_
                          refine x_iinc C [(4, .int (l4 + 4)), (6, .int r578), (5, .int r566), (0, .ref b), (1, .ref (adr g 0)), (2, .ref (adr g 29)), (3, .ref (adr g 40))] dL_law_1441 6 rfl rfl (by decide) rfl 1444 rfl ?_
                          refine x_goto C dL_law_1444 23 (by decide) ?_
                          cases h
                          exact x_sub [3, 4, 5, 6, 0] rfl (hI0 ((l4 + 4), σ578) ht)
                        · have h := ip hc h
                          refine x_aload_n C dL_law_599 rfl 5 rfl 600 rfl ?_
                          refine x_iconst C (v := 0) dL_law_600 (by decide) 601 rfl ?_
                          refine x_lald C dL_law_601 602 rfl ?_
                          refine x_iload C dL_law_602 0 rfl 604 rfl ?_
                          refine x_i2l C dL_law_604 605 rfl ?_
                          refine x_lcmp C dL_law_605 606 rfl ?_
                          refine x_if_eq C dL_law_606 611 (by decide) 609 rfl (fun hc => ?_) (fun hc => ?_)
                          · have h := ip hc h
                            refine x_goto C dL_law_611 1441 (by decide) ?_
                            refine x_iinc C [(4, .int (l4 + 4)), (6, .int r578), (5, .int r566), (0, .ref b), (1, .ref (adr g 0)), (2, .ref (adr g 29)), (3, .ref (adr g 40))] dL_law_1441 6 rfl rfl (by decide) rfl 1444 rfl ?_
                            refine x_goto C dL_law_1444 23 (by decide) ?_
                            cases h
                            exact x_sub [3, 4, 5, 6, 0] rfl (hI0 ((l4 + 4), σ578) ht)
                          · have h := iq hc h
                            refine x_iconst C (v := 0) dL_law_609 (by decide) 610 rfl ?_
                            cases h
                      · have h := iq hc h
                        refine x_iconst C (v := 0) dL_law_592 (by decide) 593 rfl ?_
                        cases h
                    · have h := iq hc8 h
                      by_cases hc9 : ((xs (l4 : Int32).toNatClampNeg) &&& 31) = 9
                      · have h := ip hc9 h
                        refine x_tabIn C 9 hc9 dL_law_39 575 (by decide +kernel) 614 (by decide) ?_
                        refine x_aload_n C dL_law_614 rfl 1 rfl 615 rfl ?_
                        obtain ⟨r615, σ615, h615, h⟩ := bn_some h
                        refine x_callV C (st := []) 0 [] (c_X6_maximize  h615) mi_X6_maximize (gt_0 g _) rfl q_204 rfl ⟨rfl, rfl⟩ ⟨Nat.le_of_ble_eq_true rfl, Nat.le_of_ble_eq_true rfl⟩ ga0 _ rfl (Nat.le_of_ble_eq_true rfl) dL_law_615 618 rfl ?_
                        refine x_aload_n C dL_law_618 rfl 2 rfl 619 rfl ?_
                        obtain ⟨r619, σ619, h619, h⟩ := bn_some h
                        refine x_callV C (st := [.int r615]) 29 [] (c_X7_maximize  h619) mi_X7_maximize (gt_29 g _) rfl q_914 rfl ⟨rfl, rfl⟩ ⟨Nat.le_of_ble_eq_true rfl, Nat.le_of_ble_eq_true rfl⟩ ga0 _ rfl (Nat.le_of_ble_eq_true rfl) dL_law_619 622 rfl ?_
                        refine x_icmp_eq C dL_law_622 1441 (by decide) 625 rfl (fun hc => ?_) (fun hc => ?_)
                        · have h := ip hc h
                          refine x_iinc C [(4, .int (l4 + 4)), (0, .ref b), (1, .ref (adr g 0)), (2, .ref (adr g 29)), (3, .ref (adr g 40))] dL_law_1441 4 rfl rfl (by decide) rfl 1444 rfl ?_
                          refine x_goto C dL_law_1444 23 (by decide) ?_
                          cases h
                          refine x_wid (Nat.le_succ ce) (Nat.le_add_right sl 6) ?_
                          exact x_sub [1, 2, 3, 4, 0] rfl (hI0 ((l4 + 4), σ619) ht)
                        · have h := iq hc h
                          refine x_iconst C (v := 0) dL_law_625 (by decide) 626 rfl ?_
                          cases h
                      · have h := iq hc9 h
                        by_cases hc10 : ((xs (l4 : Int32).toNatClampNeg) &&& 31) = 10
                        · have h := ip hc10 h
                          refine x_tabIn C 10 hc10 dL_law_39 588 (by decide +kernel) 627 (by decide) ?_
                          refine x_aload_n C dL_law_627 rfl 1 rfl 628 rfl ?_
                          obtain ⟨r628, σ628, h628, h⟩ := bn_some h
                          refine x_callV C (st := []) 0 [] (c_X6_takeFirst  h628) mi_X6_takeFirst (gt_0 g _) rfl q_263 rfl ⟨rfl, rfl⟩ ⟨Nat.le_of_ble_eq_true rfl, Nat.le_of_ble_eq_true rfl⟩ ga0 _ rfl (Nat.le_of_ble_eq_true rfl) dL_law_628 631 rfl ?_
                          refine x_aload_n C dL_law_631 rfl 2 rfl 632 rfl ?_
                          obtain ⟨r632, σ632, h632, h⟩ := bn_some h
                          refine x_callV C (st := [.int r628]) 29 [] (c_X7_takeFirst  h632) mi_X7_takeFirst (gt_29 g _) rfl q_922 rfl ⟨rfl, rfl⟩ ⟨Nat.le_of_ble_eq_true rfl, Nat.le_of_ble_eq_true rfl⟩ ga0 _ rfl (Nat.le_of_ble_eq_true rfl) dL_law_632 635 rfl ?_
                          refine x_icmp_eq C dL_law_635 1441 (by decide) 638 rfl (fun hc => ?_) (fun hc => ?_)
                          · have h := ip hc h
                            refine x_iinc C [(4, .int (l4 + 4)), (0, .ref b), (1, .ref (adr g 0)), (2, .ref (adr g 29)), (3, .ref (adr g 40))] dL_law_1441 4 rfl rfl (by decide) rfl 1444 rfl ?_
                            refine x_goto C dL_law_1444 23 (by decide) ?_
                            cases h
                            refine x_wid (Nat.le_succ ce) (Nat.le_add_right sl 6) ?_
                            exact x_sub [1, 2, 3, 4, 0] rfl (hI0 ((l4 + 4), σ632) ht)
                          · have h := iq hc h
                            refine x_iconst C (v := 0) dL_law_638 (by decide) 639 rfl ?_
                            cases h
                        · have h := iq hc10 h
                          by_cases hc11 : ((xs (l4 : Int32).toNatClampNeg) &&& 31) = 11
                          · have h := ip hc11 h
                            refine x_tabIn C 11 hc11 dL_law_39 601 (by decide +kernel) 640 (by decide) ?_
                            refine x_aload_n C dL_law_640 rfl 1 rfl 641 rfl ?_
                            refine x_aload_n C dL_law_641 rfl 3 rfl 642 rfl ?_
                            obtain ⟨r642, σ642, h642, h⟩ := bn_some h
                            refine x_callH C hX (n := 2) [.ref (adr g 0), .ref (adr g 40)] (c_L_undo hl9 h642) q_675 q_674 q_673 q_0 (by decide +kernel) rfl ⟨rfl, rfl⟩ ⟨Nat.le_of_ble_eq_true rfl, Nat.le_of_ble_eq_true rfl⟩ ga1 _ rfl (Nat.le_of_ble_eq_true rfl) dL_law_642 645 rfl ?_
                            refine x_istore C [(5, .int r642), (0, .ref b), (1, .ref (adr g 0)), (2, .ref (adr g 29)), (3, .ref (adr g 40)), (4, .int l4)] dL_law_645 (by decide) rfl 647 rfl ?_
                            refine x_aload_n C dL_law_647 rfl 3 rfl 648 rfl ?_
                            obtain ⟨r648, σ648, h648, h⟩ := bn_some h
                            refine x_callV C (st := []) 29 [] (c_X7_undo  h648) mi_X7_undo (gt_29 g _) rfl q_942 rfl ⟨rfl, rfl⟩ ⟨Nat.le_of_ble_eq_true rfl, Nat.le_of_ble_eq_true rfl⟩ ga1 _ rfl (Nat.le_of_ble_eq_true rfl) dL_law_648 651 rfl ?_
                            refine x_istore C [(6, .int r648), (5, .int r642), (0, .ref b), (1, .ref (adr g 0)), (2, .ref (adr g 29)), (3, .ref (adr g 40)), (4, .int l4)] dL_law_651 (by decide) rfl 653 rfl ?_
                            refine x_aload_n C dL_law_653 rfl 4 rfl 654 rfl ?_
                            obtain ⟨r654, h654, h⟩ := bv_some h
                            refine x_callV C (st := []) 29 [] (c_X7_thrown  h654) mi_X7_thrown (gt_29 g _) rfl q_816 rfl ⟨rfl, rfl⟩ ⟨Nat.le_of_ble_eq_true rfl, Nat.le_of_ble_eq_true rfl⟩ ga1 _ rfl (Nat.le_of_ble_eq_true rfl) dL_law_654 657 rfl ?_
                            refine x_iload C dL_law_657 1 rfl 659 rfl ?_
                            refine x_icmp_eq C dL_law_659 664 (by decide) 662 rfl (fun hc => ?_) (fun hc => ?_)
                            · have h := ip hc h
                              refine x_iload C dL_law_664 1 rfl 666 rfl ?_
                              refine x_if_ne C dL_law_666 681 (by decide) 669 rfl (fun hc => ?_) (fun hc => ?_)
                              · have h := iq hc h
                                refine x_goto C dL_law_681 1441 (by decide) ?_
                                refine x_iinc C [(4, .int (l4 + 4)), (6, .int r648), (5, .int r642), (0, .ref b), (1, .ref (adr g 0)), (2, .ref (adr g 29)), (3, .ref (adr g 40))] dL_law_1441 6 rfl rfl (by decide) rfl 1444 rfl ?_
                                refine x_goto C dL_law_1444 23 (by decide) ?_
                                cases h
                                exact x_sub [3, 4, 5, 6, 0] rfl (hI0 ((l4 + 4), σ648) ht)
                              · have h := ip hc h
                                refine x_aload_n C dL_law_669 rfl 5 rfl 670 rfl ?_
                                refine x_iconst C (v := 0) dL_law_670 (by decide) 671 rfl ?_
                                refine x_lald C dL_law_671 672 rfl ?_
                                refine x_iload C dL_law_672 0 rfl 674 rfl ?_
                                refine x_i2l C dL_law_674 675 rfl ?_
                                refine x_lcmp C dL_law_675 676 rfl ?_
                                refine x_if_eq C dL_law_676 681 (by decide) 679 rfl (fun hc => ?_) (fun hc => ?_)
                                · have h := ip hc h
                                  refine x_goto C dL_law_681 1441 (by decide) ?_
                                  refine x_iinc C [(4, .int (l4 + 4)), (6, .int r648), (5, .int r642), (0, .ref b), (1, .ref (adr g 0)), (2, .ref (adr g 29)), (3, .ref (adr g 40))] dL_law_1441 6 rfl rfl (by decide) rfl 1444 rfl ?_
                                  refine x_goto C dL_law_1444 23 (by decide) ?_
                                  cases h
                                  exact x_sub [3, 4, 5, 6, 0] rfl (hI0 ((l4 + 4), σ648) ht)
                                · have h := iq hc h
                                  refine x_iconst C (v := 0) dL_law_679 (by decide) 680 rfl ?_
                                  cases h
                            · have h := iq hc h
                              refine x_iconst C (v := 0) dL_law_662 (by decide) 663 rfl ?_
                              cases h
                          · have h := iq hc11 h
                            by_cases hc12 : ((xs (l4 : Int32).toNatClampNeg) &&& 31) = 12
                            · have h := ip hc12 h
                              refine x_tabIn C 12 hc12 dL_law_39 645 (by decide +kernel) 684 (by decide) ?_
                              refine x_aload_n C dL_law_684 rfl 1 rfl 685 rfl ?_
                              refine x_aload_n C dL_law_685 rfl 0 rfl 686 rfl ?_
                              refine x_iload C dL_law_686 4 rfl 688 rfl ?_
                              refine x_iconst C (v := 1) dL_law_688 (by decide) 689 rfl ?_
                              refine x_iadd C dL_law_689 690 rfl ?_
                              obtain ⟨hin, h⟩ := gi_some h
                              refine x_sld C S hin dL_law_690 691 rfl ?_
                              refine x_aload_n C dL_law_691 rfl 3 rfl 692 rfl ?_
                              obtain ⟨r692, σ692, h692, h⟩ := bn_some h
                              refine x_callH C hX (n := 3) [.ref (adr g 0), .int (xs ((l4 + 1) : Int32).toNatClampNeg), .ref (adr g 40)] (c_L_way hl9 h692) q_693 q_692 q_691 q_0 (by decide +kernel) rfl ⟨rfl, rfl⟩ ⟨Nat.le_of_ble_eq_true rfl, Nat.le_of_ble_eq_true rfl⟩ ga1 _ rfl (Nat.le_of_ble_eq_true rfl) dL_law_692 695 rfl ?_
                              refine x_istore C [(5, .int r692), (0, .ref b), (1, .ref (adr g 0)), (2, .ref (adr g 29)), (3, .ref (adr g 40)), (4, .int l4)] dL_law_695 (by decide) rfl 697 rfl ?_
                              refine x_aload_n C dL_law_697 rfl 3 rfl 698 rfl ?_
                              refine x_aload_n C dL_law_698 rfl 1 rfl 699 rfl ?_
                              refine x_iload C dL_law_699 5 rfl 701 rfl ?_
                              refine x_iconst C (v := 1) dL_law_701 (by decide) 702 rfl ?_
                              refine x_iadd C dL_law_702 703 rfl ?_
                              obtain ⟨hin, h⟩ := gi_some h
                              refine x_sld C S hin dL_law_703 704 rfl ?_
                              obtain ⟨r704, σ704, h704, h⟩ := bn_some h
                              refine x_callV C (st := []) 29 [.int (xs ((l4 + 1) : Int32).toNatClampNeg)] (c_X7_way  h704) mi_X7_way (gt_29 g _) rfl q_946 rfl ⟨rfl, rfl⟩ ⟨Nat.le_of_ble_eq_true rfl, Nat.le_of_ble_eq_true rfl⟩ ga1 _ rfl (Nat.le_of_ble_eq_true rfl) dL_law_704 707 rfl ?_
                              refine x_istore C [(6, .int r704), (5, .int r692), (0, .ref b), (1, .ref (adr g 0)), (2, .ref (adr g 29)), (3, .ref (adr g 40)), (4, .int l4)] dL_law_707 (by decide) rfl 709 rfl ?_
                              refine x_aload_n C dL_law_709 rfl 4 rfl 710 rfl ?_
                              obtain ⟨r710, h710, h⟩ := bv_some h
                              refine x_callV C (st := []) 29 [] (c_X7_thrown  h710) mi_X7_thrown (gt_29 g _) rfl q_816 rfl ⟨rfl, rfl⟩ ⟨Nat.le_of_ble_eq_true rfl, Nat.le_of_ble_eq_true rfl⟩ ga1 _ rfl (Nat.le_of_ble_eq_true rfl) dL_law_710 713 rfl ?_
                              refine x_iload C dL_law_713 1 rfl 715 rfl ?_
                              refine x_icmp_eq C dL_law_715 720 (by decide) 718 rfl (fun hc => ?_) (fun hc => ?_)
                              · have h := ip hc h
                                refine x_iload C dL_law_720 1 rfl 722 rfl ?_
                                refine x_if_ne C dL_law_722 737 (by decide) 725 rfl (fun hc => ?_) (fun hc => ?_)
                                · have h := iq hc h
                                  refine x_goto C dL_law_737 1441 (by decide) ?_
                                  refine x_iinc C [(4, .int (l4 + 4)), (6, .int r704), (5, .int r692), (0, .ref b), (1, .ref (adr g 0)), (2, .ref (adr g 29)), (3, .ref (adr g 40))] dL_law_1441 6 rfl rfl (by decide) rfl 1444 rfl ?_
                                  refine x_goto C dL_law_1444 23 (by decide) ?_
                                  cases h
                                  exact x_sub [3, 4, 5, 6, 0] rfl (hI0 ((l4 + 4), σ704) ht)
                                · have h := ip hc h
                                  refine x_aload_n C dL_law_725 rfl 5 rfl 726 rfl ?_
                                  refine x_iconst C (v := 0) dL_law_726 (by decide) 727 rfl ?_
                                  refine x_lald C dL_law_727 728 rfl ?_
                                  refine x_iload C dL_law_728 0 rfl 730 rfl ?_
                                  refine x_i2l C dL_law_730 731 rfl ?_
                                  refine x_lcmp C dL_law_731 732 rfl ?_
                                  refine x_if_eq C dL_law_732 737 (by decide) 735 rfl (fun hc => ?_) (fun hc => ?_)
                                  · have h := ip hc h
                                    refine x_goto C dL_law_737 1441 (by decide) ?_
                                    refine x_iinc C [(4, .int (l4 + 4)), (6, .int r704), (5, .int r692), (0, .ref b), (1, .ref (adr g 0)), (2, .ref (adr g 29)), (3, .ref (adr g 40))] dL_law_1441 6 rfl rfl (by decide) rfl 1444 rfl ?_
                                    refine x_goto C dL_law_1444 23 (by decide) ?_
                                    cases h
                                    exact x_sub [3, 4, 5, 6, 0] rfl (hI0 ((l4 + 4), σ704) ht)
                                  · have h := iq hc h
                                    refine x_iconst C (v := 0) dL_law_735 (by decide) 736 rfl ?_
                                    cases h
                              · have h := iq hc h
                                refine x_iconst C (v := 0) dL_law_718 (by decide) 719 rfl ?_
                                cases h
                            · have h := iq hc12 h
                              by_cases hc13 : ((xs (l4 : Int32).toNatClampNeg) &&& 31) = 13
                              · have h := ip hc13 h
                                refine x_tabIn C 13 hc13 dL_law_39 701 (by decide +kernel) 740 (by decide) ?_
                                refine x_aload_n C dL_law_740 rfl 1 rfl 741 rfl ?_
                                refine x_aload_n C dL_law_741 rfl 0 rfl 742 rfl ?_
                                refine x_iload C dL_law_742 4 rfl 744 rfl ?_
                                refine x_iconst C (v := 1) dL_law_744 (by decide) 745 rfl ?_
                                refine x_iadd C dL_law_745 746 rfl ?_
                                obtain ⟨hin, h⟩ := gi_some h
                                refine x_sld C S hin dL_law_746 747 rfl ?_
                                refine x_aload_n C dL_law_747 rfl 0 rfl 748 rfl ?_
                                refine x_iload C dL_law_748 4 rfl 750 rfl ?_
                                refine x_iconst C (v := 2) dL_law_750 (by decide) 751 rfl ?_
                                refine x_iadd C dL_law_751 752 rfl ?_
                                obtain ⟨hin, h⟩ := gi_some h
                                refine x_sld C S hin dL_law_752 753 rfl ?_
                                refine x_aload_n C dL_law_753 rfl 3 rfl 754 rfl ?_
                                obtain ⟨r754, σ754, h754, h⟩ := bn_some h
                                refine x_callH C hX (n := 4) [.ref (adr g 0), .int (xs ((l4 + 1) : Int32).toNatClampNeg), .int (xs ((l4 + 2) : Int32).toNatClampNeg), .ref (adr g 40)] (c_L_wayNode hl9 h754) q_697 q_696 q_695 q_0 (by decide +kernel) rfl ⟨rfl, rfl⟩ ⟨Nat.le_of_ble_eq_true rfl, Nat.le_of_ble_eq_true rfl⟩ ga1 _ rfl (Nat.le_of_ble_eq_true rfl) dL_law_754 757 rfl ?_
                                refine x_istore C [(5, .int r754), (0, .ref b), (1, .ref (adr g 0)), (2, .ref (adr g 29)), (3, .ref (adr g 40)), (4, .int l4)] dL_law_757 (by decide) rfl 759 rfl ?_
                                refine x_aload_n C dL_law_759 rfl 3 rfl 760 rfl ?_
                                refine x_aload_n C dL_law_760 rfl 1 rfl 761 rfl ?_
                                refine x_iload C dL_law_761 5 rfl 763 rfl ?_
                                refine x_iconst C (v := 1) dL_law_763 (by decide) 764 rfl ?_
                                refine x_iadd C dL_law_764 765 rfl ?_
                                obtain ⟨hin, h⟩ := gi_some h
                                refine x_sld C S hin dL_law_765 766 rfl ?_
                                refine x_aload_n C dL_law_766 rfl 1 rfl 767 rfl ?_
                                refine x_iload C dL_law_767 5 rfl 769 rfl ?_
                                refine x_iconst C (v := 2) dL_law_769 (by decide) 770 rfl ?_
                                refine x_iadd C dL_law_770 771 rfl ?_
                                obtain ⟨hin, h⟩ := gi_some h
                                refine x_sld C S hin dL_law_771 772 rfl ?_
                                obtain ⟨r772, σ772, h772, h⟩ := bn_some h
                                refine x_callV C (st := []) 29 [.int (xs ((l4 + 1) : Int32).toNatClampNeg), .int (xs ((l4 + 2) : Int32).toNatClampNeg)] (c_X7_wayNode  h772) mi_X7_wayNode (gt_29 g _) rfl q_950 rfl ⟨rfl, rfl⟩ ⟨Nat.le_of_ble_eq_true rfl, Nat.le_of_ble_eq_true rfl⟩ ga1 _ rfl (Nat.le_of_ble_eq_true rfl) dL_law_772 775 rfl ?_
                                refine x_istore C [(6, .int r772), (5, .int r754), (0, .ref b), (1, .ref (adr g 0)), (2, .ref (adr g 29)), (3, .ref (adr g 40)), (4, .int l4)] dL_law_775 (by decide) rfl 777 rfl ?_
                                refine x_aload_n C dL_law_777 rfl 4 rfl 778 rfl ?_
                                obtain ⟨r778, h778, h⟩ := bv_some h
                                refine x_callV C (st := []) 29 [] (c_X7_thrown  h778) mi_X7_thrown (gt_29 g _) rfl q_816 rfl ⟨rfl, rfl⟩ ⟨Nat.le_of_ble_eq_true rfl, Nat.le_of_ble_eq_true rfl⟩ ga1 _ rfl (Nat.le_of_ble_eq_true rfl) dL_law_778 781 rfl ?_
                                refine x_iload C dL_law_781 1 rfl 783 rfl ?_
                                refine x_icmp_eq C dL_law_783 788 (by decide) 786 rfl (fun hc => ?_) (fun hc => ?_)
                                · have h := ip hc h
                                  refine x_iload C dL_law_788 1 rfl 790 rfl ?_
                                  refine x_if_ne C dL_law_790 805 (by decide) 793 rfl (fun hc => ?_) (fun hc => ?_)
                                  · have h := iq hc h
                                    refine x_goto C dL_law_805 1441 (by decide) ?_
                                    refine x_iinc C [(4, .int (l4 + 4)), (6, .int r772), (5, .int r754), (0, .ref b), (1, .ref (adr g 0)), (2, .ref (adr g 29)), (3, .ref (adr g 40))] dL_law_1441 6 rfl rfl (by decide) rfl 1444 rfl ?_
                                    refine x_goto C dL_law_1444 23 (by decide) ?_
                                    cases h
                                    exact x_sub [3, 4, 5, 6, 0] rfl (hI0 ((l4 + 4), σ772) ht)
                                  · have h := ip hc h
                                    refine x_aload_n C dL_law_793 rfl 5 rfl 794 rfl ?_
                                    refine x_iconst C (v := 0) dL_law_794 (by decide) 795 rfl ?_
                                    refine x_lald C dL_law_795 796 rfl ?_
                                    refine x_iload C dL_law_796 0 rfl 798 rfl ?_
                                    refine x_i2l C dL_law_798 799 rfl ?_
                                    refine x_lcmp C dL_law_799 800 rfl ?_
                                    refine x_if_eq C dL_law_800 805 (by decide) 803 rfl (fun hc => ?_) (fun hc => ?_)
                                    · have h := ip hc h
                                      refine x_goto C dL_law_805 1441 (by decide) ?_
                                      refine x_iinc C [(4, .int (l4 + 4)), (6, .int r772), (5, .int r754), (0, .ref b), (1, .ref (adr g 0)), (2, .ref (adr g 29)), (3, .ref (adr g 40))] dL_law_1441 6 rfl rfl (by decide) rfl 1444 rfl ?_
                                      refine x_goto C dL_law_1444 23 (by decide) ?_
                                      cases h
                                      exact x_sub [3, 4, 5, 6, 0] rfl (hI0 ((l4 + 4), σ772) ht)
                                    · have h := iq hc h
                                      refine x_iconst C (v := 0) dL_law_803 (by decide) 804 rfl ?_
                                      cases h
                                · have h := iq hc h
                                  refine x_iconst C (v := 0) dL_law_786 (by decide) 787 rfl ?_
                                  cases h
                              · have h := iq hc13 h
                                by_cases hc14 : ((xs (l4 : Int32).toNatClampNeg) &&& 31) = 14
                                · have h := ip hc14 h
                                  refine x_tabIn C 14 hc14 dL_law_39 769 (by decide +kernel) 808 (by decide) ?_
                                  refine x_aload_n C dL_law_808 rfl 1 rfl 809 rfl ?_
                                  refine x_aload_n C dL_law_809 rfl 0 rfl 810 rfl ?_
                                  refine x_iload C dL_law_810 4 rfl 812 rfl ?_
                                  refine x_iconst C (v := 1) dL_law_812 (by decide) 813 rfl ?_
                                  refine x_iadd C dL_law_813 814 rfl ?_
                                  obtain ⟨hin, h⟩ := gi_some h
                                  refine x_sld C S hin dL_law_814 815 rfl ?_
                                  refine x_aload_n C dL_law_815 rfl 0 rfl 816 rfl ?_
                                  refine x_iload C dL_law_816 4 rfl 818 rfl ?_
                                  refine x_iconst C (v := 2) dL_law_818 (by decide) 819 rfl ?_
                                  refine x_iadd C dL_law_819 820 rfl ?_
                                  obtain ⟨hin, h⟩ := gi_some h
                                  refine x_sld C S hin dL_law_820 821 rfl ?_
                                  refine x_if_eq C dL_law_821 828 (by decide) 824 rfl (fun hc => ?_) (fun hc => ?_)
                                  · have h := ip hc h
                                    refine x_iconst C (v := 0) dL_law_828 (by decide) 829 rfl ?_
                                    exact x_sub [0, 1, 2, 3, 4] rfl (w_law_829 C S hX hl9 ga0 ga1 hI0 hD hE h ht)
                                  · have h := iq hc h
                                    refine x_iconst C (v := 1) dL_law_824 (by decide) 825 rfl ?_
                                    refine x_goto C dL_law_825 829 (by decide) ?_
                                    exact x_sub [0, 1, 2, 3, 4] rfl (w_law_829 C S hX hl9 ga0 ga1 hI0 hD hE h ht)
                                · have h := iq hc14 h
                                  by_cases hc15 : ((xs (l4 : Int32).toNatClampNeg) &&& 31) = 15
                                  · have h := ip hc15 h
                                    refine x_tabIn C 15 hc15 dL_law_39 853 (by decide +kernel) 892 (by decide) ?_
                                    refine x_aload_n C dL_law_892 rfl 1 rfl 893 rfl ?_
                                    obtain ⟨r893, h893, h⟩ := bv_some h
                                    refine x_callV C (st := []) 0 [] (c_X6_oddCycle  h893) mi_X6_oddCycle (gt_0 g _) rfl q_306 rfl ⟨rfl, rfl⟩ ⟨Nat.le_of_ble_eq_true rfl, Nat.le_of_ble_eq_true rfl⟩ ga0 _ rfl (Nat.le_of_ble_eq_true rfl) dL_law_893 896 rfl ?_
                                    refine x_aload_n C dL_law_896 rfl 2 rfl 897 rfl ?_
                                    obtain ⟨r897, σ897, h897, h⟩ := bn_some h
                                    refine x_callV C (st := [.int r893]) 29 [] (c_X7_oddCycle  h897) mi_X7_oddCycle (gt_29 g _) rfl q_962 rfl ⟨rfl, rfl⟩ ⟨Nat.le_of_ble_eq_true rfl, Nat.le_of_ble_eq_true rfl⟩ ga0 _ rfl (Nat.le_of_ble_eq_true rfl) dL_law_897 900 rfl ?_
                                    refine x_icmp_eq C dL_law_900 1441 (by decide) 903 rfl (fun hc => ?_) (fun hc => ?_)
                                    · have h := ip hc h
                                      refine x_iinc C [(4, .int (l4 + 4)), (0, .ref b), (1, .ref (adr g 0)), (2, .ref (adr g 29)), (3, .ref (adr g 40))] dL_law_1441 4 rfl rfl (by decide) rfl 1444 rfl ?_
                                      refine x_goto C dL_law_1444 23 (by decide) ?_
                                      cases h
                                      refine x_wid (Nat.le_succ ce) (Nat.le_add_right sl 6) ?_
                                      exact x_sub [1, 2, 3, 4, 0] rfl (hI0 ((l4 + 4), σ897) ht)
                                    · have h := iq hc h
                                      refine x_iconst C (v := 0) dL_law_903 (by decide) 904 rfl ?_
                                      cases h
                                  · have h := iq hc15 h
                                    by_cases hc16 : ((xs (l4 : Int32).toNatClampNeg) &&& 31) = 16
                                    · have h := ip hc16 h
                                      refine x_tabIn C 16 hc16 dL_law_39 866 (by decide +kernel) 905 (by decide) ?_
                                      refine x_aload_n C dL_law_905 rfl 1 rfl 906 rfl ?_
                                      refine x_aload_n C dL_law_906 rfl 0 rfl 907 rfl ?_
                                      refine x_iload C dL_law_907 4 rfl 909 rfl ?_
                                      refine x_iconst C (v := 1) dL_law_909 (by decide) 910 rfl ?_
                                      refine x_iadd C dL_law_910 911 rfl ?_
                                      obtain ⟨hin, h⟩ := gi_some h
                                      refine x_sld C S hin dL_law_911 912 rfl ?_
                                      refine x_aload_n C dL_law_912 rfl 3 rfl 913 rfl ?_
                                      obtain ⟨r913, σ913, h913, h⟩ := bn_some h
                                      refine x_callH C hX (n := 3) [.ref (adr g 0), .int (xs ((l4 + 1) : Int32).toNatClampNeg), .ref (adr g 40)] (c_L_firstMate hl9 h913) q_708 q_707 q_706 q_0 (by decide +kernel) rfl ⟨rfl, rfl⟩ ⟨Nat.le_of_ble_eq_true rfl, Nat.le_of_ble_eq_true rfl⟩ ga1 _ rfl (Nat.le_of_ble_eq_true rfl) dL_law_913 916 rfl ?_
                                      refine x_istore C [(5, .int r913), (0, .ref b), (1, .ref (adr g 0)), (2, .ref (adr g 29)), (3, .ref (adr g 40)), (4, .int l4)] dL_law_916 (by decide) rfl 918 rfl ?_
                                      refine x_aload_n C dL_law_918 rfl 3 rfl 919 rfl ?_
                                      refine x_aload_n C dL_law_919 rfl 1 rfl 920 rfl ?_
                                      refine x_iload C dL_law_920 5 rfl 922 rfl ?_
                                      refine x_iconst C (v := 1) dL_law_922 (by decide) 923 rfl ?_
                                      refine x_iadd C dL_law_923 924 rfl ?_
                                      obtain ⟨hin, h⟩ := gi_some h
                                      refine x_sld C S hin dL_law_924 925 rfl ?_
                                      obtain ⟨r925, σ925, h925, h⟩ := bn_some h
                                      refine x_callV C (st := []) 29 [.int (xs ((l4 + 1) : Int32).toNatClampNeg)] (c_X7_firstMate  h925) mi_X7_firstMate (gt_29 g _) rfl q_974 rfl ⟨rfl, rfl⟩ ⟨Nat.le_of_ble_eq_true rfl, Nat.le_of_ble_eq_true rfl⟩ ga1 _ rfl (Nat.le_of_ble_eq_true rfl) dL_law_925 928 rfl ?_
                                      refine x_istore C [(6, .int r925), (5, .int r913), (0, .ref b), (1, .ref (adr g 0)), (2, .ref (adr g 29)), (3, .ref (adr g 40)), (4, .int l4)] dL_law_928 (by decide) rfl 930 rfl ?_
                                      refine x_aload_n C dL_law_930 rfl 4 rfl 931 rfl ?_
                                      obtain ⟨r931, h931, h⟩ := bv_some h
                                      refine x_callV C (st := []) 29 [] (c_X7_thrown  h931) mi_X7_thrown (gt_29 g _) rfl q_816 rfl ⟨rfl, rfl⟩ ⟨Nat.le_of_ble_eq_true rfl, Nat.le_of_ble_eq_true rfl⟩ ga1 _ rfl (Nat.le_of_ble_eq_true rfl) dL_law_931 934 rfl ?_
                                      refine x_iload C dL_law_934 1 rfl 936 rfl ?_
                                      refine x_icmp_eq C dL_law_936 941 (by decide) 939 rfl (fun hc => ?_) (fun hc => ?_)
                                      · have h := ip hc h
                                        refine x_iload C dL_law_941 1 rfl 943 rfl ?_
                                        refine x_if_ne C dL_law_943 958 (by decide) 946 rfl (fun hc => ?_) (fun hc => ?_)
                                        · have h := iq hc h
                                          refine x_goto C dL_law_958 1441 (by decide) ?_
                                          refine x_iinc C [(4, .int (l4 + 4)), (6, .int r925), (5, .int r913), (0, .ref b), (1, .ref (adr g 0)), (2, .ref (adr g 29)), (3, .ref (adr g 40))] dL_law_1441 6 rfl rfl (by decide) rfl 1444 rfl ?_
                                          refine x_goto C dL_law_1444 23 (by decide) ?_
                                          cases h
                                          exact x_sub [3, 4, 5, 6, 0] rfl (hI0 ((l4 + 4), σ925) ht)
                                        · have h := ip hc h
                                          refine x_aload_n C dL_law_946 rfl 5 rfl 947 rfl ?_
                                          refine x_iconst C (v := 0) dL_law_947 (by decide) 948 rfl ?_
                                          refine x_lald C dL_law_948 949 rfl ?_
                                          refine x_iload C dL_law_949 0 rfl 951 rfl ?_
                                          refine x_i2l C dL_law_951 952 rfl ?_
                                          refine x_lcmp C dL_law_952 953 rfl ?_
                                          refine x_if_eq C dL_law_953 958 (by decide) 956 rfl (fun hc => ?_) (fun hc => ?_)
                                          · have h := ip hc h
                                            refine x_goto C dL_law_958 1441 (by decide) ?_
                                            refine x_iinc C [(4, .int (l4 + 4)), (6, .int r925), (5, .int r913), (0, .ref b), (1, .ref (adr g 0)), (2, .ref (adr g 29)), (3, .ref (adr g 40))] dL_law_1441 6 rfl rfl (by decide) rfl 1444 rfl ?_
                                            refine x_goto C dL_law_1444 23 (by decide) ?_
                                            cases h
                                            exact x_sub [3, 4, 5, 6, 0] rfl (hI0 ((l4 + 4), σ925) ht)
                                          · have h := iq hc h
                                            refine x_iconst C (v := 0) dL_law_956 (by decide) 957 rfl ?_
                                            cases h
                                      · have h := iq hc h
                                        refine x_iconst C (v := 0) dL_law_939 (by decide) 940 rfl ?_
                                        cases h
                                    · have h := iq hc16 h
                                      by_cases hc17 : ((xs (l4 : Int32).toNatClampNeg) &&& 31) = 17
                                      · have h := ip hc17 h
                                        refine x_tabIn C 17 hc17 dL_law_39 922 (by decide +kernel) 961 (by decide) ?_
                                        refine x_aload_n C dL_law_961 rfl 1 rfl 962 rfl ?_
                                        obtain ⟨r962, σ962, h962, h⟩ := bn_some h
                                        refine x_callV C (st := []) 0 [] (c_X6_proof  h962) mi_X6_proof (gt_0 g _) rfl q_318 rfl ⟨rfl, rfl⟩ ⟨Nat.le_of_ble_eq_true rfl, Nat.le_of_ble_eq_true rfl⟩ ga0 _ rfl (Nat.le_of_ble_eq_true rfl) dL_law_962 965 rfl ?_
                                        refine x_aload_n C dL_law_965 rfl 2 rfl 966 rfl ?_
                                        obtain ⟨r966, σ966, h966, h⟩ := bn_some h
                                        refine x_callV C (st := [.int r962]) 29 [] (c_X7_proof  h966) mi_X7_proof (gt_29 g _) rfl q_978 rfl ⟨rfl, rfl⟩ ⟨Nat.le_of_ble_eq_true rfl, Nat.le_of_ble_eq_true rfl⟩ ga0 _ rfl (Nat.le_of_ble_eq_true rfl) dL_law_966 969 rfl ?_
                                        refine x_icmp_eq C dL_law_969 1441 (by decide) 972 rfl (fun hc => ?_) (fun hc => ?_)
                                        · have h := ip hc h
                                          refine x_iinc C [(4, .int (l4 + 4)), (0, .ref b), (1, .ref (adr g 0)), (2, .ref (adr g 29)), (3, .ref (adr g 40))] dL_law_1441 4 rfl rfl (by decide) rfl 1444 rfl ?_
                                          refine x_goto C dL_law_1444 23 (by decide) ?_
                                          cases h
                                          refine x_wid (Nat.le_succ ce) (Nat.le_add_right sl 6) ?_
                                          exact x_sub [1, 2, 3, 4, 0] rfl (hI0 ((l4 + 4), σ966) ht)
                                        · have h := iq hc h
                                          refine x_iconst C (v := 0) dL_law_972 (by decide) 973 rfl ?_
                                          cases h
                                      · have h := iq hc17 h
                                        by_cases hc18 : ((xs (l4 : Int32).toNatClampNeg) &&& 31) = 18
                                        · have h := ip hc18 h
                                          refine x_tabIn C 18 hc18 dL_law_39 935 (by decide +kernel) 974 (by decide) ?_
                                          refine x_aload_n C dL_law_974 rfl 1 rfl 975 rfl ?_
                                          refine x_aload_n C dL_law_975 rfl 0 rfl 976 rfl ?_
                                          refine x_iload C dL_law_976 4 rfl 978 rfl ?_
                                          refine x_iconst C (v := 1) dL_law_978 (by decide) 979 rfl ?_
                                          refine x_iadd C dL_law_979 980 rfl ?_
                                          obtain ⟨hin, h⟩ := gi_some h
                                          refine x_sld C S hin dL_law_980 981 rfl ?_
                                          refine x_aload_n C dL_law_981 rfl 0 rfl 982 rfl ?_
                                          refine x_iload C dL_law_982 4 rfl 984 rfl ?_
                                          refine x_iconst C (v := 2) dL_law_984 (by decide) 985 rfl ?_
                                          refine x_iadd C dL_law_985 986 rfl ?_
                                          obtain ⟨hin, h⟩ := gi_some h
                                          refine x_sld C S hin dL_law_986 987 rfl ?_
                                          refine x_if_eq C dL_law_987 994 (by decide) 990 rfl (fun hc => ?_) (fun hc => ?_)
                                          · have h := ip hc h
                                            refine x_iconst C (v := 0) dL_law_994 (by decide) 995 rfl ?_
                                            exact x_sub [0, 1, 2, 3, 4] rfl (w_law_995 C S hX hl9 ga0 ga1 hI0 hD hE h ht)
                                          · have h := iq hc h
                                            refine x_iconst C (v := 1) dL_law_990 (by decide) 991 rfl ?_
                                            refine x_goto C dL_law_991 995 (by decide) ?_
                                            exact x_sub [0, 1, 2, 3, 4] rfl (w_law_995 C S hX hl9 ga0 ga1 hI0 hD hE h ht)
                                        · have h := iq hc18 h
                                          by_cases hc19 : ((xs (l4 : Int32).toNatClampNeg) &&& 31) = 19
                                          · have h := ip hc19 h
                                            refine x_tabIn C 19 hc19 dL_law_39 1019 (by decide +kernel) 1058 (by decide) ?_
                                            refine x_aload_n C dL_law_1058 rfl 1 rfl 1059 rfl ?_
                                            refine x_aload_n C dL_law_1059 rfl 0 rfl 1060 rfl ?_
                                            refine x_iload C dL_law_1060 4 rfl 1062 rfl ?_
                                            refine x_iconst C (v := 1) dL_law_1062 (by decide) 1063 rfl ?_
                                            refine x_iadd C dL_law_1063 1064 rfl ?_
                                            obtain ⟨hin, h⟩ := gi_some h
                                            refine x_sld C S hin dL_law_1064 1065 rfl ?_
                                            refine x_aload_n C dL_law_1065 rfl 0 rfl 1066 rfl ?_
                                            refine x_iload C dL_law_1066 4 rfl 1068 rfl ?_
                                            refine x_iconst C (v := 2) dL_law_1068 (by decide) 1069 rfl ?_
                                            refine x_iadd C dL_law_1069 1070 rfl ?_
                                            obtain ⟨hin, h⟩ := gi_some h
                                            refine x_sld C S hin dL_law_1070 1071 rfl ?_
                                            refine x_aload_n C dL_law_1071 rfl 3 rfl 1072 rfl ?_
                                            obtain ⟨r1072, σ1072, h1072, h⟩ := bn_some h
                                            refine x_callH C hX (n := 4) [.ref (adr g 0), .int (xs ((l4 + 1) : Int32).toNatClampNeg), .int (xs ((l4 + 2) : Int32).toNatClampNeg), .ref (adr g 40)] (c_L_ifChanged hl9 h1072) q_720 q_719 q_718 q_0 (by decide +kernel) rfl ⟨rfl, rfl⟩ ⟨Nat.le_of_ble_eq_true rfl, Nat.le_of_ble_eq_true rfl⟩ ga1 _ rfl (Nat.le_of_ble_eq_true rfl) dL_law_1072 1075 rfl ?_
                                            refine x_istore C [(5, .int r1072), (0, .ref b), (1, .ref (adr g 0)), (2, .ref (adr g 29)), (3, .ref (adr g 40)), (4, .int l4)] dL_law_1075 (by decide) rfl 1077 rfl ?_
                                            refine x_aload_n C dL_law_1077 rfl 3 rfl 1078 rfl ?_
                                            refine x_aload_n C dL_law_1078 rfl 1 rfl 1079 rfl ?_
                                            refine x_iload C dL_law_1079 5 rfl 1081 rfl ?_
                                            refine x_iconst C (v := 1) dL_law_1081 (by decide) 1082 rfl ?_
                                            refine x_iadd C dL_law_1082 1083 rfl ?_
                                            obtain ⟨hin, h⟩ := gi_some h
                                            refine x_sld C S hin dL_law_1083 1084 rfl ?_
                                            refine x_aload_n C dL_law_1084 rfl 1 rfl 1085 rfl ?_
                                            refine x_iload C dL_law_1085 5 rfl 1087 rfl ?_
                                            refine x_iconst C (v := 2) dL_law_1087 (by decide) 1088 rfl ?_
                                            refine x_iadd C dL_law_1088 1089 rfl ?_
                                            obtain ⟨hin, h⟩ := gi_some h
                                            refine x_sld C S hin dL_law_1089 1090 rfl ?_
                                            obtain ⟨r1090, σ1090, h1090, h⟩ := bn_some h
                                            refine x_callV C (st := []) 29 [.int (xs ((l4 + 1) : Int32).toNatClampNeg), .int (xs ((l4 + 2) : Int32).toNatClampNeg)] (c_X7_ifChanged  h1090) mi_X7_ifChanged (gt_29 g _) rfl q_1001 rfl ⟨rfl, rfl⟩ ⟨Nat.le_of_ble_eq_true rfl, Nat.le_of_ble_eq_true rfl⟩ ga1 _ rfl (Nat.le_of_ble_eq_true rfl) dL_law_1090 1093 rfl ?_
                                            refine x_istore C [(6, .int r1090), (5, .int r1072), (0, .ref b), (1, .ref (adr g 0)), (2, .ref (adr g 29)), (3, .ref (adr g 40)), (4, .int l4)] dL_law_1093 (by decide) rfl 1095 rfl ?_
                                            refine x_aload_n C dL_law_1095 rfl 4 rfl 1096 rfl ?_
                                            obtain ⟨r1096, h1096, h⟩ := bv_some h
                                            refine x_callV C (st := []) 29 [] (c_X7_thrown  h1096) mi_X7_thrown (gt_29 g _) rfl q_816 rfl ⟨rfl, rfl⟩ ⟨Nat.le_of_ble_eq_true rfl, Nat.le_of_ble_eq_true rfl⟩ ga1 _ rfl (Nat.le_of_ble_eq_true rfl) dL_law_1096 1099 rfl ?_
                                            refine x_iload C dL_law_1099 1 rfl 1101 rfl ?_
                                            refine x_icmp_eq C dL_law_1101 1106 (by decide) 1104 rfl (fun hc => ?_) (fun hc => ?_)
                                            · have h := ip hc h
                                              refine x_iload C dL_law_1106 1 rfl 1108 rfl ?_
                                              refine x_if_ne C dL_law_1108 1123 (by decide) 1111 rfl (fun hc => ?_) (fun hc => ?_)
                                              · have h := iq hc h
                                                refine x_goto C dL_law_1123 1441 (by decide) ?_
                                                refine x_iinc C [(4, .int (l4 + 4)), (6, .int r1090), (5, .int r1072), (0, .ref b), (1, .ref (adr g 0)), (2, .ref (adr g 29)), (3, .ref (adr g 40))] dL_law_1441 6 rfl rfl (by decide) rfl 1444 rfl ?_
                                                refine x_goto C dL_law_1444 23 (by decide) ?_
                                                cases h
                                                exact x_sub [3, 4, 5, 6, 0] rfl (hI0 ((l4 + 4), σ1090) ht)
                                              · have h := ip hc h
                                                refine x_aload_n C dL_law_1111 rfl 5 rfl 1112 rfl ?_
                                                refine x_iconst C (v := 0) dL_law_1112 (by decide) 1113 rfl ?_
                                                refine x_lald C dL_law_1113 1114 rfl ?_
                                                refine x_iload C dL_law_1114 0 rfl 1116 rfl ?_
                                                refine x_i2l C dL_law_1116 1117 rfl ?_
                                                refine x_lcmp C dL_law_1117 1118 rfl ?_
                                                refine x_if_eq C dL_law_1118 1123 (by decide) 1121 rfl (fun hc => ?_) (fun hc => ?_)
                                                · have h := ip hc h
                                                  refine x_goto C dL_law_1123 1441 (by decide) ?_
                                                  refine x_iinc C [(4, .int (l4 + 4)), (6, .int r1090), (5, .int r1072), (0, .ref b), (1, .ref (adr g 0)), (2, .ref (adr g 29)), (3, .ref (adr g 40))] dL_law_1441 6 rfl rfl (by decide) rfl 1444 rfl ?_
                                                  refine x_goto C dL_law_1444 23 (by decide) ?_
                                                  cases h
                                                  exact x_sub [3, 4, 5, 6, 0] rfl (hI0 ((l4 + 4), σ1090) ht)
                                                · have h := iq hc h
                                                  refine x_iconst C (v := 0) dL_law_1121 (by decide) 1122 rfl ?_
                                                  cases h
                                            · have h := iq hc h
                                              refine x_iconst C (v := 0) dL_law_1104 (by decide) 1105 rfl ?_
                                              cases h
                                          · have h := iq hc19 h
                                            by_cases hc20 : ((xs (l4 : Int32).toNatClampNeg) &&& 31) = 20
                                            · have h := ip hc20 h
                                              refine x_tabIn C 20 hc20 dL_law_39 1087 (by decide +kernel) 1126 (by decide) ?_
                                              refine x_aload_n C dL_law_1126 rfl 1 rfl 1127 rfl ?_
                                              refine x_aload_n C dL_law_1127 rfl 0 rfl 1128 rfl ?_
                                              refine x_iload C dL_law_1128 4 rfl 1130 rfl ?_
                                              refine x_iconst C (v := 1) dL_law_1130 (by decide) 1131 rfl ?_
                                              refine x_iadd C dL_law_1131 1132 rfl ?_
                                              obtain ⟨hin, h⟩ := gi_some h
                                              refine x_sld C S hin dL_law_1132 1133 rfl ?_
                                              refine x_aload_n C dL_law_1133 rfl 0 rfl 1134 rfl ?_
                                              refine x_iload C dL_law_1134 4 rfl 1136 rfl ?_
                                              refine x_iconst C (v := 2) dL_law_1136 (by decide) 1137 rfl ?_
                                              refine x_iadd C dL_law_1137 1138 rfl ?_
                                              obtain ⟨hin, h⟩ := gi_some h
                                              refine x_sld C S hin dL_law_1138 1139 rfl ?_
                                              refine x_aload_n C dL_law_1139 rfl 3 rfl 1140 rfl ?_
                                              obtain ⟨r1140, σ1140, h1140, h⟩ := bn_some h
                                              refine x_callH C hX (n := 4) [.ref (adr g 0), .int (xs ((l4 + 1) : Int32).toNatClampNeg), .int (xs ((l4 + 2) : Int32).toNatClampNeg), .ref (adr g 40)] (c_L_node hl9 h1140) q_734 q_733 q_732 q_0 (by decide +kernel) rfl ⟨rfl, rfl⟩ ⟨Nat.le_of_ble_eq_true rfl, Nat.le_of_ble_eq_true rfl⟩ ga1 _ rfl (Nat.le_of_ble_eq_true rfl) dL_law_1140 1143 rfl ?_
                                              refine x_istore C [(5, .int r1140), (0, .ref b), (1, .ref (adr g 0)), (2, .ref (adr g 29)), (3, .ref (adr g 40)), (4, .int l4)] dL_law_1143 (by decide) rfl 1145 rfl ?_
                                              refine x_aload_n C dL_law_1145 rfl 3 rfl 1146 rfl ?_
                                              refine x_aload_n C dL_law_1146 rfl 1 rfl 1147 rfl ?_
                                              refine x_iload C dL_law_1147 5 rfl 1149 rfl ?_
                                              refine x_iconst C (v := 1) dL_law_1149 (by decide) 1150 rfl ?_
                                              refine x_iadd C dL_law_1150 1151 rfl ?_
                                              obtain ⟨hin, h⟩ := gi_some h
                                              refine x_sld C S hin dL_law_1151 1152 rfl ?_
                                              refine x_aload_n C dL_law_1152 rfl 1 rfl 1153 rfl ?_
                                              refine x_iload C dL_law_1153 5 rfl 1155 rfl ?_
                                              refine x_iconst C (v := 2) dL_law_1155 (by decide) 1156 rfl ?_
                                              refine x_iadd C dL_law_1156 1157 rfl ?_
                                              obtain ⟨hin, h⟩ := gi_some h
                                              refine x_sld C S hin dL_law_1157 1158 rfl ?_
                                              obtain ⟨r1158, σ1158, h1158, h⟩ := bn_some h
                                              refine x_callV C (st := []) 29 [.int (xs ((l4 + 1) : Int32).toNatClampNeg), .int (xs ((l4 + 2) : Int32).toNatClampNeg)] (c_X7_node  h1158) mi_X7_node (gt_29 g _) rfl q_1005 rfl ⟨rfl, rfl⟩ ⟨Nat.le_of_ble_eq_true rfl, Nat.le_of_ble_eq_true rfl⟩ ga1 _ rfl (Nat.le_of_ble_eq_true rfl) dL_law_1158 1161 rfl ?_
                                              refine x_istore C [(6, .int r1158), (5, .int r1140), (0, .ref b), (1, .ref (adr g 0)), (2, .ref (adr g 29)), (3, .ref (adr g 40)), (4, .int l4)] dL_law_1161 (by decide) rfl 1163 rfl ?_
                                              refine x_aload_n C dL_law_1163 rfl 4 rfl 1164 rfl ?_
                                              obtain ⟨r1164, h1164, h⟩ := bv_some h
                                              refine x_callV C (st := []) 29 [] (c_X7_thrown  h1164) mi_X7_thrown (gt_29 g _) rfl q_816 rfl ⟨rfl, rfl⟩ ⟨Nat.le_of_ble_eq_true rfl, Nat.le_of_ble_eq_true rfl⟩ ga1 _ rfl (Nat.le_of_ble_eq_true rfl) dL_law_1164 1167 rfl ?_
                                              refine x_iload C dL_law_1167 1 rfl 1169 rfl ?_
                                              refine x_icmp_eq C dL_law_1169 1174 (by decide) 1172 rfl (fun hc => ?_) (fun hc => ?_)
                                              · have h := ip hc h
                                                refine x_iload C dL_law_1174 1 rfl 1176 rfl ?_
                                                refine x_if_ne C dL_law_1176 1191 (by decide) 1179 rfl (fun hc => ?_) (fun hc => ?_)
                                                · have h := iq hc h
                                                  refine x_goto C dL_law_1191 1441 (by decide) ?_
                                                  refine x_iinc C [(4, .int (l4 + 4)), (6, .int r1158), (5, .int r1140), (0, .ref b), (1, .ref (adr g 0)), (2, .ref (adr g 29)), (3, .ref (adr g 40))] dL_law_1441 6 rfl rfl (by decide) rfl 1444 rfl ?_
                                                  refine x_goto C dL_law_1444 23 (by decide) ?_
                                                  cases h
                                                  exact x_sub [3, 4, 5, 6, 0] rfl (hI0 ((l4 + 4), σ1158) ht)
                                                · have h := ip hc h
                                                  refine x_aload_n C dL_law_1179 rfl 5 rfl 1180 rfl ?_
                                                  refine x_iconst C (v := 0) dL_law_1180 (by decide) 1181 rfl ?_
                                                  refine x_lald C dL_law_1181 1182 rfl ?_
                                                  refine x_iload C dL_law_1182 0 rfl 1184 rfl ?_
                                                  refine x_i2l C dL_law_1184 1185 rfl ?_
                                                  refine x_lcmp C dL_law_1185 1186 rfl ?_
                                                  refine x_if_eq C dL_law_1186 1191 (by decide) 1189 rfl (fun hc => ?_) (fun hc => ?_)
                                                  · have h := ip hc h
                                                    refine x_goto C dL_law_1191 1441 (by decide) ?_
                                                    refine x_iinc C [(4, .int (l4 + 4)), (6, .int r1158), (5, .int r1140), (0, .ref b), (1, .ref (adr g 0)), (2, .ref (adr g 29)), (3, .ref (adr g 40))] dL_law_1441 6 rfl rfl (by decide) rfl 1444 rfl ?_
                                                    refine x_goto C dL_law_1444 23 (by decide) ?_
                                                    cases h
                                                    exact x_sub [3, 4, 5, 6, 0] rfl (hI0 ((l4 + 4), σ1158) ht)
                                                  · have h := iq hc h
                                                    refine x_iconst C (v := 0) dL_law_1189 (by decide) 1190 rfl ?_
                                                    cases h
                                              · have h := iq hc h
                                                refine x_iconst C (v := 0) dL_law_1172 (by decide) 1173 rfl ?_
                                                cases h
                                            · have h := iq hc20 h
                                              by_cases hc21 : ((xs (l4 : Int32).toNatClampNeg) &&& 31) = 21
                                              · have h := ip hc21 h
                                                refine x_tabIn C 21 hc21 dL_law_39 1155 (by decide +kernel) 1194 (by decide) ?_
                                                refine x_aload_n C dL_law_1194 rfl 1 rfl 1195 rfl ?_
                                                refine x_aload_n C dL_law_1195 rfl 0 rfl 1196 rfl ?_
                                                refine x_iload C dL_law_1196 4 rfl 1198 rfl ?_
                                                refine x_iconst C (v := 1) dL_law_1198 (by decide) 1199 rfl ?_
                                                refine x_iadd C dL_law_1199 1200 rfl ?_
                                                obtain ⟨hin, h⟩ := gi_some h
                                                refine x_sld C S hin dL_law_1200 1201 rfl ?_
                                                refine x_aload_n C dL_law_1201 rfl 0 rfl 1202 rfl ?_
                                                refine x_iload C dL_law_1202 4 rfl 1204 rfl ?_
                                                refine x_iconst C (v := 2) dL_law_1204 (by decide) 1205 rfl ?_
                                                refine x_iadd C dL_law_1205 1206 rfl ?_
                                                obtain ⟨hin, h⟩ := gi_some h
                                                refine x_sld C S hin dL_law_1206 1207 rfl ?_
                                                refine x_aload_n C dL_law_1207 rfl 0 rfl 1208 rfl ?_
                                                refine x_iload C dL_law_1208 4 rfl 1210 rfl ?_
                                                refine x_iconst C (v := 3) dL_law_1210 (by decide) 1211 rfl ?_
                                                refine x_iadd C dL_law_1211 1212 rfl ?_
                                                obtain ⟨hin, h⟩ := gi_some h
                                                refine x_sld C S hin dL_law_1212 1213 rfl ?_
                                                refine x_aload_n C dL_law_1213 rfl 3 rfl 1214 rfl ?_
                                                obtain ⟨r1214, σ1214, h1214, h⟩ := bn_some h
                                                refine x_callH C hX (n := 5) [.ref (adr g 0), .int (xs ((l4 + 1) : Int32).toNatClampNeg), .int (xs ((l4 + 2) : Int32).toNatClampNeg), .int (xs ((l4 + 3) : Int32).toNatClampNeg), .ref (adr g 40)] (c_L_edge hl9 h1214) q_738 q_737 q_736 q_0 (by decide +kernel) rfl ⟨rfl, rfl⟩ ⟨Nat.le_of_ble_eq_true rfl, Nat.le_of_ble_eq_true rfl⟩ ga1 _ rfl (Nat.le_of_ble_eq_true rfl) dL_law_1214 1217 rfl ?_
                                                refine x_istore C [(5, .int r1214), (0, .ref b), (1, .ref (adr g 0)), (2, .ref (adr g 29)), (3, .ref (adr g 40)), (4, .int l4)] dL_law_1217 (by decide) rfl 1219 rfl ?_
                                                refine x_aload_n C dL_law_1219 rfl 3 rfl 1220 rfl ?_
                                                refine x_aload_n C dL_law_1220 rfl 1 rfl 1221 rfl ?_
                                                refine x_iload C dL_law_1221 5 rfl 1223 rfl ?_
                                                refine x_iconst C (v := 1) dL_law_1223 (by decide) 1224 rfl ?_
                                                refine x_iadd C dL_law_1224 1225 rfl ?_
                                                obtain ⟨hin, h⟩ := gi_some h
                                                refine x_sld C S hin dL_law_1225 1226 rfl ?_
                                                refine x_aload_n C dL_law_1226 rfl 1 rfl 1227 rfl ?_
                                                refine x_iload C dL_law_1227 5 rfl 1229 rfl ?_
                                                refine x_iconst C (v := 2) dL_law_1229 (by decide) 1230 rfl ?_
                                                refine x_iadd C dL_law_1230 1231 rfl ?_
                                                obtain ⟨hin, h⟩ := gi_some h
                                                refine x_sld C S hin dL_law_1231 1232 rfl ?_
                                                refine x_aload_n C dL_law_1232 rfl 1 rfl 1233 rfl ?_
                                                refine x_iload C dL_law_1233 5 rfl 1235 rfl ?_
                                                refine x_iconst C (v := 3) dL_law_1235 (by decide) 1236 rfl ?_
                                                refine x_iadd C dL_law_1236 1237 rfl ?_
                                                obtain ⟨hin, h⟩ := gi_some h
                                                refine x_sld C S hin dL_law_1237 1238 rfl ?_
                                                obtain ⟨r1238, σ1238, h1238, h⟩ := bn_some h
                                                refine x_callV C (st := []) 29 [.int (xs ((l4 + 1) : Int32).toNatClampNeg), .int (xs ((l4 + 2) : Int32).toNatClampNeg), .int (xs ((l4 + 3) : Int32).toNatClampNeg)] (c_X7_edge  h1238) mi_X7_edge (gt_29 g _) rfl q_1025 rfl ⟨rfl, rfl⟩ ⟨Nat.le_of_ble_eq_true rfl, Nat.le_of_ble_eq_true rfl⟩ ga1 _ rfl (Nat.le_of_ble_eq_true rfl) dL_law_1238 1241 rfl ?_
                                                refine x_istore C [(6, .int r1238), (5, .int r1214), (0, .ref b), (1, .ref (adr g 0)), (2, .ref (adr g 29)), (3, .ref (adr g 40)), (4, .int l4)] dL_law_1241 (by decide) rfl 1243 rfl ?_
                                                refine x_aload_n C dL_law_1243 rfl 4 rfl 1244 rfl ?_
                                                obtain ⟨r1244, h1244, h⟩ := bv_some h
                                                refine x_callV C (st := []) 29 [] (c_X7_thrown  h1244) mi_X7_thrown (gt_29 g _) rfl q_816 rfl ⟨rfl, rfl⟩ ⟨Nat.le_of_ble_eq_true rfl, Nat.le_of_ble_eq_true rfl⟩ ga1 _ rfl (Nat.le_of_ble_eq_true rfl) dL_law_1244 1247 rfl ?_
                                                refine x_iload C dL_law_1247 1 rfl 1249 rfl ?_
                                                refine x_icmp_eq C dL_law_1249 1254 (by decide) 1252 rfl (fun hc => ?_) (fun hc => ?_)
                                                · have h := ip hc h
                                                  refine x_iload C dL_law_1254 1 rfl 1256 rfl ?_
                                                  refine x_if_ne C dL_law_1256 1271 (by decide) 1259 rfl (fun hc => ?_) (fun hc => ?_)
                                                  · have h := iq hc h
                                                    refine x_goto C dL_law_1271 1441 (by decide) ?_
                                                    refine x_iinc C [(4, .int (l4 + 4)), (6, .int r1238), (5, .int r1214), (0, .ref b), (1, .ref (adr g 0)), (2, .ref (adr g 29)), (3, .ref (adr g 40))] dL_law_1441 6 rfl rfl (by decide) rfl 1444 rfl ?_
                                                    refine x_goto C dL_law_1444 23 (by decide) ?_
                                                    cases h
                                                    exact x_sub [3, 4, 5, 6, 0] rfl (hI0 ((l4 + 4), σ1238) ht)
                                                  · have h := ip hc h
                                                    refine x_aload_n C dL_law_1259 rfl 5 rfl 1260 rfl ?_
                                                    refine x_iconst C (v := 0) dL_law_1260 (by decide) 1261 rfl ?_
                                                    refine x_lald C dL_law_1261 1262 rfl ?_
                                                    refine x_iload C dL_law_1262 0 rfl 1264 rfl ?_
                                                    refine x_i2l C dL_law_1264 1265 rfl ?_
                                                    refine x_lcmp C dL_law_1265 1266 rfl ?_
                                                    refine x_if_eq C dL_law_1266 1271 (by decide) 1269 rfl (fun hc => ?_) (fun hc => ?_)
                                                    · have h := ip hc h
                                                      refine x_goto C dL_law_1271 1441 (by decide) ?_
                                                      refine x_iinc C [(4, .int (l4 + 4)), (6, .int r1238), (5, .int r1214), (0, .ref b), (1, .ref (adr g 0)), (2, .ref (adr g 29)), (3, .ref (adr g 40))] dL_law_1441 6 rfl rfl (by decide) rfl 1444 rfl ?_
                                                      refine x_goto C dL_law_1444 23 (by decide) ?_
                                                      cases h
                                                      exact x_sub [3, 4, 5, 6, 0] rfl (hI0 ((l4 + 4), σ1238) ht)
                                                    · have h := iq hc h
                                                      refine x_iconst C (v := 0) dL_law_1269 (by decide) 1270 rfl ?_
                                                      cases h
                                                · have h := iq hc h
                                                  refine x_iconst C (v := 0) dL_law_1252 (by decide) 1253 rfl ?_
                                                  cases h
                                              · have h := iq hc21 h
                                                by_cases hc22 : ((xs (l4 : Int32).toNatClampNeg) &&& 31) = 22
                                                · have h := ip hc22 h
                                                  refine x_tabIn C 22 hc22 dL_law_39 1235 (by decide +kernel) 1274 (by decide) ?_
                                                  refine x_aload_n C dL_law_1274 rfl 1 rfl 1275 rfl ?_
                                                  refine x_aload_n C dL_law_1275 rfl 0 rfl 1276 rfl ?_
                                                  refine x_iload C dL_law_1276 4 rfl 1278 rfl ?_
                                                  refine x_iconst C (v := 1) dL_law_1278 (by decide) 1279 rfl ?_
                                                  refine x_iadd C dL_law_1279 1280 rfl ?_
                                                  obtain ⟨hin, h⟩ := gi_some h
                                                  refine x_sld C S hin dL_law_1280 1281 rfl ?_
                                                  refine x_aload_n C dL_law_1281 rfl 3 rfl 1282 rfl ?_
                                                  obtain ⟨r1282, σ1282, h1282, h⟩ := bn_some h
                                                  refine x_callH C hX (n := 3) [.ref (adr g 0), .int (xs ((l4 + 1) : Int32).toNatClampNeg), .ref (adr g 40)] (c_L_count hl9 h1282) q_742 q_741 q_740 q_0 (by decide +kernel) rfl ⟨rfl, rfl⟩ ⟨Nat.le_of_ble_eq_true rfl, Nat.le_of_ble_eq_true rfl⟩ ga1 _ rfl (Nat.le_of_ble_eq_true rfl) dL_law_1282 1285 rfl ?_
                                                  refine x_istore C [(5, .int r1282), (0, .ref b), (1, .ref (adr g 0)), (2, .ref (adr g 29)), (3, .ref (adr g 40)), (4, .int l4)] dL_law_1285 (by decide) rfl 1287 rfl ?_
                                                  refine x_aload_n C dL_law_1287 rfl 3 rfl 1288 rfl ?_
                                                  refine x_aload_n C dL_law_1288 rfl 1 rfl 1289 rfl ?_
                                                  refine x_iload C dL_law_1289 5 rfl 1291 rfl ?_
                                                  refine x_iconst C (v := 1) dL_law_1291 (by decide) 1292 rfl ?_
                                                  refine x_iadd C dL_law_1292 1293 rfl ?_
                                                  obtain ⟨hin, h⟩ := gi_some h
                                                  refine x_sld C S hin dL_law_1293 1294 rfl ?_
                                                  obtain ⟨r1294, σ1294, h1294, h⟩ := bn_some h
                                                  refine x_callV C (st := []) 29 [.int (xs ((l4 + 1) : Int32).toNatClampNeg)] (c_X7_count  h1294) mi_X7_count (gt_29 g _) rfl q_1037 rfl ⟨rfl, rfl⟩ ⟨Nat.le_of_ble_eq_true rfl, Nat.le_of_ble_eq_true rfl⟩ ga1 _ rfl (Nat.le_of_ble_eq_true rfl) dL_law_1294 1297 rfl ?_
                                                  refine x_istore C [(6, .int r1294), (5, .int r1282), (0, .ref b), (1, .ref (adr g 0)), (2, .ref (adr g 29)), (3, .ref (adr g 40)), (4, .int l4)] dL_law_1297 (by decide) rfl 1299 rfl ?_
                                                  refine x_aload_n C dL_law_1299 rfl 4 rfl 1300 rfl ?_
                                                  obtain ⟨r1300, h1300, h⟩ := bv_some h
                                                  refine x_callV C (st := []) 29 [] (c_X7_thrown  h1300) mi_X7_thrown (gt_29 g _) rfl q_816 rfl ⟨rfl, rfl⟩ ⟨Nat.le_of_ble_eq_true rfl, Nat.le_of_ble_eq_true rfl⟩ ga1 _ rfl (Nat.le_of_ble_eq_true rfl) dL_law_1300 1303 rfl ?_
                                                  refine x_iload C dL_law_1303 1 rfl 1305 rfl ?_
                                                  refine x_icmp_eq C dL_law_1305 1310 (by decide) 1308 rfl (fun hc => ?_) (fun hc => ?_)
                                                  · have h := ip hc h
                                                    refine x_iload C dL_law_1310 1 rfl 1312 rfl ?_
                                                    refine x_if_ne C dL_law_1312 1327 (by decide) 1315 rfl (fun hc => ?_) (fun hc => ?_)
                                                    · have h := iq hc h
                                                      refine x_goto C dL_law_1327 1441 (by decide) ?_
                                                      refine x_iinc C [(4, .int (l4 + 4)), (6, .int r1294), (5, .int r1282), (0, .ref b), (1, .ref (adr g 0)), (2, .ref (adr g 29)), (3, .ref (adr g 40))] dL_law_1441 6 rfl rfl (by decide) rfl 1444 rfl ?_
                                                      refine x_goto C dL_law_1444 23 (by decide) ?_
                                                      cases h
                                                      exact x_sub [3, 4, 5, 6, 0] rfl (hI0 ((l4 + 4), σ1294) ht)
                                                    · have h := ip hc h
                                                      refine x_aload_n C dL_law_1315 rfl 5 rfl 1316 rfl ?_
                                                      refine x_iconst C (v := 0) dL_law_1316 (by decide) 1317 rfl ?_
                                                      refine x_lald C dL_law_1317 1318 rfl ?_
                                                      refine x_iload C dL_law_1318 0 rfl 1320 rfl ?_
                                                      refine x_i2l C dL_law_1320 1321 rfl ?_
                                                      refine x_lcmp C dL_law_1321 1322 rfl ?_
                                                      refine x_if_eq C dL_law_1322 1327 (by decide) 1325 rfl (fun hc => ?_) (fun hc => ?_)
                                                      · have h := ip hc h
                                                        refine x_goto C dL_law_1327 1441 (by decide) ?_
                                                        refine x_iinc C [(4, .int (l4 + 4)), (6, .int r1294), (5, .int r1282), (0, .ref b), (1, .ref (adr g 0)), (2, .ref (adr g 29)), (3, .ref (adr g 40))] dL_law_1441 6 rfl rfl (by decide) rfl 1444 rfl ?_
                                                        refine x_goto C dL_law_1444 23 (by decide) ?_
                                                        cases h
                                                        exact x_sub [3, 4, 5, 6, 0] rfl (hI0 ((l4 + 4), σ1294) ht)
                                                      · have h := iq hc h
                                                        refine x_iconst C (v := 0) dL_law_1325 (by decide) 1326 rfl ?_
                                                        cases h
                                                  · have h := iq hc h
                                                    refine x_iconst C (v := 0) dL_law_1308 (by decide) 1309 rfl ?_
                                                    cases h
                                                · have h := iq hc22 h
                                                  by_cases hc23 : ((xs (l4 : Int32).toNatClampNeg) &&& 31) = 23
                                                  · have h := ip hc23 h
                                                    refine x_tabIn C 23 hc23 dL_law_39 1291 (by decide +kernel) 1330 (by decide) ?_
                                                    refine x_aload_n C dL_law_1330 rfl 1 rfl 1331 rfl ?_
                                                    refine x_aload_n C dL_law_1331 rfl 0 rfl 1332 rfl ?_
                                                    refine x_iload C dL_law_1332 4 rfl 1334 rfl ?_
                                                    refine x_iconst C (v := 1) dL_law_1334 (by decide) 1335 rfl ?_
                                                    refine x_iadd C dL_law_1335 1336 rfl ?_
                                                    obtain ⟨hin, h⟩ := gi_some h
                                                    refine x_sld C S hin dL_law_1336 1337 rfl ?_
                                                    refine x_aload_n C dL_law_1337 rfl 3 rfl 1338 rfl ?_
                                                    obtain ⟨r1338, σ1338, h1338, h⟩ := bn_some h
                                                    refine x_callH C hX (n := 3) [.ref (adr g 0), .int (xs ((l4 + 1) : Int32).toNatClampNeg), .ref (adr g 40)] (c_L_difference hl9 h1338) q_746 q_745 q_744 q_0 (by decide +kernel) rfl ⟨rfl, rfl⟩ ⟨Nat.le_of_ble_eq_true rfl, Nat.le_of_ble_eq_true rfl⟩ ga1 _ rfl (Nat.le_of_ble_eq_true rfl) dL_law_1338 1341 rfl ?_
                                                    refine x_istore C [(5, .int r1338), (0, .ref b), (1, .ref (adr g 0)), (2, .ref (adr g 29)), (3, .ref (adr g 40)), (4, .int l4)] dL_law_1341 (by decide) rfl 1343 rfl ?_
                                                    refine x_aload_n C dL_law_1343 rfl 3 rfl 1344 rfl ?_
                                                    refine x_aload_n C dL_law_1344 rfl 1 rfl 1345 rfl ?_
                                                    refine x_iload C dL_law_1345 5 rfl 1347 rfl ?_
                                                    refine x_iconst C (v := 1) dL_law_1347 (by decide) 1348 rfl ?_
                                                    refine x_iadd C dL_law_1348 1349 rfl ?_
                                                    obtain ⟨hin, h⟩ := gi_some h
                                                    refine x_sld C S hin dL_law_1349 1350 rfl ?_
                                                    obtain ⟨r1350, σ1350, h1350, h⟩ := bn_some h
                                                    refine x_callV C (st := []) 29 [.int (xs ((l4 + 1) : Int32).toNatClampNeg)] (c_X7_difference  h1350) mi_X7_difference (gt_29 g _) rfl q_1057 rfl ⟨rfl, rfl⟩ ⟨Nat.le_of_ble_eq_true rfl, Nat.le_of_ble_eq_true rfl⟩ ga1 _ rfl (Nat.le_of_ble_eq_true rfl) dL_law_1350 1353 rfl ?_
                                                    refine x_istore C [(6, .int r1350), (5, .int r1338), (0, .ref b), (1, .ref (adr g 0)), (2, .ref (adr g 29)), (3, .ref (adr g 40)), (4, .int l4)] dL_law_1353 (by decide) rfl 1355 rfl ?_
                                                    refine x_aload_n C dL_law_1355 rfl 4 rfl 1356 rfl ?_
                                                    obtain ⟨r1356, h1356, h⟩ := bv_some h
                                                    refine x_callV C (st := []) 29 [] (c_X7_thrown  h1356) mi_X7_thrown (gt_29 g _) rfl q_816 rfl ⟨rfl, rfl⟩ ⟨Nat.le_of_ble_eq_true rfl, Nat.le_of_ble_eq_true rfl⟩ ga1 _ rfl (Nat.le_of_ble_eq_true rfl) dL_law_1356 1359 rfl ?_
                                                    refine x_iload C dL_law_1359 1 rfl 1361 rfl ?_
                                                    refine x_icmp_eq C dL_law_1361 1366 (by decide) 1364 rfl (fun hc => ?_) (fun hc => ?_)
                                                    · have h := ip hc h
                                                      refine x_iload C dL_law_1366 1 rfl 1368 rfl ?_
                                                      refine x_if_ne C dL_law_1368 1383 (by decide) 1371 rfl (fun hc => ?_) (fun hc => ?_)
                                                      · have h := iq hc h
                                                        refine x_goto C dL_law_1383 1441 (by decide) ?_
                                                        refine x_iinc C [(4, .int (l4 + 4)), (6, .int r1350), (5, .int r1338), (0, .ref b), (1, .ref (adr g 0)), (2, .ref (adr g 29)), (3, .ref (adr g 40))] dL_law_1441 6 rfl rfl (by decide) rfl 1444 rfl ?_
                                                        refine x_goto C dL_law_1444 23 (by decide) ?_
                                                        cases h
                                                        exact x_sub [3, 4, 5, 6, 0] rfl (hI0 ((l4 + 4), σ1350) ht)
                                                      · have h := ip hc h
                                                        refine x_aload_n C dL_law_1371 rfl 5 rfl 1372 rfl ?_
                                                        refine x_iconst C (v := 0) dL_law_1372 (by decide) 1373 rfl ?_
                                                        refine x_lald C dL_law_1373 1374 rfl ?_
                                                        refine x_iload C dL_law_1374 0 rfl 1376 rfl ?_
                                                        refine x_i2l C dL_law_1376 1377 rfl ?_
                                                        refine x_lcmp C dL_law_1377 1378 rfl ?_
                                                        refine x_if_eq C dL_law_1378 1383 (by decide) 1381 rfl (fun hc => ?_) (fun hc => ?_)
                                                        · have h := ip hc h
                                                          refine x_goto C dL_law_1383 1441 (by decide) ?_
                                                          refine x_iinc C [(4, .int (l4 + 4)), (6, .int r1350), (5, .int r1338), (0, .ref b), (1, .ref (adr g 0)), (2, .ref (adr g 29)), (3, .ref (adr g 40))] dL_law_1441 6 rfl rfl (by decide) rfl 1444 rfl ?_
                                                          refine x_goto C dL_law_1444 23 (by decide) ?_
                                                          cases h
                                                          exact x_sub [3, 4, 5, 6, 0] rfl (hI0 ((l4 + 4), σ1350) ht)
                                                        · have h := iq hc h
                                                          refine x_iconst C (v := 0) dL_law_1381 (by decide) 1382 rfl ?_
                                                          cases h
                                                    · have h := iq hc h
                                                      refine x_iconst C (v := 0) dL_law_1364 (by decide) 1365 rfl ?_
                                                      cases h
                                                  · have h := iq hc23 h
                                                    by_cases hc24 : ((xs (l4 : Int32).toNatClampNeg) &&& 31) = 24
                                                    · have h := ip hc24 h
                                                      refine x_tabIn C 24 hc24 dL_law_39 1347 (by decide +kernel) 1386 (by decide) ?_
                                                      exact x_sub [0, 1, 2, 3, 4] rfl (w_law_1386 C S hX hl9 ga0 ga1 hI0 hD hE h ht)
                                                    · have h := iq hc24 h
                                                      by_cases hc25 : ((xs (l4 : Int32).toNatClampNeg) &&& 31) = 25
                                                      · have h := ip hc25 h
                                                        refine x_tabIn C 25 hc25 dL_law_39 1388 (by decide +kernel) 1427 (by decide) ?_
                                                        refine x_aload_n C dL_law_1427 rfl 1 rfl 1428 rfl ?_
                                                        obtain ⟨r1428, σ1428, h1428, h⟩ := bn_some h
                                                        refine x_callV C (st := []) 0 [] (c_X6_digest  h1428) mi_X6_digest (gt_0 g _) rfl q_375 rfl ⟨rfl, rfl⟩ ⟨Nat.le_of_ble_eq_true rfl, Nat.le_of_ble_eq_true rfl⟩ ga0 _ rfl (Nat.le_of_ble_eq_true rfl) dL_law_1428 1431 rfl ?_
                                                        refine x_aload_n C dL_law_1431 rfl 2 rfl 1432 rfl ?_
                                                        obtain ⟨r1432, σ1432, h1432, h⟩ := bn_some h
                                                        refine x_callV C (st := [.long r1428]) 29 [] (c_X7_digest  h1432) mi_X7_digest (gt_29 g _) rfl q_1081 rfl ⟨rfl, rfl⟩ ⟨Nat.le_of_ble_eq_true rfl, Nat.le_of_ble_eq_true rfl⟩ ga0 _ rfl (Nat.le_of_ble_eq_true rfl) dL_law_1432 1435 rfl ?_
                                                        refine x_lcmp C dL_law_1435 1436 rfl ?_
                                                        refine x_if_eq C dL_law_1436 1441 (by decide) 1439 rfl (fun hc => ?_) (fun hc => ?_)
                                                        · have h := ip hc h
                                                          refine x_iinc C [(4, .int (l4 + 4)), (0, .ref b), (1, .ref (adr g 0)), (2, .ref (adr g 29)), (3, .ref (adr g 40))] dL_law_1441 4 rfl rfl (by decide) rfl 1444 rfl ?_
                                                          refine x_goto C dL_law_1444 23 (by decide) ?_
                                                          cases h
                                                          refine x_wid (Nat.le_succ ce) (Nat.le_add_right sl 6) ?_
                                                          exact x_sub [1, 2, 3, 4, 0] rfl (hI0 ((l4 + 4), σ1432) ht)
                                                        · have h := iq hc h
                                                          refine x_iconst C (v := 0) dL_law_1439 (by decide) 1440 rfl ?_
                                                          cases h
                                                      · have h := iq hc25 h
                                                        refine x_tabOut C dL_law_39 (sw_out 25 (by decide) (fun k hk => by
                                                          have hk : k = 0 ∨ k = 1 ∨ k = 2 ∨ k = 3 ∨ k = 4 ∨ k = 5 ∨ k = 6 ∨ k = 7 ∨ k = 8 ∨ k = 9 ∨ k = 10 ∨ k = 11 ∨ k = 12 ∨ k = 13 ∨ k = 14 ∨ k = 15 ∨ k = 16 ∨ k = 17 ∨ k = 18 ∨ k = 19 ∨ k = 20 ∨ k = 21 ∨ k = 22 ∨ k = 23 ∨ k = 24 ∨ k = 25 := by omega
                                                          rcases hk with rfl | rfl | rfl | rfl | rfl | rfl | rfl | rfl | rfl | rfl | rfl | rfl | rfl | rfl | rfl | rfl | rfl | rfl | rfl | rfl | rfl | rfl | rfl | rfl | rfl | rfl <;> assumption)) 1441 (by decide) ?_
                                                        refine x_iinc C [(4, .int (l4 + 4)), (0, .ref b), (1, .ref (adr g 0)), (2, .ref (adr g 29)), (3, .ref (adr g 40))] dL_law_1441 4 rfl rfl (by decide) rfl 1444 rfl ?_
                                                        refine x_goto C dL_law_1444 23 (by decide) ?_
                                                        cases h
                                                        refine x_wid (Nat.le_succ ce) (Nat.le_add_right sl 6) ?_
                                                        exact x_sub [1, 2, 3, 4, 0] rfl (hI0 ((l4 + 4), σ) ht)
