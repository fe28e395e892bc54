/-- java.util.Arrays.fill over an int array of the world -/
def fillf (f : Nat → Int32) (n : Nat) (v : Int32) : Nat → Int32 := fun j => if j < n then v else f j
theorem fillf_zero (f : Nat → Int32) (v : Int32) : fillf f 0 v = f := by funext j; simp [fillf]
theorem fillf_succ (f : Nat → Int32) (n : Nat) (v : Int32) : upd (fillf f n v) n v = fillf f (n + 1) v := by
  funext j
  by_cases h : j = n
  · subst h; simp [upd, fillf]
  · by_cases h2 : j < n
    · simp [upd, fillf, h, h2, Nat.lt_succ_of_lt h2]
    · simp [upd, fillf, h, h2, show ¬ j < n + 1 by omega]
theorem ups_ups (σ : WD) (k : Nat) (f f2 : Nat → Int32) : ups (ups σ k f) k f2 = ups σ k f2 := by
  unfold ups
  refine Prod.ext ?_ rfl
  funext c
  by_cases h : c = k <;> simp [h]
theorem ups_self (σ : WD) (k : Nat) (f : Nat → Int32) : (ups σ k f).1 k = f := by simp [ups]
theorem ups_id (σ : WD) (k : Nat) : ups σ k (σ.1 k) = σ := by
  unfold ups
  refine Prod.ext ?_ rfl
  funext c
  by_cases h : c = k <;> simp [h]
noncomputable def f_X0_clear (a1 : Int32) (σ : WD) : Option (WD) :=
  lt (upi σ 1 0 a1) (fun σ2 => lt (ups σ2 2 (fillf (σ2.1 2) 12 0)) (fun σ10 => lt (upi σ10 1 2 ((σ10.1 1 2) + 1)) (fun σ20 => some σ20)))
noncomputable def f_X3_clear  (σ : WD) : Option (WD) :=
  lt (ups σ 4 (fillf (σ.1 4) 12 (-1))) (fun σ5 => some σ5)
noncomputable def f_X1_clear  (σ : WD) : Option (WD) :=
  lt (upi σ 7 3 0) (fun σ2 => some σ2)
noncomputable def f_X6_begin_11  (σ : WD) : Option ((Int32 × WD) ⊕ Nat) :=
  some (.inr 1)
noncomputable def f_X6_begin_21 (l1 : Int32) (σ : WD) : Option (Int32 × WD) :=
  bv (f_X0_clear l1 σ) (fun σ34 => bv (f_X3_clear σ34) (fun σ41 => bv (f_X1_clear σ41) (fun σ48 => some ((σ.1 1 0), σ48))))
noncomputable def f_X6_begin (a1 : Int32) (σ : WD) : Option ((Int32 × WD) ⊕ Nat) :=
  if a1 < 2 then f_X6_begin_11  σ else if a1 ≤ 12 then ml (f_X6_begin_21 a1 σ) else f_X6_begin_11  σ
noncomputable def f_X6_requireNode_15  (σ : WD) : Option ((Unit) ⊕ Nat) :=
  some (.inr 3)
noncomputable def f_X6_requireNode (a1 : Int32) (σ : WD) : Option ((Unit) ⊕ Nat) :=
  if a1 < 0 then f_X6_requireNode_15  σ else if a1 < (σ.1 1 0) then some (.inl ()) else f_X6_requireNode_15  σ
noncomputable def f_X6_requireDifferent (a1 : Int32) (a2 : Int32) (σ : WD) : Option ((Unit) ⊕ Nat) :=
  if a1 = a2 then some (.inr 1) else some (.inl ())
noncomputable def f_X1_save  (σ : WD) : Option (WD) :=
  gz 4 (lt (upi σ 7 2 (((σ.1 7 2) + 1) - ((σ.1 7 2) + 1) / 4 * 4)) (fun σ9 => gi (σ9.1 7 2) 4 (lt (ups σ9 (9 + ((σ9.1 7 2) : Int32).toNatClampNeg) (va_cpy (σ9.1 2) (σ9.1 (9 + ((σ9.1 7 2) : Int32).toNatClampNeg)) 0 0 12)) (fun σ29 => gi (σ29.1 7 2) 4 (lt (ups σ29 (14 + ((σ29.1 7 2) : Int32).toNatClampNeg) (va_cpy (σ29.1 4) (σ29.1 (14 + ((σ29.1 7 2) : Int32).toNatClampNeg)) 0 0 12)) (fun σ49 => lt (upi σ49 7 3 (if (4 : Int32) < ((σ49.1 7 3) + 1) then (4 : Int32) else ((σ49.1 7 3) + 1))) (fun σ63 => some σ63)))))))
noncomputable def f_X0_joined (a1 : Int32) (a2 : Int32) (σ : WD) : Option (Int32) :=
  gi a1 12 (if (((σ.1 2 (a1 : Int32).toNatClampNeg) >>> (a2 &&& 31)) &&& 1) = 0 then some 0 else some 1)
noncomputable def f_X0_put (a1 : Int32) (a2 : Int32) (a3 : Int32) (σ : WD) : Option (WD) :=
  bv (f_X0_joined a1 a2 σ) (fun r3 => if r3 = a3 then some σ else gi a1 12 (gi a1 12 (lt (upi σ 2 (a1 : Int32).toNatClampNeg ((σ.1 2 (a1 : Int32).toNatClampNeg) ^^^ ((1 : Int32) <<< (a2 &&& 31)))) (fun σ21 => gi a2 12 (gi a2 12 (lt (upi σ21 2 (a2 : Int32).toNatClampNeg ((σ21.1 2 (a2 : Int32).toNatClampNeg) ^^^ ((1 : Int32) <<< (a1 &&& 31)))) (fun σ33 => lt (upi σ33 1 2 ((σ33.1 1 2) + 1)) (fun σ41 => some σ41))))))))
noncomputable def f_X3_has (a1 : Int32) (a2 : Int32) (σ : WD) : Option (Int32) :=
  gi a1 12 (if (σ.1 4 (a1 : Int32).toNatClampNeg) = a2 then some 1 else some 0)
noncomputable def f_X3_part (a1 : Int32) (σ : WD) : Option (WD) :=
  gi a1 12 (li (σ.1 4 (a1 : Int32).toNatClampNeg) (fun v6 => if v6 = (-1) then some σ else gi v6 12 (lt (upi σ 4 (v6 : Int32).toNatClampNeg (-1)) (fun σ18 => gi a1 12 (lt (upi σ18 4 (a1 : Int32).toNatClampNeg (-1)) (fun σ25 => some σ25))))))
noncomputable def f_X6_setEdge_47 (l1 : Int32) (l2 : Int32) (l3 : Int32) (s0 : Int32) (σ : WD) : Option (Int32 × WD) :=
  bv (f_X0_put l1 l2 l3 σ) (fun σ56 => if l3 = 0 then bv (f_X3_has l1 l2 σ56) (fun r69 => if r69 = 0 then some (s0, σ56) else bv (f_X3_part l1 σ56) (fun σ80 => some (s0, σ80))) else some (s0, σ56))
noncomputable def f_X6_setEdge_15 (l1 : Int32) (l2 : Int32) (l3 : Int32) (σ : WD) : Option (Int32 × WD) :=
  bv (f_X1_save σ) (fun σ27 => bv (f_X0_joined l1 l2 σ27) (fun r36 => if r36 = 0 then f_X6_setEdge_47 l1 l2 l3 0 σ27 else f_X6_setEdge_47 l1 l2 l3 1 σ27))
noncomputable def f_X6_setEdge (a1 : Int32) (a2 : Int32) (a3 : Int32) (σ : WD) : Option ((Int32 × WD) ⊕ Nat) :=
  bx (f_X6_requireNode a1 σ) (fun p2 => bx (f_X6_requireNode a2 σ) (fun p7 => bx (f_X6_requireDifferent a1 a2 σ) (fun p12 => ml (f_X6_setEdge_15 a1 a2 a3 σ))))
noncomputable def f_X2_add (a1 : Int32) (σ : WD) : Option (WD) :=
  if 60 ≤ (σ.1 5 1) then some σ else gi (σ.1 5 1) 60 (lt (upi σ 6 ((σ.1 5 1) : Int32).toNatClampNeg a1) (fun σ18 => lt (upi σ18 5 1 ((σ18.1 5 1) + 1)) (fun σ26 => some σ26)))
noncomputable def f_X6_append_12  (σ : WD) : Option ((Int32 × WD) ⊕ Nat) :=
  some (.inr 1)
noncomputable def f_X6_append_44 (l1 : Int32) (σ : WD) : Option (Int32 × WD) :=
  bv (f_X2_add l1 σ) (fun σ49 => some ((σ49.1 5 1), σ49))
noncomputable def f_X6_append (a1 : Int32) (σ : WD) : Option ((Int32 × WD) ⊕ Nat) :=
  if a1 < 32 then f_X6_append_12  σ else if a1 ≤ 126 then if (σ.1 5 1) < 60 then ml (f_X6_append_44 a1 σ) else some (.inr 2) else f_X6_append_12  σ
noncomputable def f_X6_clearInput  (σ : WD) : Option (Int32 × WD) :=
  lt (upi σ 5 1 0) (fun σ13 => some ((σ.1 5 1), σ13))
noncomputable def f_X2_nodeAt (a1 : Int32) (σ : WD) : Option (Int32) :=
  gi a1 60 (some ((σ.1 6 (a1 : Int32).toNatClampNeg) - 97))
noncomputable def f_X2_stateAt_23 (l1 : Int32) (l2 : Int32) (l3 : Int32) (l4 : Int32) (s0 : Int32) (σ : WD) : Option (Int32) :=
  if l2 = 0 then if l4 < 0 then some 4 else if (l3 - 1) ≤ l4 then some 4 else some 1 else if l2 = 1 then if l1 ≤ 0 then some 4 else bv (f_X2_nodeAt (l1 - 1) σ) (fun r85 => if l4 ≤ r85 then some 4 else if l3 ≤ l4 then some 4 else some 2) else if l2 = 2 then if s0 = 0 then gi l1 60 (if (σ.1 6 (l1 : Int32).toNatClampNeg) = 33 then some 3 else some 4) else some 0 else if l2 = 3 then if s0 = 0 then some 4 else some 0 else some 4
noncomputable def f_X2_stateAt (a1 : Int32) (a2 : Int32) (a3 : Int32) (σ : WD) : Option (Int32) :=
  bv (f_X2_nodeAt a1 σ) (fun r2 => gi a1 60 (if (σ.1 6 (a1 : Int32).toNatClampNeg) = 44 then f_X2_stateAt_23 a1 a2 a3 r2 1 σ else f_X2_stateAt_23 a1 a2 a3 r2 0 σ))
noncomputable def f_X2_errorPlace_33  (σ : WD) : Option (Int32) :=
  some (σ.1 5 1)
noncomputable def f_X2_errorPlace_b4 (l1 : Int32) (l2 : Int32) (l3 : Int32) (σ : WD) : Option ((Int32 × Int32) ⊕ (Int32)) :=
  if (σ.1 5 1) ≤ l3 then mr (f_X2_errorPlace_33  σ) else bv (f_X2_stateAt l3 l2 l1 σ) (fun r16 => if r16 = 4 then some (.inr l3) else some (.inl (r16, (l3 + 1))))
noncomputable def f_X2_errorPlace_4 (l1 : Int32) (l2 : Int32) (l3 : Int32) (σ : WD) : Option (Int32) :=
  lp (fun s : Int32 × Int32 => f_X2_errorPlace_b4 l1 s.1 s.2 σ) (l2, l3)
noncomputable def f_X2_errorPlace (a1 : Int32) (σ : WD) : Option (Int32) :=
  f_X2_errorPlace_4 a1 0 0 σ
noncomputable def f_X6_firstError  (σ : WD) : Option (Int32) :=
  bv (f_X2_errorPlace (σ.1 1 0) σ) (fun r11 => some r11)
noncomputable def f_X2_isComplete_26 (l2 : Int32) (σ : WD) : Option (Int32) :=
  if l2 = 2 then some 1 else if l2 = 3 then some 1 else some 0
noncomputable def f_X2_isComplete_b4 (l1 : Int32) (l2 : Int32) (l3 : Int32) (σ : WD) : Option ((Int32 × Int32) ⊕ (Int32)) :=
  if (σ.1 5 1) ≤ l3 then mr (f_X2_isComplete_26 l2 σ) else bv (f_X2_stateAt l3 l2 l1 σ) (fun r16 => some (.inl (r16, (l3 + 1))))
noncomputable def f_X2_isComplete_4 (l1 : Int32) (l2 : Int32) (l3 : Int32) (σ : WD) : Option (Int32) :=
  lp (fun s : Int32 × Int32 => f_X2_isComplete_b4 l1 s.1 s.2 σ) (l2, l3)
noncomputable def f_X2_isComplete (a1 : Int32) (σ : WD) : Option (Int32) :=
  f_X2_isComplete_4 a1 0 0 σ
noncomputable def f_X2_isMarked (a1 : Int32) (σ : WD) : Option (Int32) :=
  if (σ.1 5 1) ≤ (a1 + 2) then some 0 else gi (a1 + 2) 60 (if (σ.1 6 ((a1 + 2) : Int32).toNatClampNeg) = 33 then some 1 else some 0)
noncomputable def f_X3_isExposed (a1 : Int32) (σ : WD) : Option (Int32) :=
  gi a1 12 (if (σ.1 4 (a1 : Int32).toNatClampNeg) = (-1) then some 1 else some 0)
noncomputable def f_X3_join (a1 : Int32) (a2 : Int32) (σ : WD) : Option (WD) :=
  gi a1 12 (lt (upi σ 4 (a1 : Int32).toNatClampNeg a2) (fun σ6 => gi a2 12 (lt (upi σ6 4 (a2 : Int32).toNatClampNeg a1) (fun σ13 => some σ13))))
noncomputable def f_X6_addRead_17 (l1 : Int32) (l2 : Int32) (l3 : Int32) (s0 : Int32) (σ : WD) : Option (Int32 × WD) :=
  bv (f_X0_put l1 l2 1 σ) (fun σ26 => if l3 = 0 then some (s0, σ26) else bv (f_X3_isExposed l1 σ26) (fun r38 => if r38 = 0 then some (s0, σ26) else bv (f_X3_isExposed l2 σ26) (fun r49 => if r49 = 0 then some (s0, σ26) else bv (f_X3_join l1 l2 σ26) (fun σ61 => some (s0, σ61)))))
noncomputable def f_X6_addRead (a1 : Int32) (a2 : Int32) (a3 : Int32) (σ : WD) : Option (Int32 × WD) :=
  bv (f_X0_joined a1 a2 σ) (fun r6 => if r6 = 0 then f_X6_addRead_17 a1 a2 a3 1 σ else f_X6_addRead_17 a1 a2 a3 0 σ)
noncomputable def f_X6_load_109 (l1 : Int32) (σ : WD) : Option (Int32 × WD) :=
  lt (upi σ 5 1 0) (fun σ114 => some (l1, σ114))
noncomputable def f_X6_load_b46 (l1 : Int32) (l2 : Int32) (σ : WD) : Option ((Int32 × Int32 × WD) ⊕ (Int32 × WD)) :=
  if (σ.1 5 1) ≤ (l2 + 1) then mr (f_X6_load_109 l1 σ) else bv (f_X2_isMarked l2 σ) (fun r64 => bv (f_X2_nodeAt l2 σ) (fun r75 => bv (f_X2_nodeAt (l2 + 1) σ) (fun r85 => bn (f_X6_addRead r75 r85 r64 σ) (fun r89 σ89 => if r64 = 0 then some (.inl ((l1 + r89), (l2 + 3), σ89)) else some (.inl ((l1 + r89), (l2 + 4), σ89))))))
noncomputable def f_X6_load_46 (l1 : Int32) (l2 : Int32) (σ : WD) : Option (Int32 × WD) :=
  lp (fun s : Int32 × Int32 × WD => f_X6_load_b46 s.1 s.2.1 s.2.2) (l1, l2, σ)
noncomputable def f_X6_load_27  (σ : WD) : Option (Int32 × WD) :=
  bv (f_X1_save σ) (fun σ39 => f_X6_load_46 0 0 σ39)
noncomputable def f_X6_load  (σ : WD) : Option ((Int32 × WD) ⊕ Nat) :=
  bv (f_X2_isComplete (σ.1 1 0) σ) (fun r11 => if r11 = 0 then some (.inr 1) else ml (f_X6_load_27  σ))
noncomputable def f_X6_requireExposed (a1 : Int32) (σ : WD) : Option ((Unit) ⊕ Nat) :=
  bv (f_X3_isExposed a1 σ) (fun r5 => if r5 = 0 then some (.inr 2) else some (.inl ()))
noncomputable def f_X3_size_b4 (l1 : Int32) (l2 : Int32) (σ : WD) : Option ((Int32 × Int32) ⊕ (Int32)) :=
  if 12 ≤ l2 then some (.inr l1) else gi l2 12 (if (σ.1 4 (l2 : Int32).toNatClampNeg) ≤ l2 then some (.inl (l1, (l2 + 1))) else some (.inl ((l1 + 1), (l2 + 1))))
noncomputable def f_X3_size_4 (l1 : Int32) (l2 : Int32) (σ : WD) : Option (Int32) :=
  lp (fun s : Int32 × Int32 => f_X3_size_b4 s.1 s.2 σ) (l1, l2)
noncomputable def f_X3_size  (σ : WD) : Option (Int32) :=
  f_X3_size_4 0 0 σ
noncomputable def f_X6_match_42 (l1 : Int32) (l2 : Int32) (σ : WD) : Option (Int32 × WD) :=
  bv (f_X1_save σ) (fun σ54 => bv (f_X3_join l1 l2 σ54) (fun σ63 => bv (f_X3_size σ63) (fun r70 => some (r70, σ63))))
noncomputable def f_X6_match (a1 : Int32) (a2 : Int32) (σ : WD) : Option ((Int32 × WD) ⊕ Nat) :=
  bx (f_X6_requireNode a1 σ) (fun p2 => bx (f_X6_requireNode a2 σ) (fun p7 => bv (f_X0_joined a1 a2 σ) (fun r16 => if r16 = 0 then some (.inr 2) else bx (f_X6_requireExposed a1 σ) (fun p34 => bx (f_X6_requireExposed a2 σ) (fun p39 => ml (f_X6_match_42 a1 a2 σ))))))
noncomputable def f_X6_unmatch_26 (l1 : Int32) (σ : WD) : Option (Int32 × WD) :=
  bv (f_X1_save σ) (fun σ38 => gi l1 12 (li (σ38.1 4 (l1 : Int32).toNatClampNeg) (fun v50 => bv (f_X3_part l1 σ38) (fun σ56 => some (v50, σ56)))))
noncomputable def f_X6_unmatch (a1 : Int32) (σ : WD) : Option ((Int32 × WD) ⊕ Nat) :=
  bx (f_X6_requireNode a1 σ) (fun p2 => bv (f_X3_isExposed a1 σ) (fun r10 => if r10 = 0 then ml (f_X6_unmatch_26 a1 σ) else some (.inr 2)))
noncomputable def f_X5_numberPairs_b4 (l1 : Int32) (l2 : Int32) (σ : WD) : Option ((Int32 × Int32 × WD) ⊕ (WD)) :=
  if (σ.1 1 0) ≤ l2 then some (.inr σ) else gi l2 12 (li (σ.1 4 (l2 : Int32).toNatClampNeg) (fun v24 => if v24 = (-1) then gi l2 12 (lt (upi σ 19 (l2 : Int32).toNatClampNeg 0) (fun σ36 => some (.inl (l1, (l2 + 1), σ36)))) else if v24 ≤ l2 then some (.inl (l1, (l2 + 1), σ)) else gi l2 12 (lt (upi σ 19 (l2 : Int32).toNatClampNeg l1) (fun σ51 => gi v24 12 (lt (upi σ51 19 (v24 : Int32).toNatClampNeg l1) (fun σ58 => li (l1 <<< (1 &&& 31)) (fun v62 => some (.inl (v62, (l2 + 1), σ58)))))))))
noncomputable def f_X5_numberPairs_4 (l1 : Int32) (l2 : Int32) (σ : WD) : Option (WD) :=
  lp (fun s : Int32 × Int32 × WD => f_X5_numberPairs_b4 s.1 s.2.1 s.2.2) (l1, l2, σ)
noncomputable def f_X5_numberPairs  (σ : WD) : Option (WD) :=
  f_X5_numberPairs_4 1 0 σ
noncomputable def f_X5_followWayTo (fr : Int32 → Int32 → Int32 → WD → Option (Int32 × WD)) (a1 : Int32) (a2 : Int32) (a3 : Int32) (a4 : Int32) (σ : WD) : Option (Int32 × WD) :=
  gi a1 12 (li (σ.1 19 (a1 : Int32).toNatClampNeg) (fun v6 => if a4 = 0 then gi (a2 + 1) 12 (lt (upi σ 21 ((a2 + 1) : Int32).toNatClampNeg a1) (fun σ21 => if v6 = 0 then gi 0 12 (if a1 = (σ21.1 21 (0 : Int32).toNatClampNeg) then some (0, σ21) else some (1, σ21)) else some (0, σ21))) else if v6 = 0 then some (0, σ) else if (v6 &&& a3) = 0 then gi (a2 + 1) 12 (lt (upi σ 21 ((a2 + 1) : Int32).toNatClampNeg a1) (fun σ65 => gi a1 12 (gi (a2 + 2) 12 (lt (upi σ65 21 ((a2 + 2) : Int32).toNatClampNeg (σ65.1 4 (a1 : Int32).toNatClampNeg)) (fun σ82 => bn (fr (a2 + 2) (a3 ||| v6) (a4 - 1) σ82) (fun r95 σ95 => gb r95 (some (r95, σ95)))))))) else some (0, σ)))
noncomputable def f_X5_followWay_b40 (fr : Int32 → Int32 → Int32 → WD → Option (Int32 × WD)) (l1 : Int32) (l2 : Int32) (l3 : Int32) (l4 : Int32) (l5 : Int32) (σ : WD) : Option ((Int32 × WD) ⊕ (Int32 × WD)) :=
  if (σ.1 1 0) ≤ l5 then some (.inr (0, σ)) else bv (f_X0_joined l4 l5 σ) (fun r60 => if r60 = 0 then some (.inl ((l5 + 1), σ)) else bn (f_X5_followWayTo fr l5 l1 l2 l3 σ) (fun r72 σ72 => if r72 = 0 then some (.inl ((l5 + 1), σ72)) else some (.inr (1, σ72))))
noncomputable def f_X5_followWay_40 (fr : Int32 → Int32 → Int32 → WD → Option (Int32 × WD)) (l1 : Int32) (l2 : Int32) (l3 : Int32) (l4 : Int32) (l5 : Int32) (σ : WD) : Option (Int32 × WD) :=
  lp (fun s : Int32 × WD => f_X5_followWay_b40 fr l1 l2 l3 l4 s.1 s.2) (l5, σ)
noncomputable def f_X5_followWay_0 (fr : Int32 → Int32 → Int32 → WD → Option (Int32 × WD)) (a1 : Int32) (a2 : Int32) (a3 : Int32) (σ : WD) : Option (Int32 × WD) :=
  gi a1 12 (li (σ.1 21 (a1 : Int32).toNatClampNeg) (fun v6 => gi a2 64 (if (((σ.1 20 (a2 : Int32).toNatClampNeg) >>> (v6 &&& 31)) &&& 1) = 0 then gi a2 64 (gi a2 64 (lt (upi σ 20 (a2 : Int32).toNatClampNeg ((σ.1 20 (a2 : Int32).toNatClampNeg) ||| ((1 : Int32) <<< (v6 &&& 31)))) (fun σ36 => f_X5_followWay_40 fr a1 a2 a3 v6 0 σ36))) else some (0, σ))))
noncomputable def f_X5_followWay : Nat → Int32 → Int32 → Int32 → WD → Option (Int32 × WD)
  | 0 => fun _ _ _ _ => none
  | d + 1 => fun a1 a2 a3 σ => f_X5_followWay_0 (f_X5_followWay d) a1 a2 a3 σ
noncomputable def f_X5_findWay_44 (l3 : Int32) (σ : WD) : Option (Int32 × WD) :=
  some ((((2 : Int32) * l3) + 1), σ)
noncomputable def f_X5_findWay_b21 (l2 : Int32) (l3 : Int32) (σ : WD) : Option ((Int32 × WD) ⊕ (Int32 × WD)) :=
  if l2 < l3 then some (.inr (0, σ)) else lt (ups σ 20 (fillf (σ.1 20) 64 0)) (fun σ31 => bn (f_X5_followWay 9 0 0 l3 σ31) (fun r38 σ38 => if r38 = 0 then some (.inl ((l3 + 1), σ38)) else mr (f_X5_findWay_44 l3 σ38)))
noncomputable def f_X5_findWay_21 (l2 : Int32) (l3 : Int32) (σ : WD) : Option (Int32 × WD) :=
  lp (fun s : Int32 × WD => f_X5_findWay_b21 l2 s.1 s.2) (l3, σ)
noncomputable def f_X5_findWay (a1 : Int32) (σ : WD) : Option (Int32 × WD) :=
  bv (f_X5_numberPairs σ) (fun σ1 => gi 0 12 (lt (upi σ1 21 (0 : Int32).toNatClampNeg a1) (fun σ10 => bv (f_X3_size σ10) (fun r15 => f_X5_findWay_21 r15 0 σ10))))
noncomputable def f_X3_swapAlong_b2 (l2 : Int32) (l3 : Int32) (σ : WD) : Option ((Int32 × WD) ⊕ (WD)) :=
  if l2 ≤ l3 then some (.inr σ) else gi l3 12 (gi (l3 + 1) 12 (bv (f_X3_join (σ.1 21 (l3 : Int32).toNatClampNeg) (σ.1 21 ((l3 + 1) : Int32).toNatClampNeg) σ) (fun σ16 => some (.inl ((l3 + 2), σ16)))))
noncomputable def f_X3_swapAlong_2 (l2 : Int32) (l3 : Int32) (σ : WD) : Option (WD) :=
  lp (fun s : Int32 × WD => f_X3_swapAlong_b2 l2 s.1 s.2) (l3, σ)
noncomputable def f_X3_swapAlong (a2 : Int32) (σ : WD) : Option (WD) :=
  f_X3_swapAlong_2 a2 0 σ
noncomputable def f_X6_augmentFrom (a1 : Int32) (σ : WD) : Option (Int32 × WD) :=
  bn (f_X5_findWay a1 σ) (fun r5 σ5 => if r5 ≤ 0 then some (r5, σ5) else bv (f_X3_swapAlong r5 σ5) (fun σ25 => some (r5, σ25)))
noncomputable def f_X6_augment_10 (l1 : Int32) (σ : WD) : Option (Int32 × WD) :=
  bv (f_X1_save σ) (fun σ22 => bn (f_X6_augmentFrom l1 σ22) (fun r27 σ27 => some (r27, σ27)))
noncomputable def f_X6_augment (a1 : Int32) (σ : WD) : Option ((Int32 × WD) ⊕ Nat) :=
  bx (f_X6_requireNode a1 σ) (fun p2 => bx (f_X6_requireExposed a1 σ) (fun p7 => ml (f_X6_augment_10 a1 σ)))
noncomputable def f_X6_augmentLowest_b2 (l1 : Int32) (σ : WD) : Option ((Int32 × WD) ⊕ (Int32 × WD)) :=
  if (σ.1 1 0) ≤ l1 then some (.inr (0, σ)) else bv (f_X3_isExposed l1 σ) (fun r18 => if r18 = 0 then some (.inl ((l1 + 1), σ)) else bn (f_X6_augmentFrom l1 σ) (fun r26 σ26 => if r26 ≤ 0 then some (.inl ((l1 + 1), σ26)) else some (.inr (1, σ26))))
noncomputable def f_X6_augmentLowest_2 (l1 : Int32) (σ : WD) : Option (Int32 × WD) :=
  lp (fun s : Int32 × WD => f_X6_augmentLowest_b2 s.1 s.2) (l1, σ)
noncomputable def f_X6_augmentLowest  (σ : WD) : Option (Int32 × WD) :=
  f_X6_augmentLowest_2 0 σ
noncomputable def f_X6_maximize_b17 (l1 : Int32) (σ : WD) : Option ((Int32 × WD) ⊕ (Int32 × WD)) :=
  if 6 ≤ l1 then some (.inr (l1, σ)) else bn (f_X6_augmentLowest σ) (fun r24 σ24 => if r24 = 0 then some (.inr (l1, σ24)) else some (.inl ((l1 + 1), σ24)))
noncomputable def f_X6_maximize_17 (l1 : Int32) (σ : WD) : Option (Int32 × WD) :=
  lp (fun s : Int32 × WD => f_X6_maximize_b17 s.1 s.2) (l1, σ)
noncomputable def f_X6_maximize  (σ : WD) : Option (Int32 × WD) :=
  bv (f_X1_save σ) (fun σ12 => f_X6_maximize_17 0 σ12)
noncomputable def f_X0_all  (σ : WD) : Option (Int32) :=
  some (((1 : Int32) <<< ((σ.1 1 0) &&& 31)) - 1)
noncomputable def f_X4_findOut_227 (fr : Int32 → Int32 → WD → Option (WD)) (l1 : Int32) (l5 : Int32) (l6 : Int32) (σ : WD) : Option (WD) :=
  gi l1 4096 (lt (upi σ 23 (l1 : Int32).toNatClampNeg l5) (fun σ234 => gi l1 4096 (lt (upi σ234 24 (l1 : Int32).toNatClampNeg l6) (fun σ242 => some σ242))))
noncomputable def f_X4_findOut_191 (fr : Int32 → Int32 → WD → Option (WD)) (l1 : Int32) (l3 : Int32) (l4 : Int32) (l5 : Int32) (l6 : Int32) (l7 : Int32) (l8 : Int32) (l9 : Int32) (σ : WD) : Option ((Int32 × Int32 × Int32 × WD) ⊕ (WD)) :=
  gi l9 4096 (if ((σ.1 23 (l9 : Int32).toNatClampNeg) + 1) = l5 then gi l9 4096 (li (l6 + (σ.1 24 (l9 : Int32).toNatClampNeg)) (fun v219 => some (.inl (l5, v219, (l8 + 1), σ)))) else some (.inl (l5, (l6 + 0), (l8 + 1), σ)))
noncomputable def f_X4_findOut_b118 (fr : Int32 → Int32 → WD → Option (WD)) (l1 : Int32) (l3 : Int32) (l4 : Int32) (l5 : Int32) (l6 : Int32) (l7 : Int32) (l8 : Int32) (σ : WD) : Option ((Int32 × Int32 × Int32 × WD) ⊕ (WD)) :=
  if (σ.1 1 0) ≤ l8 then mr (f_X4_findOut_227 fr l1 l5 l6 σ) else if ((l7 >>> (l8 &&& 31)) &&& 1) = 0 then some (.inl (l5, l6, (l8 + 1), σ)) else li (l4 &&& (((1 : Int32) <<< (l8 &&& 31)) ^^^ (-1))) (fun v152 => bv (fr v152 (l3 + 1) σ) (fun σ160 => gi v152 4096 (if ((σ160.1 23 (v152 : Int32).toNatClampNeg) + 1) ≤ l5 then f_X4_findOut_191 fr l1 l3 l4 l5 l6 l7 l8 v152 σ160 else gi v152 4096 (li ((σ160.1 23 (v152 : Int32).toNatClampNeg) + 1) (fun v186 => f_X4_findOut_191 fr l1 l3 l4 v186 0 l7 l8 v152 σ160)))))
noncomputable def f_X4_findOut_118 (fr : Int32 → Int32 → WD → Option (WD)) (l1 : Int32) (l3 : Int32) (l4 : Int32) (l5 : Int32) (l6 : Int32) (l7 : Int32) (l8 : Int32) (σ : WD) : Option (WD) :=
  lp (fun s : Int32 × Int32 × Int32 × WD => f_X4_findOut_b118 fr l1 l3 l4 s.1 s.2.1 l7 s.2.2.1 s.2.2.2) (l5, l6, l8, σ)
noncomputable def f_X4_findOut_37 (fr : Int32 → Int32 → WD → Option (WD)) (l1 : Int32) (l3 : Int32) (σ : WD) : Option (WD) :=
  if l3 < (σ.1 1 0) then li (l1 &&& (((1 : Int32) <<< (l3 &&& 31)) ^^^ (-1))) (fun v70 => bv (fr v70 (l3 + 1) σ) (fun σ78 => gi v70 4096 (li (σ78.1 23 (v70 : Int32).toNatClampNeg) (fun v88 => gi v70 4096 (li (σ78.1 24 (v70 : Int32).toNatClampNeg) (fun v97 => gi l3 12 (li (v70 &&& (σ78.1 2 (l3 : Int32).toNatClampNeg)) (fun v111 => f_X4_findOut_118 fr l1 l3 v70 v88 v97 v111 (l3 + 1) σ78)))))))) else gi l1 4096 (lt (upi σ 23 (l1 : Int32).toNatClampNeg 0) (fun σ54 => gi l1 4096 (lt (upi σ54 24 (l1 : Int32).toNatClampNeg 1) (fun σ61 => some σ61))))
noncomputable def f_X4_findOut_b12 (fr : Int32 → Int32 → WD → Option (WD)) (l1 : Int32) (l3 : Int32) (σ : WD) : Option ((Int32) ⊕ (WD)) :=
  if (σ.1 1 0) ≤ l3 then mr (f_X4_findOut_37 fr l1 l3 σ) else if ((l1 >>> (l3 &&& 31)) &&& 1) = 0 then some (.inl (l3 + 1)) else mr (f_X4_findOut_37 fr l1 l3 σ)
noncomputable def f_X4_findOut_12 (fr : Int32 → Int32 → WD → Option (WD)) (l1 : Int32) (l3 : Int32) (σ : WD) : Option (WD) :=
  lp (fun s : Int32 => f_X4_findOut_b12 fr l1 s σ) l3
noncomputable def f_X4_findOut_0 (fr : Int32 → Int32 → WD → Option (WD)) (a1 : Int32) (a2 : Int32) (σ : WD) : Option (WD) :=
  gi a1 4096 (if (σ.1 24 (a1 : Int32).toNatClampNeg) = 0 then f_X4_findOut_12 fr a1 a2 σ else some σ)
noncomputable def f_X4_findOut : Nat → Int32 → Int32 → WD → Option (WD)
  | 0 => fun _ _ _ => none
  | d + 1 => fun a1 a2 σ => f_X4_findOut_0 (f_X4_findOut d) a1 a2 σ
noncomputable def f_X4_learn_b55 (l1 : Int32) (l2 : Int32) (σ : WD) : Option ((Int32 × WD) ⊕ (WD)) :=
  if (σ.1 1 0) ≤ l2 then some (.inr σ) else bv (f_X4_findOut 14 (l1 &&& (((1 : Int32) <<< (l2 &&& 31)) ^^^ (-1))) 0 σ) (fun σ75 => some (.inl ((l2 + 1), σ75)))
noncomputable def f_X4_learn_55 (l1 : Int32) (l2 : Int32) (σ : WD) : Option (WD) :=
  lp (fun s : Int32 × WD => f_X4_learn_b55 l1 s.1 s.2) (l2, σ)
noncomputable def f_X4_learn  (σ : WD) : Option (WD) :=
  if (σ.1 22 5) = (σ.1 1 2) then some σ else lt (upi σ 22 5 (σ.1 1 2)) (fun σ23 => lt (upi σ23 22 4 0) (fun σ28 => lt (ups σ28 24 (fillf (σ28.1 24) 4096 0)) (fun σ36 => bv (f_X0_all σ36) (fun r43 => bv (f_X4_findOut 14 r43 0 σ36) (fun σ50 => f_X4_learn_55 r43 0 σ50)))))
noncomputable def f_X3_clear_f  (σ : WD) : Option (WD) :=
  lt (ups σ 26 (fillf (σ.1 26) 12 (-1))) (fun σ5 => some σ5)
noncomputable def f_X4_leastMate_b23 (l1 : Int32) (l2 : Int32) (l3 : Int32) (l4 : Int32) (σ : WD) : Option ((Int32 × WD) ⊕ (Int32 × WD)) :=
  if (σ.1 1 0) ≤ l4 then some (.inr ((-1), σ)) else if ((l3 >>> (l4 &&& 31)) &&& 1) = 0 then some (.inl ((l4 + 1), σ)) else li ((l2 &&& (((1 : Int32) <<< (l1 &&& 31)) ^^^ (-1))) &&& (((1 : Int32) <<< (l4 &&& 31)) ^^^ (-1))) (fun v61 => bv (f_X4_findOut 14 v61 (l1 + 1) σ) (fun σ69 => gi v61 4096 (gi l2 4096 (if ((σ69.1 23 (v61 : Int32).toNatClampNeg) + 1) = (σ69.1 23 (l2 : Int32).toNatClampNeg) then some (.inr (l4, σ69)) else some (.inl ((l4 + 1), σ69))))))
noncomputable def f_X4_leastMate_23 (l1 : Int32) (l2 : Int32) (l3 : Int32) (l4 : Int32) (σ : WD) : Option (Int32 × WD) :=
  lp (fun s : Int32 × WD => f_X4_leastMate_b23 l1 l2 l3 s.1 s.2) (l4, σ)
noncomputable def f_X4_leastMate (a1 : Int32) (a2 : Int32) (σ : WD) : Option (Int32 × WD) :=
  bv (f_X4_findOut 14 a2 a1 σ) (fun σ3 => gi a1 12 (li ((σ3.1 2 (a1 : Int32).toNatClampNeg) &&& a2) (fun v17 => f_X4_leastMate_23 a1 a2 v17 (a1 + 1) σ3)))
noncomputable def f_X3_join_f (a1 : Int32) (a2 : Int32) (σ : WD) : Option (WD) :=
  gi a1 12 (lt (upi σ 26 (a1 : Int32).toNatClampNeg a2) (fun σ6 => gi a2 12 (lt (upi σ6 26 (a2 : Int32).toNatClampNeg a1) (fun σ13 => some σ13))))
noncomputable def f_X4_findFirst_b17 (l1 : Int32) (l2 : Int32) (σ : WD) : Option ((Int32 × Int32 × WD) ⊕ (WD)) :=
  if (σ.1 1 0) ≤ l2 then some (.inr σ) else if ((l1 >>> (l2 &&& 31)) &&& 1) = 0 then some (.inl (l1, (l2 + 1), σ)) else bn (f_X4_leastMate l2 l1 σ) (fun r39 σ39 => li (l1 &&& (((1 : Int32) <<< (l2 &&& 31)) ^^^ (-1))) (fun v50 => if r39 = (-1) then some (.inl (v50, (l2 + 1), σ39)) else bv (f_X3_join_f l2 r39 σ39) (fun σ62 => li (v50 &&& (((1 : Int32) <<< (r39 &&& 31)) ^^^ (-1))) (fun v72 => some (.inl (v72, (l2 + 1), σ62))))))
noncomputable def f_X4_findFirst_17 (l1 : Int32) (l2 : Int32) (σ : WD) : Option (WD) :=
  lp (fun s : Int32 × Int32 × WD => f_X4_findFirst_b17 s.1 s.2.1 s.2.2) (l1, l2, σ)
noncomputable def f_X4_findFirst  (σ : WD) : Option (WD) :=
  bv (f_X3_clear_f σ) (fun σ4 => bv (f_X0_all σ4) (fun r11 => f_X4_findFirst_17 r11 0 σ4))
noncomputable def f_X4_first_20  (σ : WD) : Option (WD) :=
  some σ
noncomputable def f_X4_first  (σ : WD) : Option (WD) :=
  bv (f_X4_learn σ) (fun σ1 => if (σ1.1 22 4) = 0 then bv (f_X4_findFirst σ1) (fun σ12 => lt (upi σ12 22 4 1) (fun σ17 => f_X4_first_20  σ17)) else f_X4_first_20  σ1)
noncomputable def f_X3_copyFrom_f  (σ : WD) : Option (WD) :=
  lt (ups σ 4 (va_cpy (σ.1 26) (σ.1 4) 0 0 12)) (fun σ9 => some σ9)
noncomputable def f_X6_takeFirst_74 (l2 : Int32) (σ : WD) : Option (Int32 × WD) :=
  bv (f_X3_copyFrom_f σ) (fun σ82 => some (l2, σ82))
noncomputable def f_X6_takeFirst_b27 (l2 : Int32) (l3 : Int32) (σ : WD) : Option ((Int32 × Int32) ⊕ (Int32 × WD)) :=
  if (σ.1 1 0) ≤ l3 then mr (f_X6_takeFirst_74 l2 σ) else gi l3 12 (li (σ.1 26 (l3 : Int32).toNatClampNeg) (fun v44 => if v44 ≤ l3 then some (.inl (l2, (l3 + 1))) else bv (f_X3_has l3 v44 σ) (fun r59 => if r59 = 0 then some (.inl ((l2 + 1), (l3 + 1))) else some (.inl (l2, (l3 + 1))))))
noncomputable def f_X6_takeFirst_27 (l2 : Int32) (l3 : Int32) (σ : WD) : Option (Int32 × WD) :=
  lp (fun s : Int32 × Int32 => f_X6_takeFirst_b27 s.1 s.2 σ) (l2, l3)
noncomputable def f_X6_takeFirst  (σ : WD) : Option (Int32 × WD) :=
  bv (f_X1_save σ) (fun σ12 => bv (f_X4_first σ12) (fun σ19 => f_X6_takeFirst_27 0 0 σ19))
noncomputable def f_X0_copyFrom_r9 (j1 : Nat) (σ : WD) : Option (WD) :=
  lt (ups σ 2 (va_cpy (σ.1 (9 + j1)) (σ.1 2) 0 0 12)) (fun σ9 => lt (upi σ9 1 2 ((σ9.1 1 2) + 1)) (fun σ19 => some σ19))
noncomputable def f_X3_copyFrom_r14 (j1 : Nat) (σ : WD) : Option (WD) :=
  lt (ups σ 4 (va_cpy (σ.1 (14 + j1)) (σ.1 4) 0 0 12)) (fun σ9 => some σ9)
noncomputable def f_X1_restore  (σ : WD) : Option (WD) :=
  gi (σ.1 7 2) 4 (bv (f_X0_copyFrom_r9 ((σ.1 7 2) : Int32).toNatClampNeg σ) (fun σ10 => gi (σ10.1 7 2) 4 (bv (f_X3_copyFrom_r14 ((σ10.1 7 2) : Int32).toNatClampNeg σ10) (fun σ23 => gz 4 (lt (upi σ23 7 2 ((((σ23.1 7 2) + 4) - 1) - (((σ23.1 7 2) + 4) - 1) / 4 * 4)) (fun σ37 => lt (upi σ37 7 3 ((σ37.1 7 3) - 1)) (fun σ47 => some σ47)))))))
noncomputable def f_X6_undo_20  (σ : WD) : Option (Int32 × WD) :=
  bv (f_X1_restore σ) (fun σ32 => some ((σ32.1 7 3), σ32))
noncomputable def f_X6_undo  (σ : WD) : Option ((Int32 × WD) ⊕ Nat) :=
  if (σ.1 7 3) = 0 then some (.inr 2) else ml (f_X6_undo_20  σ)
noncomputable def f_X6_way_10 (l1 : Int32) (σ : WD) : Option (Int32 × WD) :=
  bn (f_X5_findWay l1 σ) (fun r15 σ15 => some (r15, σ15))
noncomputable def f_X6_way (a1 : Int32) (σ : WD) : Option ((Int32 × WD) ⊕ Nat) :=
  bx (f_X6_requireNode a1 σ) (fun p2 => bx (f_X6_requireExposed a1 σ) (fun p7 => ml (f_X6_way_10 a1 σ)))
noncomputable def f_X6_wayNode_10 (l1 : Int32) (l2 : Int32) (σ : WD) : Option (Int32 × WD) :=
  bn (f_X5_findWay l1 σ) (fun r15 σ15 => if r15 = 0 then some ((-1), σ15) else if l2 < 0 then some ((-1), σ15) else if l2 ≤ r15 then gi l2 12 (some ((σ15.1 21 (l2 : Int32).toNatClampNeg), σ15)) else some ((-1), σ15))
noncomputable def f_X6_wayNode (a1 : Int32) (a2 : Int32) (σ : WD) : Option ((Int32 × WD) ⊕ Nat) :=
  bx (f_X6_requireNode a1 σ) (fun p2 => bx (f_X6_requireExposed a1 σ) (fun p7 => ml (f_X6_wayNode_10 a1 a2 σ)))
noncomputable def f_X5_followFrom_b3 (l1 : Int32) (l2 : Int32) (l3 : Int32) (l4 : Int32) (σ : WD) : Option ((Int32 × WD) ⊕ (WD)) :=
  if (σ.1 1 0) ≤ l4 then some (.inr σ) else gi l4 12 (li (σ.1 19 (l4 : Int32).toNatClampNeg) (fun v22 => if l4 = l3 then some (.inl ((l4 + 1), σ)) else bv (f_X0_joined l1 l4 σ) (fun r37 => if r37 = 0 then some (.inl ((l4 + 1), σ)) else if (v22 &&& l2) = 0 then lt (upi σ 18 6 ((σ.1 18 6) ||| ((1 : Int32) <<< (l4 &&& 31)))) (fun σ63 => if v22 = 0 then some (.inl ((l4 + 1), σ63)) else gi (l2 ||| v22) 64 (gi l4 12 (gi (l2 ||| v22) 64 (lt (upi σ63 20 ((l2 ||| v22) : Int32).toNatClampNeg ((σ63.1 20 ((l2 ||| v22) : Int32).toNatClampNeg) ||| ((1 : Int32) <<< ((σ63.1 4 (l4 : Int32).toNatClampNeg) &&& 31)))) (fun σ94 => some (.inl ((l4 + 1), σ94))))))) else some (.inl ((l4 + 1), σ)))))
noncomputable def f_X5_followFrom_3 (l1 : Int32) (l2 : Int32) (l3 : Int32) (l4 : Int32) (σ : WD) : Option (WD) :=
  lp (fun s : Int32 × WD => f_X5_followFrom_b3 l1 l2 l3 s.1 s.2) (l4, σ)
noncomputable def f_X5_followFrom (a1 : Int32) (a2 : Int32) (a3 : Int32) (σ : WD) : Option (WD) :=
  f_X5_followFrom_3 a1 a2 a3 0 σ
noncomputable def f_X5_findEnds_b59 (l1 : Int32) (l2 : Int32) (l3 : Int32) (σ : WD) : Option ((Int32 × WD) ⊕ ((Int32 × WD) ⊕ (WD))) :=
  if (σ.1 1 0) ≤ l3 then some (.inr (.inl ((l2 + 1), σ))) else gi l2 64 (if (((σ.1 20 (l2 : Int32).toNatClampNeg) >>> (l3 &&& 31)) &&& 1) = 0 then some (.inl ((l3 + 1), σ)) else bv (f_X5_followFrom l3 l2 l1 σ) (fun σ87 => some (.inl ((l3 + 1), σ87))))
noncomputable def f_X5_findEnds_59 (l1 : Int32) (l2 : Int32) (l3 : Int32) (σ : WD) : Option ((Int32 × WD) ⊕ (WD)) :=
  lp (fun s : Int32 × WD => f_X5_findEnds_b59 l1 l2 s.1 s.2) (l3, σ)
noncomputable def f_X5_findEnds_b33 (l1 : Int32) (l2 : Int32) (σ : WD) : Option ((Int32 × WD) ⊕ (WD)) :=
  if 64 ≤ l2 then some (.inr σ) else gi l2 64 (lt (upi σ 18 5 ((σ.1 18 5) ||| (σ.1 20 (l2 : Int32).toNatClampNeg))) (fun σ54 => f_X5_findEnds_59 l1 l2 0 σ54))
noncomputable def f_X5_findEnds_33 (l1 : Int32) (l2 : Int32) (σ : WD) : Option (WD) :=
  lp (fun s : Int32 × WD => f_X5_findEnds_b33 l1 s.1 s.2) (l2, σ)
noncomputable def f_X5_findEnds (a1 : Int32) (σ : WD) : Option (WD) :=
  bv (f_X5_numberPairs σ) (fun σ1 => lt (ups σ1 20 (fillf (σ1.1 20) 64 0)) (fun σ9 => gi 0 64 (lt (upi σ9 20 (0 : Int32).toNatClampNeg ((1 : Int32) <<< (a1 &&& 31))) (fun σ20 => lt (upi σ20 18 5 0) (fun σ23 => lt (upi σ23 18 6 0) (fun σ28 => f_X5_findEnds_33 a1 0 σ28))))))
noncomputable def f_X6_reach_5 (l1 : Int32) (l2 : Int32) (σ : WD) : Option (Int32 × WD) :=
  bv (f_X3_isExposed l1 σ) (fun r10 => if r10 = 0 then some (0, σ) else bv (f_X5_findEnds l1 σ) (fun σ23 => if l2 = 0 then some ((σ23.1 18 6), σ23) else some ((σ23.1 18 5), σ23)))
noncomputable def f_X6_reach (a1 : Int32) (a2 : Int32) (σ : WD) : Option ((Int32 × WD) ⊕ Nat) :=
  bx (f_X6_requireNode a1 σ) (fun p2 => ml (f_X6_reach_5 a1 a2 σ))
noncomputable def f_X0_besides_b4 (l1 : Int32) (l2 : Int32) (l3 : Int32) (σ : WD) : Option ((Int32 × Int32) ⊕ (Int32)) :=
  if (σ.1 1 0) ≤ l3 then some (.inr l2) else if ((l1 >>> (l3 &&& 31)) &&& 1) = 0 then some (.inl (l2, (l3 + 1))) else gi l3 12 (li (l2 ||| (σ.1 2 (l3 : Int32).toNatClampNeg)) (fun v28 => some (.inl (v28, (l3 + 1)))))
noncomputable def f_X0_besides_4 (l1 : Int32) (l2 : Int32) (l3 : Int32) (σ : WD) : Option (Int32) :=
  lp (fun s : Int32 × Int32 => f_X0_besides_b4 l1 s.1 s.2 σ) (l2, l3)
noncomputable def f_X0_besides (a1 : Int32) (σ : WD) : Option (Int32) :=
  f_X0_besides_4 a1 0 0 σ
noncomputable def f_X0_shortestOddWalk_b6 (l1 : Int32) (l2 : Int32) (l3 : Int32) (σ : WD) : Option ((Int32 × Int32) ⊕ (Int32)) :=
  if (σ.1 1 0) < l3 then some (.inr (-1)) else bv (f_X0_besides l2 σ) (fun r16 => gz 2 (if (l3 - l3 / 2 * 2) = 1 then if ((r16 >>> (l1 &&& 31)) &&& 1) = 0 then some (.inl (r16, (l3 + 1))) else some (.inr l3) else some (.inl (r16, (l3 + 1)))))
noncomputable def f_X0_shortestOddWalk_6 (l1 : Int32) (l2 : Int32) (l3 : Int32) (σ : WD) : Option (Int32) :=
  lp (fun s : Int32 × Int32 => f_X0_shortestOddWalk_b6 l1 s.1 s.2 σ) (l2, l3)
noncomputable def f_X0_shortestOddWalk (a1 : Int32) (σ : WD) : Option (Int32) :=
  li ((1 : Int32) <<< (a1 &&& 31)) (fun v3 => f_X0_shortestOddWalk_6 a1 v3 1 σ)
noncomputable def f_X6_oddCycle_b4 (l1 : Int32) (l2 : Int32) (σ : WD) : Option ((Int32 × Int32) ⊕ (Int32)) :=
  if (σ.1 1 0) ≤ l2 then some (.inr l1) else bv (f_X0_shortestOddWalk l2 σ) (fun r20 => if r20 = (-1) then some (.inl (l1, (l2 + 1))) else if l1 = (-1) then some (.inl (r20, (l2 + 1))) else if l1 ≤ r20 then some (.inl (l1, (l2 + 1))) else some (.inl (r20, (l2 + 1))))
noncomputable def f_X6_oddCycle_4 (l1 : Int32) (l2 : Int32) (σ : WD) : Option (Int32) :=
  lp (fun s : Int32 × Int32 => f_X6_oddCycle_b4 s.1 s.2 σ) (l1, l2)
noncomputable def f_X6_oddCycle  (σ : WD) : Option (Int32) :=
  f_X6_oddCycle_4 (-1) 0 σ
noncomputable def f_X6_firstMate_5 (l1 : Int32) (σ : WD) : Option (Int32 × WD) :=
  bv (f_X4_first σ) (fun σ9 => gi l1 12 (some ((σ9.1 26 (l1 : Int32).toNatClampNeg), σ9)))
noncomputable def f_X6_firstMate (a1 : Int32) (σ : WD) : Option ((Int32 × WD) ⊕ Nat) :=
  bx (f_X6_requireNode a1 σ) (fun p2 => ml (f_X6_firstMate_5 a1 σ))
noncomputable def f_X4_exposable_b16 (l1 : Int32) (l2 : Int32) (l3 : Int32) (σ : WD) : Option ((Int32 × Int32) ⊕ (Int32 × WD)) :=
  if (σ.1 1 0) ≤ l3 then some (.inr (l2, σ)) else gi (l1 &&& (((1 : Int32) <<< (l3 &&& 31)) ^^^ (-1))) 4096 (gi l1 4096 (if (σ.1 23 ((l1 &&& (((1 : Int32) <<< (l3 &&& 31)) ^^^ (-1))) : Int32).toNatClampNeg) = (σ.1 23 (l1 : Int32).toNatClampNeg) then li (l2 ||| ((1 : Int32) <<< (l3 &&& 31))) (fun v53 => some (.inl (v53, (l3 + 1)))) else some (.inl (l2, (l3 + 1)))))
noncomputable def f_X4_exposable_16 (l1 : Int32) (l2 : Int32) (l3 : Int32) (σ : WD) : Option (Int32 × WD) :=
  lp (fun s : Int32 × Int32 => f_X4_exposable_b16 l1 s.1 s.2 σ) (l2, l3)
noncomputable def f_X4_exposable  (σ : WD) : Option (Int32 × WD) :=
  bv (f_X4_learn σ) (fun σ1 => bv (f_X0_all σ1) (fun r8 => f_X4_exposable_16 r8 0 0 σ1))
noncomputable def f_J6_bitCount_0f7a4 (a1 : Int32) (σ : WD) : Option (Int32) :=
  li (a1 - ((((a1).toUInt32 >>> ((1 : Int32).toUInt32 &&& Int32.toUInt32 31)).toInt32) &&& 1431655765)) (fun v9 => li ((v9 &&& 858993459) + ((((v9).toUInt32 >>> ((2 : Int32).toUInt32 &&& Int32.toUInt32 31)).toInt32) &&& 858993459)) (fun v23 => li ((v23 + (((v23).toUInt32 >>> ((4 : Int32).toUInt32 &&& Int32.toUInt32 31)).toInt32)) &&& 252645135) (fun v33 => li (v33 + (((v33).toUInt32 >>> ((8 : Int32).toUInt32 &&& Int32.toUInt32 31)).toInt32)) (fun v40 => li (v40 + (((v40).toUInt32 >>> ((16 : Int32).toUInt32 &&& Int32.toUInt32 31)).toInt32)) (fun v47 => some (v47 &&& 63))))))
noncomputable def f_J6_numberOfTrailingZeros_0f7a4_74 (l0 : Int32) (l1 : Int32) (σ : WD) : Option (Int32) :=
  some (l1 + (((l0).toUInt32 >>> ((1 : Int32).toUInt32 &&& Int32.toUInt32 31)).toInt32))
noncomputable def f_J6_numberOfTrailingZeros_0f7a4_62 (l0 : Int32) (l1 : Int32) (σ : WD) : Option (Int32) :=
  if l0 ≤ 4 then f_J6_numberOfTrailingZeros_0f7a4_74 l0 l1 σ else li (((l0).toUInt32 >>> ((2 : Int32).toUInt32 &&& Int32.toUInt32 31)).toInt32) (fun v73 => f_J6_numberOfTrailingZeros_0f7a4_74 v73 (l1 + 2) σ)
noncomputable def f_J6_numberOfTrailingZeros_0f7a4_49 (l0 : Int32) (l1 : Int32) (σ : WD) : Option (Int32) :=
  if l0 ≤ 16 then f_J6_numberOfTrailingZeros_0f7a4_62 l0 l1 σ else li (((l0).toUInt32 >>> ((4 : Int32).toUInt32 &&& Int32.toUInt32 31)).toInt32) (fun v61 => f_J6_numberOfTrailingZeros_0f7a4_62 v61 (l1 + 4) σ)
noncomputable def f_J6_numberOfTrailingZeros_0f7a4_34 (l0 : Int32) (l1 : Int32) (σ : WD) : Option (Int32) :=
  if l0 ≤ 256 then f_J6_numberOfTrailingZeros_0f7a4_49 l0 l1 σ else li (((l0).toUInt32 >>> ((8 : Int32).toUInt32 &&& Int32.toUInt32 31)).toInt32) (fun v48 => f_J6_numberOfTrailingZeros_0f7a4_49 v48 (l1 + 8) σ)
noncomputable def f_J6_numberOfTrailingZeros_0f7a4 (a1 : Int32) (σ : WD) : Option (Int32) :=
  li ((a1 ^^^ (-1)) &&& (a1 - 1)) (fun v7 => if 0 < v7 then if v7 ≤ 65536 then f_J6_numberOfTrailingZeros_0f7a4_34 v7 1 σ else li (((v7).toUInt32 >>> ((16 : Int32).toUInt32 &&& Int32.toUInt32 31)).toInt32) (fun v33 => f_J6_numberOfTrailingZeros_0f7a4_34 v33 (1 + 16) σ) else some (v7 &&& 32))
noncomputable def f_X0_pieceOf_b10 (l2 : Int32) (l3 : Int32) (l4 : Int32) (l5 : Int32) (σ : WD) : Option ((Int32 × Int32 × Int32) ⊕ (Int32)) :=
  if (σ.1 1 0) ≤ l5 then some (.inr l3) else if l4 = 0 then some (.inr l3) else bv (f_J6_numberOfTrailingZeros_0f7a4 l4 σ) (fun r26 => gi r26 12 (li (((σ.1 2 (r26 : Int32).toNatClampNeg) &&& l2) &&& (l3 ^^^ (-1))) (fun v44 => li ((l4 &&& (((1 : Int32) <<< (r26 &&& 31)) ^^^ (-1))) ||| v44) (fun v63 => some (.inl ((l3 ||| v44), v63, (l5 + 1)))))))
noncomputable def f_X0_pieceOf_10 (l2 : Int32) (l3 : Int32) (l4 : Int32) (l5 : Int32) (σ : WD) : Option (Int32) :=
  lp (fun s : Int32 × Int32 × Int32 => f_X0_pieceOf_b10 l2 s.1 s.2.1 s.2.2 σ) (l3, l4, l5)
noncomputable def f_X0_pieceOf (a1 : Int32) (a2 : Int32) (σ : WD) : Option (Int32) :=
  li ((1 : Int32) <<< (a1 &&& 31)) (fun v3 => f_X0_pieceOf_10 a2 v3 v3 0 σ)
noncomputable def f_X0_pieces_b8 (l1 : Int32) (l2 : Int32) (l3 : Int32) (l4 : Int32) (l5 : Int32) (σ : WD) : Option ((Int32 × Int32 × Int32) ⊕ (Int32)) :=
  if (σ.1 1 0) ≤ l5 then some (.inr l4) else if ((l3 >>> (l5 &&& 31)) &&& 1) = 0 then some (.inl (l3, l4, (l5 + 1))) else bv (f_X0_pieceOf l5 l1 σ) (fun r30 => li (l3 &&& (r30 ^^^ (-1))) (fun v41 => if l2 = 0 then some (.inl (v41, (l4 + 1), (l5 + 1))) else bv (f_J6_bitCount_0f7a4 r30 σ) (fun r50 => li (l4 + (r50 &&& 1)) (fun v60 => some (.inl (v41, v60, (l5 + 1)))))))
noncomputable def f_X0_pieces_8 (l1 : Int32) (l2 : Int32) (l3 : Int32) (l4 : Int32) (l5 : Int32) (σ : WD) : Option (Int32) :=
  lp (fun s : Int32 × Int32 × Int32 => f_X0_pieces_b8 l1 l2 s.1 s.2.1 s.2.2 σ) (l3, l4, l5)
noncomputable def f_X0_pieces (a1 : Int32) (a2 : Int32) (σ : WD) : Option (Int32) :=
  f_X0_pieces_8 a1 a2 a1 0 0 σ
noncomputable def f_X4_number  (σ : WD) : Option (Int32 × WD) :=
  bv (f_X4_learn σ) (fun σ1 => bv (f_X0_all σ1) (fun r12 => gi r12 4096 (some ((σ1.1 23 (r12 : Int32).toNatClampNeg), σ1))))
noncomputable def f_X6_deficiency  (σ : WD) : Option (Int32 × WD) :=
  bn (f_X4_number σ) (fun r12 σ12 => some (((σ.1 1 0) - ((2 : Int32) * r12)), σ12))
noncomputable def f_X6_isProof (a1 : Int32) (a2 : Int32) (σ : WD) : Option (Int32 × WD) :=
  bv (f_X0_all σ) (fun r8 => bv (f_X0_pieces (r8 &&& (a1 ^^^ (-1))) 1 σ) (fun r16 => bn (f_X6_deficiency σ) (fun r21 σ21 => if r16 = (a2 + r21) then some (1, σ21) else some (0, σ21))))
noncomputable def f_X6_proof_b25 (l1 : Int32) (l2 : Int32) (l3 : Int32) (l4 : Int32) (l5 : Int32) (σ : WD) : Option ((Int32 × Int32 × Int32 × WD) ⊕ (Int32 × WD)) :=
  if l1 < l5 then some (.inr (l3, σ)) else if l4 ≤ 0 then some (.inr (l3, σ)) else bv (f_J6_bitCount_0f7a4 l5 σ) (fun r38 => if l4 ≤ r38 then some (.inl (l3, l4, (l5 + 1), σ)) else if (l5 &&& l2) = 0 then bn (f_X6_isProof l5 r38 σ) (fun r62 σ62 => if r62 = 0 then some (.inl (l3, l4, (l5 + 1), σ62)) else some (.inl (l5, r38, (l5 + 1), σ62))) else some (.inl (l3, l4, (l5 + 1), σ)))
noncomputable def f_X6_proof_25 (l1 : Int32) (l2 : Int32) (l3 : Int32) (l4 : Int32) (l5 : Int32) (σ : WD) : Option (Int32 × WD) :=
  lp (fun s : Int32 × Int32 × Int32 × WD => f_X6_proof_b25 l1 l2 s.1 s.2.1 s.2.2.1 s.2.2.2) (l3, l4, l5, σ)
noncomputable def f_X6_proof  (σ : WD) : Option (Int32 × WD) :=
  bv (f_X0_all σ) (fun r4 => bn (f_X4_exposable σ) (fun r12 σ12 => f_X6_proof_25 r4 r12 0 13 0 σ12))
noncomputable def f_X6_components_15  (σ : WD) : Option ((Int32) ⊕ Nat) :=
  some (.inr 1)
noncomputable def f_X6_components_25 (l1 : Int32) (l2 : Int32) (σ : WD) : Option (Int32) :=
  bv (f_X0_all σ) (fun r33 => bv (f_X0_pieces (r33 &&& (l1 ^^^ (-1))) l2 σ) (fun r41 => some r41))
noncomputable def f_X6_components (a1 : Int32) (a2 : Int32) (σ : WD) : Option ((Int32) ⊕ Nat) :=
  if a1 < 0 then f_X6_components_15  σ else bv (f_X0_all σ) (fun r9 => if a1 ≤ r9 then ml (f_X6_components_25 a1 a2 σ) else f_X6_components_15  σ)
noncomputable def f_X4_numberWithout (a1 : Int32) (a2 : Int32) (σ : WD) : Option (Int32 × WD) :=
  bv (f_X4_learn σ) (fun σ1 => bv (f_X0_all σ1) (fun r8 => li ((r8 &&& (((1 : Int32) <<< (a1 &&& 31)) ^^^ (-1))) &&& (((1 : Int32) <<< (a2 &&& 31)) ^^^ (-1))) (fun v23 => bv (f_X4_findOut 14 v23 0 σ1) (fun σ27 => gi v23 4096 (some ((σ27.1 23 (v23 : Int32).toNatClampNeg), σ27))))))
noncomputable def f_X4_having (a1 : Int32) (a2 : Int32) (σ : WD) : Option (Int32 × WD) :=
  bv (f_X0_joined a1 a2 σ) (fun r6 => if r6 = 0 then some (0, σ) else bv (f_X4_learn σ) (fun σ15 => bv (f_X0_all σ15) (fun r22 => li ((r22 &&& (((1 : Int32) <<< (a1 &&& 31)) ^^^ (-1))) &&& (((1 : Int32) <<< (a2 &&& 31)) ^^^ (-1))) (fun v39 => bv (f_X4_findOut 14 v39 0 σ15) (fun σ45 => gi v39 4096 (gi r22 4096 (if ((σ45.1 23 (v39 : Int32).toNatClampNeg) + 1) = (σ45.1 23 (r22 : Int32).toNatClampNeg) then gi v39 4096 (some ((σ45.1 24 (v39 : Int32).toNatClampNeg), σ45)) else some (0, σ45))))))))
noncomputable def f_X4_howMany  (σ : WD) : Option (Int32 × WD) :=
  bv (f_X4_learn σ) (fun σ1 => bv (f_X0_all σ1) (fun r12 => gi r12 4096 (some ((σ1.1 24 (r12 : Int32).toNatClampNeg), σ1))))
noncomputable def f_X6_ifChanged_15 (l1 : Int32) (l2 : Int32) (σ : WD) : Option (Int32 × WD) :=
  bn (f_X4_number σ) (fun r19 σ19 => bv (f_X0_joined l1 l2 σ19) (fun r29 => if r29 = 0 then bn (f_X4_numberWithout l1 l2 σ19) (fun r69 σ69 => some ((if r19 < (r69 + 1) then (r69 + 1) else r19), σ69)) else bn (f_X4_having l1 l2 σ19) (fun r41 σ41 => bn (f_X4_howMany σ41) (fun r48 σ48 => if r41 = r48 then some ((r19 - 1), σ48) else some (r19, σ48)))))
noncomputable def f_X6_ifChanged (a1 : Int32) (a2 : Int32) (σ : WD) : Option ((Int32 × WD) ⊕ Nat) :=
  bx (f_X6_requireNode a1 σ) (fun p2 => bx (f_X6_requireNode a2 σ) (fun p7 => bx (f_X6_requireDifferent a1 a2 σ) (fun p12 => ml (f_X6_ifChanged_15 a1 a2 σ))))
noncomputable def f_X6_partOf (a1 : Int32) (σ : WD) : Option (Int32 × WD) :=
  bn (f_X4_exposable σ) (fun r4 σ4 => if ((r4 >>> (a1 &&& 31)) &&& 1) = 0 then gi a1 12 (if (r4 &&& (σ4.1 2 (a1 : Int32).toNatClampNeg)) = 0 then some (2, σ4) else some (1, σ4)) else some (0, σ4))
noncomputable def f_X4_exposing (a1 : Int32) (σ : WD) : Option (Int32 × WD) :=
  bv (f_X4_learn σ) (fun σ1 => bv (f_X0_all σ1) (fun r8 => li (r8 &&& (((1 : Int32) <<< (a1 &&& 31)) ^^^ (-1))) (fun v19 => gi v19 4096 (gi r8 4096 (if (σ1.1 23 (v19 : Int32).toNatClampNeg) = (σ1.1 23 (r8 : Int32).toNatClampNeg) then gi v19 4096 (some ((σ1.1 24 (v19 : Int32).toNatClampNeg), σ1)) else some (0, σ1))))))
noncomputable def f_X6_node_40 (l1 : Int32) (σ : WD) : Option (Int32 × WD) :=
  gi l1 12 (bv (f_J6_bitCount_0f7a4 (σ.1 2 (l1 : Int32).toNatClampNeg) σ) (fun r49 => some (r49, σ)))
noncomputable def f_X6_node_53 (l1 : Int32) (σ : WD) : Option (Int32 × WD) :=
  gi l1 12 (some ((σ.1 4 (l1 : Int32).toNatClampNeg), σ))
noncomputable def f_X6_node_63 (l1 : Int32) (σ : WD) : Option (Int32 × WD) :=
  bn (f_X6_partOf l1 σ) (fun r65 σ65 => some (r65, σ65))
noncomputable def f_X6_node_69 (l1 : Int32) (σ : WD) : Option (Int32 × WD) :=
  bn (f_X4_exposing l1 σ) (fun r74 σ74 => some (r74, σ74))
noncomputable def f_X6_node_78 (l1 : Int32) (σ : WD) : Option (Int32 × WD) :=
  bv (f_X0_all σ) (fun r87 => bv (f_X0_pieceOf l1 r87 σ) (fun r90 => bv (f_J6_numberOfTrailingZeros_0f7a4 r90 σ) (fun r93 => some (r93, σ))))
noncomputable def f_X6_node (a1 : Int32) (a2 : Int32) (σ : WD) : Option ((Int32 × WD) ⊕ Nat) :=
  bx (f_X6_requireNode a1 σ) (fun p2 => if a2 = 0 then ml (f_X6_node_40 a1 σ) else if a2 = 1 then ml (f_X6_node_53 a1 σ) else if a2 = 2 then ml (f_X6_node_63 a1 σ) else if a2 = 3 then ml (f_X6_node_69 a1 σ) else if a2 = 4 then ml (f_X6_node_78 a1 σ) else some (.inr 1))
noncomputable def f_X6_edge_36 (l1 : Int32) (l2 : Int32) (σ : WD) : Option (Int32 × WD) :=
  bv (f_X0_joined l1 l2 σ) (fun r42 => if r42 = 0 then some (0, σ) else some (1, σ))
noncomputable def f_X6_edge_54 (l1 : Int32) (l2 : Int32) (σ : WD) : Option (Int32 × WD) :=
  bv (f_X3_has l1 l2 σ) (fun r60 => if r60 = 0 then some (0, σ) else some (1, σ))
noncomputable def f_X6_edge_72 (l1 : Int32) (l2 : Int32) (σ : WD) : Option (Int32 × WD) :=
  bn (f_X4_having l1 l2 σ) (fun r78 σ78 => some (r78, σ78))
noncomputable def f_X6_edge (a1 : Int32) (a2 : Int32) (a3 : Int32) (σ : WD) : Option ((Int32 × WD) ⊕ Nat) :=
  bx (f_X6_requireNode a1 σ) (fun p2 => bx (f_X6_requireNode a2 σ) (fun p7 => if a3 = 0 then ml (f_X6_edge_36 a1 a2 σ) else if a3 = 1 then ml (f_X6_edge_54 a1 a2 σ) else if a3 = 2 then ml (f_X6_edge_72 a1 a2 σ) else some (.inr 1)))
noncomputable def f_X0_edges_30 (l1 : Int32) (σ : WD) : Option (Int32) :=
  gz 2 (some (l1 / 2))
noncomputable def f_X0_edges_b4 (l1 : Int32) (l2 : Int32) (σ : WD) : Option ((Int32 × Int32) ⊕ (Int32)) :=
  if (σ.1 1 0) ≤ l2 then mr (f_X0_edges_30 l1 σ) else gi l2 12 (bv (f_J6_bitCount_0f7a4 (σ.1 2 (l2 : Int32).toNatClampNeg) σ) (fun r19 => some (.inl ((l1 + r19), (l2 + 1)))))
noncomputable def f_X0_edges_4 (l1 : Int32) (l2 : Int32) (σ : WD) : Option (Int32) :=
  lp (fun s : Int32 × Int32 => f_X0_edges_b4 s.1 s.2 σ) (l1, l2)
noncomputable def f_X0_edges  (σ : WD) : Option (Int32) :=
  f_X0_edges_4 0 0 σ
noncomputable def f_X4_edgesHadBy_b20 (l1 : Int32) (l2 : Int32) (l3 : Int32) (l4 : Int32) (σ : WD) : Option ((Int32 × Int32 × WD) ⊕ ((Int32 × Int32 × WD) ⊕ (Int32 × WD))) :=
  if (σ.1 1 0) ≤ l4 then some (.inr (.inl (l2, (l3 + 1), σ))) else bv (f_X0_joined l3 l4 σ) (fun r39 => if r39 = 0 then some (.inl (l2, (l4 + 1), σ)) else bn (f_X4_having l3 l4 σ) (fun r49 σ49 => if r49 = l1 then some (.inl ((l2 + 1), (l4 + 1), σ49)) else some (.inl (l2, (l4 + 1), σ49))))
noncomputable def f_X4_edgesHadBy_20 (l1 : Int32) (l2 : Int32) (l3 : Int32) (l4 : Int32) (σ : WD) : Option ((Int32 × Int32 × WD) ⊕ (Int32 × WD)) :=
  lp (fun s : Int32 × Int32 × WD => f_X4_edgesHadBy_b20 l1 s.1 l3 s.2.1 s.2.2) (l2, l4, σ)
noncomputable def f_X4_edgesHadBy_b4 (l1 : Int32) (l2 : Int32) (l3 : Int32) (σ : WD) : Option ((Int32 × Int32 × WD) ⊕ (Int32 × WD)) :=
  if (σ.1 1 0) ≤ l3 then some (.inr (l2, σ)) else f_X4_edgesHadBy_20 l1 l2 l3 (l3 + 1) σ
noncomputable def f_X4_edgesHadBy_4 (l1 : Int32) (l2 : Int32) (l3 : Int32) (σ : WD) : Option (Int32 × WD) :=
  lp (fun s : Int32 × Int32 × WD => f_X4_edgesHadBy_b4 l1 s.1 s.2.1 s.2.2) (l2, l3, σ)
noncomputable def f_X4_edgesHadBy (a1 : Int32) (σ : WD) : Option (Int32 × WD) :=
  f_X4_edgesHadBy_4 a1 0 0 σ
noncomputable def f_X4_isCritical_b14 (l1 : Int32) (l2 : Int32) (σ : WD) : Option ((Int32) ⊕ (Int32 × WD)) :=
  if (σ.1 1 0) ≤ l2 then some (.inr (1, σ)) else gi (l1 &&& (((1 : Int32) <<< (l2 &&& 31)) ^^^ (-1))) 4096 (if ((2 : Int32) * (σ.1 23 ((l1 &&& (((1 : Int32) <<< (l2 &&& 31)) ^^^ (-1))) : Int32).toNatClampNeg)) = ((σ.1 1 0) - 1) then some (.inl (l2 + 1)) else some (.inr (0, σ)))
noncomputable def f_X4_isCritical_14 (l1 : Int32) (l2 : Int32) (σ : WD) : Option (Int32 × WD) :=
  lp (fun s : Int32 => f_X4_isCritical_b14 l1 s σ) l2
noncomputable def f_X4_isCritical  (σ : WD) : Option (Int32 × WD) :=
  bv (f_X4_learn σ) (fun σ1 => bv (f_X0_all σ1) (fun r8 => f_X4_isCritical_14 r8 0 σ1))
noncomputable def f_X6_count_60  (σ : WD) : Option (Int32 × WD) :=
  some ((σ.1 1 0), σ)
noncomputable def f_X6_count_68  (σ : WD) : Option (Int32 × WD) :=
  bv (f_X0_edges σ) (fun r72 => some (r72, σ))
noncomputable def f_X6_count_76  (σ : WD) : Option (Int32 × WD) :=
  bv (f_X3_size σ) (fun r80 => some (r80, σ))
noncomputable def f_X6_count_84  (σ : WD) : Option (Int32 × WD) :=
  bn (f_X4_number σ) (fun r88 σ88 => some (r88, σ88))
noncomputable def f_X6_count_92  (σ : WD) : Option (Int32 × WD) :=
  bn (f_X6_deficiency σ) (fun r93 σ93 => some (r93, σ93))
noncomputable def f_X6_count_97  (σ : WD) : Option (Int32 × WD) :=
  bn (f_X4_howMany σ) (fun r101 σ101 => some (r101, σ101))
noncomputable def f_X6_count_105  (σ : WD) : Option (Int32 × WD) :=
  bn (f_X4_howMany σ) (fun r113 σ113 => bn (f_X4_edgesHadBy r113 σ113) (fun r116 σ116 => some (r116, σ116)))
noncomputable def f_X6_count_120  (σ : WD) : Option (Int32 × WD) :=
  bn (f_X4_edgesHadBy 0 σ) (fun r125 σ125 => some (r125, σ125))
noncomputable def f_X6_count_129  (σ : WD) : Option (Int32 × WD) :=
  bn (f_X4_isCritical σ) (fun r133 σ133 => if r133 = 0 then some (0, σ133) else some (1, σ133))
noncomputable def f_X6_count_145  (σ : WD) : Option (Int32 × WD) :=
  bv (f_X0_all σ) (fun r153 => bv (f_X0_pieces r153 0 σ) (fun r157 => some (r157, σ)))
noncomputable def f_X6_count_161  (σ : WD) : Option (Int32 × WD) :=
  some ((σ.1 7 3), σ)
noncomputable def f_X6_count (a1 : Int32) (σ : WD) : Option ((Int32 × WD) ⊕ Nat) :=
  if a1 = 0 then ml (f_X6_count_60  σ) else if a1 = 1 then ml (f_X6_count_68  σ) else if a1 = 2 then ml (f_X6_count_76  σ) else if a1 = 3 then ml (f_X6_count_84  σ) else if a1 = 4 then ml (f_X6_count_92  σ) else if a1 = 5 then ml (f_X6_count_97  σ) else if a1 = 6 then ml (f_X6_count_105  σ) else if a1 = 7 then ml (f_X6_count_120  σ) else if a1 = 8 then ml (f_X6_count_129  σ) else if a1 = 9 then ml (f_X6_count_145  σ) else if a1 = 10 then ml (f_X6_count_161  σ) else some (.inr 1)
noncomputable def f_X0_clear_d (a1 : Int32) (σ : WD) : Option (WD) :=
  lt (upi σ 27 0 a1) (fun σ2 => lt (ups σ2 28 (fillf (σ2.1 28) 12 0)) (fun σ10 => lt (upi σ10 27 2 ((σ10.1 27 2) + 1)) (fun σ20 => some σ20)))
noncomputable def f_X0_joined_d (a1 : Int32) (a2 : Int32) (σ : WD) : Option (Int32) :=
  gi a1 12 (if (((σ.1 28 (a1 : Int32).toNatClampNeg) >>> (a2 &&& 31)) &&& 1) = 0 then some 0 else some 1)
noncomputable def f_X0_put_d (a1 : Int32) (a2 : Int32) (a3 : Int32) (σ : WD) : Option (WD) :=
  bv (f_X0_joined_d a1 a2 σ) (fun r3 => if r3 = a3 then some σ else gi a1 12 (gi a1 12 (lt (upi σ 28 (a1 : Int32).toNatClampNeg ((σ.1 28 (a1 : Int32).toNatClampNeg) ^^^ ((1 : Int32) <<< (a2 &&& 31)))) (fun σ21 => gi a2 12 (gi a2 12 (lt (upi σ21 28 (a2 : Int32).toNatClampNeg ((σ21.1 28 (a2 : Int32).toNatClampNeg) ^^^ ((1 : Int32) <<< (a1 &&& 31)))) (fun σ33 => lt (upi σ33 27 2 ((σ33.1 27 2) + 1)) (fun σ41 => some σ41))))))))
noncomputable def f_X6_drawDifferences_66 (l2 : Int32) (l3 : Int32) (l4 : Int32) (σ : WD) : Option ((Int32 × WD) ⊕ (WD)) :=
  if l4 = (-1) then some (.inl ((l2 + 1), σ)) else if l3 = l4 then some (.inl ((l2 + 1), σ)) else bv (f_X0_put_d l2 l4 1 σ) (fun σ86 => some (.inl ((l2 + 1), σ86)))
noncomputable def f_X6_drawDifferences_b16 (l2 : Int32) (σ : WD) : Option ((Int32 × WD) ⊕ (WD)) :=
  if (σ.1 1 0) ≤ l2 then some (.inr σ) else gi l2 12 (li (σ.1 4 (l2 : Int32).toNatClampNeg) (fun v36 => gi l2 12 (li (σ.1 26 (l2 : Int32).toNatClampNeg) (fun v43 => if v36 = (-1) then f_X6_drawDifferences_66 l2 v36 v43 σ else if v36 = v43 then f_X6_drawDifferences_66 l2 v36 v43 σ else bv (f_X0_put_d l2 v36 1 σ) (fun σ63 => f_X6_drawDifferences_66 l2 v36 v43 σ63)))))
noncomputable def f_X6_drawDifferences_16 (l2 : Int32) (σ : WD) : Option (WD) :=
  lp (fun s : Int32 × WD => f_X6_drawDifferences_b16 s.1 s.2) (l2, σ)
noncomputable def f_X6_drawDifferences  (σ : WD) : Option (WD) :=
  bv (f_X0_clear_d (σ.1 1 0) σ) (fun σ11 => f_X6_drawDifferences_16 0 σ11)
noncomputable def f_X0_pieceOf_d_b10 (l2 : Int32) (l3 : Int32) (l4 : Int32) (l5 : Int32) (σ : WD) : Option ((Int32 × Int32 × Int32) ⊕ (Int32)) :=
  if (σ.1 27 0) ≤ l5 then some (.inr l3) else if l4 = 0 then some (.inr l3) else bv (f_J6_numberOfTrailingZeros_0f7a4 l4 σ) (fun r26 => gi r26 12 (li (((σ.1 28 (r26 : Int32).toNatClampNeg) &&& l2) &&& (l3 ^^^ (-1))) (fun v44 => li ((l4 &&& (((1 : Int32) <<< (r26 &&& 31)) ^^^ (-1))) ||| v44) (fun v63 => some (.inl ((l3 ||| v44), v63, (l5 + 1)))))))
noncomputable def f_X0_pieceOf_d_10 (l2 : Int32) (l3 : Int32) (l4 : Int32) (l5 : Int32) (σ : WD) : Option (Int32) :=
  lp (fun s : Int32 × Int32 × Int32 => f_X0_pieceOf_d_b10 l2 s.1 s.2.1 s.2.2 σ) (l3, l4, l5)
noncomputable def f_X0_pieceOf_d (a1 : Int32) (a2 : Int32) (σ : WD) : Option (Int32) :=
  li ((1 : Int32) <<< (a1 &&& 31)) (fun v3 => f_X0_pieceOf_d_10 a2 v3 v3 0 σ)
noncomputable def f_X0_hasNoEnd_d_b2 (l1 : Int32) (l2 : Int32) (σ : WD) : Option ((Int32) ⊕ (Int32)) :=
  if (σ.1 27 0) ≤ l2 then some (.inr 1) else if ((l1 >>> (l2 &&& 31)) &&& 1) = 0 then some (.inl (l2 + 1)) else gi l2 12 (bv (f_J6_bitCount_0f7a4 (σ.1 28 (l2 : Int32).toNatClampNeg) σ) (fun r24 => if 2 ≤ r24 then some (.inl (l2 + 1)) else some (.inr 0)))
noncomputable def f_X0_hasNoEnd_d_2 (l1 : Int32) (l2 : Int32) (σ : WD) : Option (Int32) :=
  lp (fun s : Int32 => f_X0_hasNoEnd_d_b2 l1 s σ) l2
noncomputable def f_X0_hasNoEnd_d (a1 : Int32) (σ : WD) : Option (Int32) :=
  f_X0_hasNoEnd_d_2 a1 0 σ
noncomputable def f_X6_difference_142 (l1 : Int32) (l2 : Int32) (l3 : Int32) (σ : WD) : Option (Int32 × WD) :=
  if l1 = 0 then some (l2, σ) else some (l3, σ)
noncomputable def f_X6_difference_121 (l1 : Int32) (l3 : Int32) (l4 : Int32) (l7 : Int32) (s0 : Int32) (s1 : Int32) (σ : WD) : Option ((Int32 × Int32 × Int32) ⊕ (Int32 × WD)) :=
  if l7 = 0 then some (.inl ((s1 + s0), (l3 + 1), (l4 + 1))) else some (.inl ((s1 + s0), (l3 + 0), (l4 + 1)))
noncomputable def f_X6_difference_83 (l1 : Int32) (l2 : Int32) (l3 : Int32) (l4 : Int32) (l5 : Int32) (s0 : Int32) (σ : WD) : Option ((Int32 × Int32 × Int32) ⊕ (Int32 × WD)) :=
  if s0 = 0 then some (.inl (l2, l3, (l4 + 1))) else bv (f_J6_bitCount_0f7a4 l5 σ) (fun r92 => if r92 ≤ 1 then some (.inl (l2, l3, (l4 + 1))) else bv (f_X0_hasNoEnd_d l5 σ) (fun r105 => if r105 = 0 then f_X6_difference_121 l1 l3 l4 r105 0 l2 σ else f_X6_difference_121 l1 l3 l4 r105 1 l2 σ))
noncomputable def f_X6_difference_b38 (l1 : Int32) (l2 : Int32) (l3 : Int32) (l4 : Int32) (σ : WD) : Option ((Int32 × Int32 × Int32) ⊕ (Int32 × WD)) :=
  if (σ.1 1 0) ≤ l4 then mr (f_X6_difference_142 l1 l2 l3 σ) else bv (f_X0_all σ) (fun r60 => bv (f_X0_pieceOf_d l4 r60 σ) (fun r63 => bv (f_J6_numberOfTrailingZeros_0f7a4 r63 σ) (fun r70 => if r70 = l4 then f_X6_difference_83 l1 l2 l3 l4 r63 1 σ else f_X6_difference_83 l1 l2 l3 l4 r63 0 σ)))
noncomputable def f_X6_difference_38 (l1 : Int32) (l2 : Int32) (l3 : Int32) (l4 : Int32) (σ : WD) : Option (Int32 × WD) :=
  lp (fun s : Int32 × Int32 × Int32 => f_X6_difference_b38 l1 s.1 s.2.1 s.2.2 σ) (l2, l3, l4)
noncomputable def f_X6_difference_20 (l1 : Int32) (σ : WD) : Option (Int32 × WD) :=
  bv (f_X4_first σ) (fun σ25 => bv (f_X6_drawDifferences σ25) (fun σ28 => f_X6_difference_38 l1 0 0 0 σ28))
noncomputable def f_X6_difference (a1 : Int32) (σ : WD) : Option ((Int32 × WD) ⊕ Nat) :=
  if a1 = 0 then ml (f_X6_difference_20 a1 σ) else if a1 = 1 then ml (f_X6_difference_20 a1 σ) else some (.inr 1)
noncomputable def f_X6_meanUse_79 (l1 : Int32) (l2 : Int32) (σ : WD) : Option (Option (Int32 × Int32) × WD) :=
  some (some (l2, l1), σ)
noncomputable def f_X6_meanUse_b42 (l1 : Int32) (l2 : Int32) (l3 : Int32) (l4 : Int32) (σ : WD) : Option ((Int32 × Int32 × WD) ⊕ ((Int32 × Int32 × WD) ⊕ (Option (Int32 × Int32) × WD))) :=
  if (σ.1 1 0) ≤ l4 then some (.inr (.inl (l2, (l3 + 1), σ))) else bn (f_X4_having l3 l4 σ) (fun r62 σ62 => some (.inl ((l2 + r62), (l4 + 1), σ62)))
noncomputable def f_X6_meanUse_42 (l1 : Int32) (l2 : Int32) (l3 : Int32) (l4 : Int32) (σ : WD) : Option ((Int32 × Int32 × WD) ⊕ (Option (Int32 × Int32) × WD)) :=
  lp (fun s : Int32 × Int32 × WD => f_X6_meanUse_b42 l1 s.1 l3 s.2.1 s.2.2) (l2, l4, σ)
noncomputable def f_X6_meanUse_b26 (l1 : Int32) (l2 : Int32) (l3 : Int32) (σ : WD) : Option ((Int32 × Int32 × WD) ⊕ (Option (Int32 × Int32) × WD)) :=
  if (σ.1 1 0) ≤ l3 then mr (f_X6_meanUse_79 l1 l2 σ) else f_X6_meanUse_42 l1 l2 l3 (l3 + 1) σ
noncomputable def f_X6_meanUse_26 (l1 : Int32) (l2 : Int32) (l3 : Int32) (σ : WD) : Option (Option (Int32 × Int32) × WD) :=
  lp (fun s : Int32 × Int32 × WD => f_X6_meanUse_b26 l1 s.1 s.2.1 s.2.2) (l2, l3, σ)
noncomputable def f_X6_meanUse  (σ : WD) : Option (Option (Int32 × Int32) × WD) :=
  bv (f_X0_edges σ) (fun r4 => bn (f_X4_howMany σ) (fun r11 σ11 => if (r4 * r11) = 0 then some (none, σ11) else f_X6_meanUse_26 (r4 * r11) 0 0 σ11))
noncomputable def f_X6_mix (a1 : Int64) (a2 : Int64) (σ : WD) : Option (Int64) :=
  some ((31 * a1) + a2)
noncomputable def f_X6_mixInput_50 (l3 : Int64) (σ : WD) : Option (Int64) :=
  some l3
noncomputable def f_X6_mixInput_b16 (l3 : Int64) (l5 : Int32) (σ : WD) : Option ((Int64 × Int32) ⊕ (Int64)) :=
  if (σ.1 5 1) ≤ l5 then mr (f_X6_mixInput_50 l3 σ) else gi l5 60 (bv (f_X6_mix l3 (((σ.1 6 (l5 : Int32).toNatClampNeg)).toInt64) σ) (fun r40 => some (.inl (r40, (l5 + 1)))))
noncomputable def f_X6_mixInput_16 (l3 : Int64) (l5 : Int32) (σ : WD) : Option (Int64) :=
  lp (fun s : Int64 × Int32 => f_X6_mixInput_b16 s.1 s.2 σ) (l3, l5)
noncomputable def f_X6_mixInput (a1 : Int64) (σ : WD) : Option (Int64) :=
  bv (f_X6_mix a1 (((σ.1 5 1)).toInt64) σ) (fun r9 => f_X6_mixInput_16 r9 0 σ)
noncomputable def f_X6_mixPair_35 (l5 : Int64) (σ : WD) : Option (Int64 × WD) :=
  some (l5, σ)
noncomputable def f_X6_mixPair_b6 (l3 : Int32) (l4 : Int32) (l5 : Int64) (l7 : Int32) (σ : WD) : Option ((Int64 × Int32 × WD) ⊕ (Int64 × WD)) :=
  if 2 < l7 then mr (f_X6_mixPair_35 l5 σ) else bq (f_X6_edge l3 l4 l7 σ) (fun p20 => bv (f_X6_mix l5 ((p20.1).toInt64) p20.2) (fun r24 => some (.inl (r24, (l7 + 1), p20.2))))
noncomputable def f_X6_mixPair_6 (l3 : Int32) (l4 : Int32) (l5 : Int64) (l7 : Int32) (σ : WD) : Option (Int64 × WD) :=
  lp (fun s : Int64 × Int32 × WD => f_X6_mixPair_b6 l3 l4 s.1 s.2.1 s.2.2) (l5, l7, σ)
noncomputable def f_X6_mixPair (a1 : Int64) (a2 : Int32) (a3 : Int32) (σ : WD) : Option (Int64 × WD) :=
  f_X6_mixPair_6 a2 a3 a1 0 σ
noncomputable def f_X6_mixNode_33 (l3 : Int32) (l4 : Int64) (σ : WD) : Option (Int64 × WD) :=
  bq (f_X6_firstMate l3 σ) (fun p37 => bv (f_X6_mix l4 ((p37.1).toInt64) p37.2) (fun r41 => bq (f_X6_reach l3 1 p37.2) (fun p51 => bv (f_X6_mix r41 ((p51.1).toInt64) p51.2) (fun r55 => bq (f_X6_reach l3 0 p51.2) (fun p65 => bv (f_X6_mix r55 ((p65.1).toInt64) p65.2) (fun r69 => bv (f_X3_isExposed l3 p65.2) (fun r79 => if r79 = 0 then some (r69, p65.2) else bq (f_X6_way l3 p65.2) (fun p89 => bv (f_X6_mix r69 ((p89.1).toInt64) p89.2) (fun r93 => some (r93, p89.2))))))))))
noncomputable def f_X6_mixNode_b6 (l3 : Int32) (l4 : Int64) (l6 : Int32) (σ : WD) : Option ((Int64 × Int32 × WD) ⊕ (Int64 × WD)) :=
  if 4 < l6 then mr (f_X6_mixNode_33 l3 l4 σ) else bq (f_X6_node l3 l6 σ) (fun p18 => bv (f_X6_mix l4 ((p18.1).toInt64) p18.2) (fun r22 => some (.inl (r22, (l6 + 1), p18.2))))
noncomputable def f_X6_mixNode_6 (l3 : Int32) (l4 : Int64) (l6 : Int32) (σ : WD) : Option (Int64 × WD) :=
  lp (fun s : Int64 × Int32 × WD => f_X6_mixNode_b6 l3 s.1 s.2.1 s.2.2) (l4, l6, σ)
noncomputable def f_X6_mixNode (a1 : Int64) (a2 : Int32) (σ : WD) : Option (Int64 × WD) :=
  f_X6_mixNode_6 a2 a1 0 σ
noncomputable def f_X6_digest_106 (l1 : Int64) (σ : WD) : Option (Int64 × WD) :=
  bn (f_X6_proof σ) (fun r108 σ108 => bv (f_X6_mix l1 ((r108).toInt64) σ108) (fun r112 => bv (f_X6_oddCycle σ108) (fun r118 => bv (f_X6_mix r112 ((r118).toInt64) σ108) (fun r122 => bq (f_X6_difference 0 σ108) (fun p129 => bv (f_X6_mix r122 ((p129.1).toInt64) p129.2) (fun r133 => bq (f_X6_difference 1 p129.2) (fun p140 => bv (f_X6_mix r133 ((p140.1).toInt64) p140.2) (fun r144 => bv (f_X6_mixInput r144 p140.2) (fun r150 => some (r150, p140.2))))))))))
noncomputable def f_X6_digest_b73 (l1 : Int64) (l3 : Int32) (l4 : Int32) (σ : WD) : Option ((Int64 × Int32 × WD) ⊕ ((Int64 × Int32 × WD) ⊕ (Int64 × WD))) :=
  if (σ.1 1 0) ≤ l4 then some (.inr (.inl (l1, (l3 + 1), σ))) else bn (f_X6_mixPair l1 l3 l4 σ) (fun r90 σ90 => some (.inl (r90, (l4 + 1), σ90)))
noncomputable def f_X6_digest_73 (l1 : Int64) (l3 : Int32) (l4 : Int32) (σ : WD) : Option ((Int64 × Int32 × WD) ⊕ (Int64 × WD)) :=
  lp (fun s : Int64 × Int32 × WD => f_X6_digest_b73 s.1 l3 s.2.1 s.2.2) (l1, l4, σ)
noncomputable def f_X6_digest_b57 (l1 : Int64) (l3 : Int32) (σ : WD) : Option ((Int64 × Int32 × WD) ⊕ (Int64 × WD)) :=
  if (σ.1 1 0) ≤ l3 then mr (f_X6_digest_106 l1 σ) else f_X6_digest_73 l1 l3 (l3 + 1) σ
noncomputable def f_X6_digest_57 (l1 : Int64) (l3 : Int32) (σ : WD) : Option (Int64 × WD) :=
  lp (fun s : Int64 × Int32 × WD => f_X6_digest_b57 s.1 s.2.1 s.2.2) (l1, l3, σ)
noncomputable def f_X6_digest_b31 (l1 : Int64) (l3 : Int32) (σ : WD) : Option ((Int64 × Int32 × WD) ⊕ (Int64 × WD)) :=
  if (σ.1 1 0) ≤ l3 then mr (f_X6_digest_57 l1 0 σ) else bn (f_X6_mixNode l1 l3 σ) (fun r45 σ45 => some (.inl (r45, (l3 + 1), σ45)))
noncomputable def f_X6_digest_31 (l1 : Int64) (l3 : Int32) (σ : WD) : Option (Int64 × WD) :=
  lp (fun s : Int64 × Int32 × WD => f_X6_digest_b31 s.1 s.2.1 s.2.2) (l1, l3, σ)
noncomputable def f_X6_digest_b6 (l1 : Int64) (l3 : Int32) (σ : WD) : Option ((Int64 × Int32 × WD) ⊕ (Int64 × WD)) :=
  if 10 < l3 then mr (f_X6_digest_31 l1 0 σ) else bq (f_X6_count l3 σ) (fun p15 => bv (f_X6_mix l1 ((p15.1).toInt64) p15.2) (fun r19 => some (.inl (r19, (l3 + 1), p15.2))))
noncomputable def f_X6_digest_6 (l1 : Int64) (l3 : Int32) (σ : WD) : Option (Int64 × WD) :=
  lp (fun s : Int64 × Int32 × WD => f_X6_digest_b6 s.1 s.2.1 s.2.2) (l1, l3, σ)
noncomputable def f_X6_digest  (σ : WD) : Option (Int64 × WD) :=
  f_X6_digest_6 2003 0 σ
noncomputable def f_X7_thrown  (σ : WD) : Option (Int32) :=
  some (σ.1 29 0)
noncomputable def f_X7_within (a1 : Int32) (a2 : Int32) (a3 : Int32) (σ : WD) : Option (Int32) :=
  if a1 < a2 then some 0 else if a3 < a1 then some 0 else some 1
noncomputable def f_X7_has (a1 : Int32) (a2 : Int32) (σ : WD) : Option (Int32) :=
  if ((a1 >>> (a2 &&& 31)) &&& 1) = 1 then some 1 else some 0
noncomputable def f_X7_bits_b4 (l0 : Int32) (l1 : Int32) (l2 : Int32) (σ : WD) : Option ((Int32 × Int32) ⊕ (Int32)) :=
  if 12 ≤ l2 then some (.inr l1) else li (l1 + ((l0 >>> (l2 &&& 31)) &&& 1)) (fun v17 => some (.inl (v17, (l2 + 1))))
noncomputable def f_X7_bits_4 (l0 : Int32) (l1 : Int32) (l2 : Int32) (σ : WD) : Option (Int32) :=
  lp (fun s : Int32 × Int32 => f_X7_bits_b4 l0 s.1 s.2 σ) (l1, l2)
noncomputable def f_X7_bits (a1 : Int32) (σ : WD) : Option (Int32) :=
  f_X7_bits_4 a1 0 0 σ
noncomputable def f_X7_isNode (a1 : Int32) (σ : WD) : Option (Int32) :=
  bv (f_X7_within a1 0 ((σ.1 29 1) - 1) σ) (fun r8 => gb r8 (some r8))
noncomputable def f_X7_all  (σ : WD) : Option (Int32) :=
  some (((1 : Int32) <<< ((σ.1 29 1) &&& 31)) - 1)
noncomputable def f_X7_clearAll_28  (σ : WD) : Option (WD) :=
  lt (upi σ 29 4 0) (fun σ30 => some σ30)
noncomputable def f_X7_clearAll_b2 (l1 : Int32) (σ : WD) : Option ((Int32 × WD) ⊕ (WD)) :=
  if 12 ≤ l1 then mr (f_X7_clearAll_28  σ) else gi l1 12 (lt (upi σ 30 (l1 : Int32).toNatClampNeg 0) (fun σ14 => gi l1 12 (lt (upi σ14 31 (l1 : Int32).toNatClampNeg (-1)) (fun σ21 => some (.inl ((l1 + 1), σ21))))))
noncomputable def f_X7_clearAll_2 (l1 : Int32) (σ : WD) : Option (WD) :=
  lp (fun s : Int32 × WD => f_X7_clearAll_b2 s.1 s.2) (l1, σ)
noncomputable def f_X7_clearAll  (σ : WD) : Option (WD) :=
  f_X7_clearAll_2 0 σ
noncomputable def f_X7_flip (a1 : Int32) (a2 : Int32) (σ : WD) : Option (WD) :=
  gi a1 12 (gi a1 12 (lt (upi σ 30 (a1 : Int32).toNatClampNeg ((σ.1 30 (a1 : Int32).toNatClampNeg) ^^^ ((1 : Int32) <<< (a2 &&& 31)))) (fun σ11 => gi a2 12 (gi a2 12 (lt (upi σ11 30 (a2 : Int32).toNatClampNeg ((σ11.1 30 (a2 : Int32).toNatClampNeg) ^^^ ((1 : Int32) <<< (a1 &&& 31)))) (fun σ23 => some σ23))))))
noncomputable def f_X7_pair (a1 : Int32) (a2 : Int32) (σ : WD) : Option (WD) :=
  gi a1 12 (lt (upi σ 31 (a1 : Int32).toNatClampNeg a2) (fun σ6 => gi a2 12 (lt (upi σ6 31 (a2 : Int32).toNatClampNeg a1) (fun σ13 => some σ13))))
noncomputable def f_X7_part (a1 : Int32) (σ : WD) : Option (WD) :=
  gi a1 12 (gi (σ.1 31 (a1 : Int32).toNatClampNeg) 12 (lt (upi σ 31 ((σ.1 31 (a1 : Int32).toNatClampNeg) : Int32).toNatClampNeg (-1)) (fun σ11 => gi a1 12 (lt (upi σ11 31 (a1 : Int32).toNatClampNeg (-1)) (fun σ18 => some σ18)))))
noncomputable def f_X7_keep_104  (σ : WD) : Option (WD) :=
  lt (upi σ 29 4 ((σ.1 29 4) + 1)) (fun σ111 => some σ111)
noncomputable def f_X7_keep_b49 (l1 : Int32) (σ : WD) : Option ((Int32 × WD) ⊕ (WD)) :=
  if 12 ≤ l1 then mr (f_X7_keep_104  σ) else gi l1 12 (gi (((24 : Int32) * (σ.1 29 4)) + l1) 96 (lt (upi σ 32 ((((24 : Int32) * (σ.1 29 4)) + l1) : Int32).toNatClampNeg (σ.1 30 (l1 : Int32).toNatClampNeg)) (fun σ74 => gi l1 12 (gi ((((24 : Int32) * (σ74.1 29 4)) + 12) + l1) 96 (lt (upi σ74 32 (((((24 : Int32) * (σ74.1 29 4)) + 12) + l1) : Int32).toNatClampNeg (σ74.1 31 (l1 : Int32).toNatClampNeg)) (fun σ97 => some (.inl ((l1 + 1), σ97))))))))
noncomputable def f_X7_keep_49 (l1 : Int32) (σ : WD) : Option (WD) :=
  lp (fun s : Int32 × WD => f_X7_keep_b49 s.1 s.2) (l1, σ)
noncomputable def f_X7_keep_37  (σ : WD) : Option (WD) :=
  lt (upi σ 29 4 ((σ.1 29 4) - 1)) (fun σ44 => f_X7_keep_49 0 σ44)
noncomputable def f_X7_keep_b10 (l1 : Int32) (σ : WD) : Option ((Int32 × WD) ⊕ (WD)) :=
  if 72 ≤ l1 then mr (f_X7_keep_37  σ) else gi (l1 + 24) 96 (gi l1 96 (lt (upi σ 32 (l1 : Int32).toNatClampNeg (σ.1 32 ((l1 + 24) : Int32).toNatClampNeg)) (fun σ30 => some (.inl ((l1 + 1), σ30)))))
noncomputable def f_X7_keep_10 (l1 : Int32) (σ : WD) : Option (WD) :=
  lp (fun s : Int32 × WD => f_X7_keep_b10 s.1 s.2) (l1, σ)
noncomputable def f_X7_keep  (σ : WD) : Option (WD) :=
  if (σ.1 29 4) = 4 then f_X7_keep_10 0 σ else f_X7_keep_49 0 σ
noncomputable def f_X7_note_46 (s0 : Int32) (s1 : Int32) (s2 : Int32) (σ : WD) : Option (WD) :=
  gi s2 4096 (lt (upi σ 35 (s2 : Int32).toNatClampNeg (s1 + s0)) (fun σ47 => some σ47))
noncomputable def f_X7_note_24 (l1 : Int32) (l2 : Int32) (l3 : Int32) (σ : WD) : Option (WD) :=
  gi l1 4096 (gi l1 4096 (if l2 = (σ.1 34 (l1 : Int32).toNatClampNeg) then f_X7_note_46 l3 (σ.1 35 (l1 : Int32).toNatClampNeg) l1 σ else f_X7_note_46 0 (σ.1 35 (l1 : Int32).toNatClampNeg) l1 σ))
noncomputable def f_X7_note (a1 : Int32) (a2 : Int32) (a3 : Int32) (σ : WD) : Option (WD) :=
  gi a1 4096 (if a2 ≤ (σ.1 34 (a1 : Int32).toNatClampNeg) then f_X7_note_24 a1 a2 a3 σ else gi a1 4096 (lt (upi σ 34 (a1 : Int32).toNatClampNeg a2) (fun σ16 => gi a1 4096 (lt (upi σ16 35 (a1 : Int32).toNatClampNeg 0) (fun σ23 => f_X7_note_24 a1 a2 a3 σ23)))))
noncomputable def f_X7_laySets_b77 (l1 : Int32) (l2 : Int32) (l3 : Int32) (l4 : Int32) (σ : WD) : Option ((Int32 × WD) ⊕ ((Int32 × WD) ⊕ (WD))) :=
  if (σ.1 29 1) ≤ l4 then some (.inr (.inl ((l1 + 1), σ))) else gi l2 12 (bv (f_X7_has (l3 &&& (σ.1 30 (l2 : Int32).toNatClampNeg)) l4 σ) (fun r96 => if r96 = 0 then some (.inl ((l4 + 1), σ)) else gi (l3 &&& (((1 : Int32) <<< (l4 &&& 31)) ^^^ (-1))) 4096 (gi (l3 &&& (((1 : Int32) <<< (l4 &&& 31)) ^^^ (-1))) 4096 (bv (f_X7_note l1 ((σ.1 34 ((l3 &&& (((1 : Int32) <<< (l4 &&& 31)) ^^^ (-1))) : Int32).toNatClampNeg) + 1) (σ.1 35 ((l3 &&& (((1 : Int32) <<< (l4 &&& 31)) ^^^ (-1))) : Int32).toNatClampNeg) σ) (fun σ132 => some (.inl ((l4 + 1), σ132)))))))
noncomputable def f_X7_laySets_77 (l1 : Int32) (l2 : Int32) (l3 : Int32) (l4 : Int32) (σ : WD) : Option ((Int32 × WD) ⊕ (WD)) :=
  lp (fun s : Int32 × WD => f_X7_laySets_b77 l1 l2 l3 s.1 s.2) (l4, σ)
noncomputable def f_X7_laySets_40 (l1 : Int32) (l2 : Int32) (σ : WD) : Option ((Int32 × WD) ⊕ (WD)) :=
  li (l1 &&& (((1 : Int32) <<< (l2 &&& 31)) ^^^ (-1))) (fun v47 => gi l1 4096 (lt (upi σ 34 (l1 : Int32).toNatClampNeg (-1)) (fun σ54 => gi v47 4096 (gi v47 4096 (bv (f_X7_note l1 (σ54.1 34 (v47 : Int32).toNatClampNeg) (σ54.1 35 (v47 : Int32).toNatClampNeg) σ54) (fun σ69 => f_X7_laySets_77 l1 l2 v47 (l2 + 1) σ69))))))
noncomputable def f_X7_laySets_b26 (l1 : Int32) (l2 : Int32) (σ : WD) : Option ((Int32) ⊕ ((Int32 × WD) ⊕ (WD))) :=
  bv (f_X7_has l1 l2 σ) (fun r28 => if r28 = 0 then some (.inl (l2 + 1)) else mr (f_X7_laySets_40 l1 l2 σ))
noncomputable def f_X7_laySets_26 (l1 : Int32) (l2 : Int32) (σ : WD) : Option ((Int32 × WD) ⊕ (WD)) :=
  lp (fun s : Int32 => f_X7_laySets_b26 l1 s σ) l2
noncomputable def f_X7_laySets_b16 (l1 : Int32) (σ : WD) : Option ((Int32 × WD) ⊕ (WD)) :=
  bv (f_X7_all σ) (fun r18 => if r18 < l1 then some (.inr σ) else f_X7_laySets_26 l1 0 σ)
noncomputable def f_X7_laySets_16 (l1 : Int32) (σ : WD) : Option (WD) :=
  lp (fun s : Int32 × WD => f_X7_laySets_b16 s.1 s.2) (l1, σ)
noncomputable def f_X7_laySets  (σ : WD) : Option (WD) :=
  gi 0 4096 (lt (upi σ 34 (0 : Int32).toNatClampNeg 0) (fun σ6 => gi 0 4096 (lt (upi σ6 35 (0 : Int32).toNatClampNeg 1) (fun σ13 => f_X7_laySets_16 1 σ13))))
noncomputable def f_X7_layFirst_111 (l2 : Int32) (l3 : Int32) (l4 : Int32) (s0 : Int32) (s1 : Int32) (σ : WD) : Option ((Int32 × Int32 × WD) ⊕ (WD)) :=
  gi s1 12 (lt (upi σ 36 (s1 : Int32).toNatClampNeg s0) (fun σ111 => if (σ111.1 29 1) ≤ l4 then some (.inl (l3, (l2 + 1), σ111)) else gi l4 12 (lt (upi σ111 36 (l4 : Int32).toNatClampNeg l2) (fun σ130 => li (l3 &&& (((1 : Int32) <<< (l4 &&& 31)) ^^^ (-1))) (fun v139 => some (.inl (v139, (l2 + 1), σ130)))))))
noncomputable def f_X7_layFirst_91 (l2 : Int32) (l3 : Int32) (l4 : Int32) (σ : WD) : Option ((Int32 × Int32 × WD) ⊕ (WD)) :=
  if (σ.1 29 1) ≤ l4 then f_X7_layFirst_111 l2 l3 l4 (-1) l2 σ else f_X7_layFirst_111 l2 l3 l4 l4 l2 σ
noncomputable def f_X7_layFirst_b36 (l1 : Int32) (l2 : Int32) (l3 : Int32) (l4 : Int32) (σ : WD) : Option ((Int32) ⊕ ((Int32 × Int32 × WD) ⊕ (WD))) :=
  if (σ.1 29 1) ≤ l4 then mr (f_X7_layFirst_91 l2 l3 l4 σ) else gi l2 12 (bv (f_X7_has (l3 &&& (σ.1 30 (l2 : Int32).toNatClampNeg)) l4 σ) (fun r55 => if r55 = 0 then some (.inl (l4 + 1)) else gi (l3 &&& (((1 : Int32) <<< (l4 &&& 31)) ^^^ (-1))) 4096 (gi l1 4096 (if ((σ.1 34 ((l3 &&& (((1 : Int32) <<< (l4 &&& 31)) ^^^ (-1))) : Int32).toNatClampNeg) + 1) = (σ.1 34 (l1 : Int32).toNatClampNeg) then mr (f_X7_layFirst_91 l2 l3 l4 σ) else some (.inl (l4 + 1))))))
noncomputable def f_X7_layFirst_36 (l1 : Int32) (l2 : Int32) (l3 : Int32) (l4 : Int32) (σ : WD) : Option ((Int32 × Int32 × WD) ⊕ (WD)) :=
  lp (fun s : Int32 => f_X7_layFirst_b36 l1 l2 l3 s σ) l4
noncomputable def f_X7_layFirst_b7 (l1 : Int32) (l2 : Int32) (σ : WD) : Option ((Int32 × Int32 × WD) ⊕ (WD)) :=
  if (σ.1 29 1) ≤ l2 then some (.inr σ) else bv (f_X7_has l1 l2 σ) (fun r17 => if r17 = 0 then some (.inl (l1, (l2 + 1), σ)) else li (l1 &&& (((1 : Int32) <<< (l2 &&& 31)) ^^^ (-1))) (fun v30 => f_X7_layFirst_36 l1 l2 v30 (l2 + 1) σ))
noncomputable def f_X7_layFirst_7 (l1 : Int32) (l2 : Int32) (σ : WD) : Option (WD) :=
  lp (fun s : Int32 × Int32 × WD => f_X7_layFirst_b7 s.1 s.2.1 s.2.2) (l1, l2, σ)
noncomputable def f_X7_layFirst  (σ : WD) : Option (WD) :=
  bv (f_X7_all σ) (fun r1 => f_X7_layFirst_7 r1 0 σ)
noncomputable def f_X7_exposing (a1 : Int32) (σ : WD) : Option (Int32) :=
  bv (f_X7_all σ) (fun r1 => li (r1 &&& (((1 : Int32) <<< (a1 &&& 31)) ^^^ (-1))) (fun v10 => gi v10 4096 (bv (f_X7_all σ) (fun r22 => gi r22 4096 (if (σ.1 34 (v10 : Int32).toNatClampNeg) = (σ.1 34 (r22 : Int32).toNatClampNeg) then gi v10 4096 (some (σ.1 35 (v10 : Int32).toNatClampNeg)) else some 0)))))
noncomputable def f_X7_using_23 (l1 : Int32) (l2 : Int32) (s0 : Int32) (σ : WD) : Option (Int32) :=
  bv (f_X7_all σ) (fun r25 => li ((r25 &&& (((1 : Int32) <<< (l1 &&& 31)) ^^^ (-1))) &&& (((1 : Int32) <<< (l2 &&& 31)) ^^^ (-1))) (fun v40 => if s0 = 0 then some 0 else gi v40 4096 (bv (f_X7_all σ) (fun r60 => gi r60 4096 (if ((σ.1 34 (v40 : Int32).toNatClampNeg) + 1) = (σ.1 34 (r60 : Int32).toNatClampNeg) then gi v40 4096 (some (σ.1 35 (v40 : Int32).toNatClampNeg)) else some 0)))))
noncomputable def f_X7_using_22 (l1 : Int32) (l2 : Int32) (σ : WD) : Option (Int32) :=
  f_X7_using_23 l1 l2 0 σ
noncomputable def f_X7_using (a1 : Int32) (a2 : Int32) (σ : WD) : Option (Int32) :=
  if a1 = a2 then f_X7_using_22 a1 a2 σ else gi a1 12 (bv (f_X7_has (σ.1 30 (a1 : Int32).toNatClampNeg) a2 σ) (fun r12 => if r12 = 0 then f_X7_using_22 a1 a2 σ else f_X7_using_23 a1 a2 1 σ))
noncomputable def f_X7_partOf_59 (l2 : Int32) (σ : WD) : Option (Int32) :=
  if l2 = 0 then some 2 else some 1
noncomputable def f_X7_partOf_b14 (l1 : Int32) (l2 : Int32) (l3 : Int32) (σ : WD) : Option ((Int32 × Int32) ⊕ (Int32)) :=
  if (σ.1 29 1) ≤ l3 then mr (f_X7_partOf_59 l2 σ) else if l2 = 0 then gi l1 12 (bv (f_X7_has (σ.1 30 (l1 : Int32).toNatClampNeg) l3 σ) (fun r33 => if r33 = 0 then some (.inl (0, (l3 + 1))) else bv (f_X7_exposing l3 σ) (fun r41 => if r41 ≤ 0 then some (.inl (0, (l3 + 1))) else some (.inl (1, (l3 + 1)))))) else some (.inl (1, (l3 + 1)))
noncomputable def f_X7_partOf_14 (l1 : Int32) (l2 : Int32) (l3 : Int32) (σ : WD) : Option (Int32) :=
  lp (fun s : Int32 × Int32 => f_X7_partOf_b14 l1 s.1 s.2 σ) (l2, l3)
noncomputable def f_X7_partOf (a1 : Int32) (σ : WD) : Option (Int32) :=
  bv (f_X7_exposing a1 σ) (fun r2 => if r2 ≤ 0 then f_X7_partOf_14 a1 0 0 σ else some 0)
noncomputable def f_X7_isCritical_b4 (l1 : Int32) (l2 : Int32) (σ : WD) : Option ((Int32 × Int32) ⊕ (Int32)) :=
  if (σ.1 29 1) ≤ l2 then gb l1 (some (.inr l1)) else if l1 = 0 then some (.inl (0, (l2 + 1))) else bv (f_X7_all σ) (fun r22 => gi (r22 &&& (((1 : Int32) <<< (l2 &&& 31)) ^^^ (-1))) 4096 (if ((2 : Int32) * (σ.1 34 ((r22 &&& (((1 : Int32) <<< (l2 &&& 31)) ^^^ (-1))) : Int32).toNatClampNeg)) = ((σ.1 29 1) - 1) then some (.inl (1, (l2 + 1))) else some (.inl (0, (l2 + 1)))))
noncomputable def f_X7_isCritical_4 (l1 : Int32) (l2 : Int32) (σ : WD) : Option (Int32) :=
  lp (fun s : Int32 × Int32 => f_X7_isCritical_b4 s.1 s.2 σ) (l1, l2)
noncomputable def f_X7_isCritical  (σ : WD) : Option (Int32) :=
  f_X7_isCritical_4 1 0 σ
noncomputable def f_X7_componentOf_51 (l2 : Int32) (l4 : Int32) (l5 : Int32) (s0 : Int32) (s1 : Int32) (σ : WD) : Option ((Int32 × Int32) ⊕ ((Int32 × Int32) ⊕ (Int32))) :=
  some (.inl ((s1 ||| s0), (l5 + 1)))
noncomputable def f_X7_componentOf_b19 (l2 : Int32) (l3 : Int32) (l4 : Int32) (l5 : Int32) (σ : WD) : Option ((Int32 × Int32) ⊕ ((Int32 × Int32) ⊕ (Int32))) :=
  if (σ.1 29 1) ≤ l5 then some (.inr (.inl (l3, l4))) else bv (f_X7_has l3 l5 σ) (fun r32 => if r32 = 0 then f_X7_componentOf_51 l2 l4 l5 0 l3 σ else gi l5 12 (f_X7_componentOf_51 l2 l4 l5 ((σ.1 30 (l5 : Int32).toNatClampNeg) &&& l2) l3 σ))
noncomputable def f_X7_componentOf_19 (l2 : Int32) (l3 : Int32) (l4 : Int32) (l5 : Int32) (σ : WD) : Option ((Int32 × Int32) ⊕ (Int32)) :=
  lp (fun s : Int32 × Int32 => f_X7_componentOf_b19 l2 s.1 l4 s.2 σ) (l3, l5)
noncomputable def f_X7_componentOf_b7 (l2 : Int32) (l3 : Int32) (l4 : Int32) (σ : WD) : Option ((Int32 × Int32) ⊕ (Int32)) :=
  if l3 = l4 then some (.inr l3) else f_X7_componentOf_19 l2 l3 l3 0 σ
noncomputable def f_X7_componentOf_7 (l2 : Int32) (l3 : Int32) (l4 : Int32) (σ : WD) : Option (Int32) :=
  lp (fun s : Int32 × Int32 => f_X7_componentOf_b7 l2 s.1 s.2 σ) (l3, l4)
noncomputable def f_X7_componentOf (a1 : Int32) (a2 : Int32) (σ : WD) : Option (Int32) :=
  li ((1 : Int32) <<< (a1 &&& 31)) (fun v3 => f_X7_componentOf_7 a2 v3 0 σ)
noncomputable def f_X7_componentsOf_b8 (l1 : Int32) (l2 : Int32) (l3 : Int32) (l4 : Int32) (l5 : Int32) (σ : WD) : Option ((Int32 × Int32 × Int32) ⊕ (Int32)) :=
  if (σ.1 29 1) ≤ l5 then some (.inr l4) else bv (f_X7_has l3 l5 σ) (fun r20 => if r20 = 0 then some (.inl (l3, l4, (l5 + 1))) else bv (f_X7_componentOf l5 l1 σ) (fun r30 => li (l3 &&& (r30 ^^^ (-1))) (fun v41 => if l2 = 0 then some (.inl (v41, (l4 + 1), (l5 + 1))) else bv (f_X7_bits r30 σ) (fun r50 => gz 2 (if (r50 - r50 / 2 * 2) = 1 then some (.inl (v41, (l4 + 1), (l5 + 1))) else some (.inl (v41, (l4 + 0), (l5 + 1))))))))
noncomputable def f_X7_componentsOf_8 (l1 : Int32) (l2 : Int32) (l3 : Int32) (l4 : Int32) (l5 : Int32) (σ : WD) : Option (Int32) :=
  lp (fun s : Int32 × Int32 × Int32 => f_X7_componentsOf_b8 l1 l2 s.1 s.2.1 s.2.2 σ) (l3, l4, l5)
noncomputable def f_X7_componentsOf (a1 : Int32) (a2 : Int32) (σ : WD) : Option (Int32) :=
  f_X7_componentsOf_8 a1 a2 a1 0 0 σ
noncomputable def f_X7_lowest_b12 (l2 : Int32) (l3 : Int32) (σ : WD) : Option ((Int32) ⊕ (Int32)) :=
  bv (f_X7_has l2 l3 σ) (fun r14 => if r14 = 0 then some (.inl (l3 + 1)) else some (.inr l3))
noncomputable def f_X7_lowest_12 (l2 : Int32) (l3 : Int32) (σ : WD) : Option (Int32) :=
  lp (fun s : Int32 => f_X7_lowest_b12 l2 s σ) l3
noncomputable def f_X7_lowest (a1 : Int32) (σ : WD) : Option (Int32) :=
  bv (f_X7_all σ) (fun r3 => bv (f_X7_componentOf a1 r3 σ) (fun r6 => f_X7_lowest_12 r6 0 σ))
noncomputable def f_X7_proofNow_88 (l1 : Int32) (l2 : Int32) (l4 : Int32) (l5 : Int32) (s0 : Int32) (σ : WD) : Option ((Int32 × Int32 × Int32) ⊕ (Int32)) :=
  if l5 = 0 then some (.inl (l2, s0, (l4 + 1))) else some (.inl (l4, s0, (l4 + 1)))
noncomputable def f_X7_proofNow_72 (l1 : Int32) (l2 : Int32) (l3 : Int32) (l4 : Int32) (s0 : Int32) (σ : WD) : Option ((Int32 × Int32 × Int32) ⊕ (Int32)) :=
  if s0 = 0 then f_X7_proofNow_88 l1 l2 l4 s0 l3 σ else bv (f_X7_bits l4 σ) (fun r81 => f_X7_proofNow_88 l1 l2 l4 s0 r81 σ)
noncomputable def f_X7_proofNow_71 (l1 : Int32) (l2 : Int32) (l3 : Int32) (l4 : Int32) (σ : WD) : Option ((Int32 × Int32 × Int32) ⊕ (Int32)) :=
  f_X7_proofNow_72 l1 l2 l3 l4 0 σ
noncomputable def f_X7_proofNow_b25 (l1 : Int32) (l2 : Int32) (l3 : Int32) (l4 : Int32) (σ : WD) : Option ((Int32 × Int32 × Int32) ⊕ (Int32)) :=
  bv (f_X7_all σ) (fun r28 => if r28 < l4 then some (.inr l2) else bv (f_X7_bits l4 σ) (fun r36 => if l3 ≤ r36 then f_X7_proofNow_71 l1 l2 l3 l4 σ else bv (f_X7_all σ) (fun r45 => bv (f_X7_componentsOf (r45 &&& (l4 ^^^ (-1))) 1 σ) (fun r54 => bv (f_X7_bits l4 σ) (fun r59 => if r54 = (r59 + l1) then f_X7_proofNow_72 l1 l2 l3 l4 1 σ else f_X7_proofNow_71 l1 l2 l3 l4 σ)))))
noncomputable def f_X7_proofNow_25 (l1 : Int32) (l2 : Int32) (l3 : Int32) (l4 : Int32) (σ : WD) : Option (Int32) :=
  lp (fun s : Int32 × Int32 × Int32 => f_X7_proofNow_b25 l1 s.1 s.2.1 s.2.2 σ) (l2, l3, l4)
noncomputable def f_X7_proofNow  (σ : WD) : Option (Int32) :=
  bv (f_X7_all σ) (fun r10 => gi r10 4096 (li ((σ.1 29 1) - ((2 : Int32) * (σ.1 34 (r10 : Int32).toNatClampNeg))) (fun v16 => f_X7_proofNow_25 v16 (-1) 13 0 σ)))
noncomputable def f_X7_step_41 (l4 : Int32) (σ : WD) : Option (Int32) :=
  if (σ.1 29 1) ≤ l4 then some (-1) else some l4
noncomputable def f_X7_step_b3 (l1 : Int32) (l2 : Int32) (l4 : Int32) (σ : WD) : Option ((Int32) ⊕ (Int32)) :=
  if (σ.1 29 1) ≤ l4 then mr (f_X7_step_41 l4 σ) else gi l1 12 (bv (f_X7_has (σ.1 30 (l1 : Int32).toNatClampNeg) l4 σ) (fun r20 => if r20 = 0 then some (.inl (l4 + 1)) else bv (f_X7_has l2 l4 σ) (fun r29 => if r29 = 0 then mr (f_X7_step_41 l4 σ) else some (.inl (l4 + 1)))))
noncomputable def f_X7_step_3 (l1 : Int32) (l2 : Int32) (l4 : Int32) (σ : WD) : Option (Int32) :=
  lp (fun s : Int32 => f_X7_step_b3 l1 l2 s σ) l4
noncomputable def f_X7_step (a1 : Int32) (a2 : Int32) (a3 : Int32) (σ : WD) : Option (Int32) :=
  f_X7_step_3 a1 a2 a3 σ
noncomputable def f_X7_goThrough_170 (l2 : Int32) (l3 : Int32) (l4 : Int32) (l5 : Int32) (σ : WD) : Option ((Int32 × Int32 × WD) ⊕ (Int32 × WD)) :=
  gi l5 12 (if (σ.1 31 (l5 : Int32).toNatClampNeg) = (-1) then some (.inl (l3, l4, σ)) else gi l5 12 (gi (l3 + 2) 14 (lt (upi σ 37 ((l3 + 2) : Int32).toNatClampNeg (σ.1 31 (l5 : Int32).toNatClampNeg)) (fun σ195 => gi l5 12 (lt (upi σ195 29 14 ((σ195.1 29 14) ||| ((1 : Int32) <<< ((σ195.1 31 (l5 : Int32).toNatClampNeg) &&& 31)))) (fun σ211 => gi l5 12 (li (l4 ||| (((1 : Int32) <<< (l5 &&& 31)) ||| ((1 : Int32) <<< ((σ211.1 31 (l5 : Int32).toNatClampNeg) &&& 31)))) (fun v231 => gi (l3 + 2) 14 (lt (upi σ211 38 ((l3 + 2) : Int32).toNatClampNeg 0) (fun σ242 => some (.inl ((l3 + 2), v231, σ242))))))))))))
noncomputable def f_X7_goThrough_108 (l2 : Int32) (l3 : Int32) (s0 : Int32) (s1 : Int32) (σ : WD) : Option ((Int32 × Int32 × WD) ⊕ (Int32 × WD)) :=
  some (.inl ((l3 + (-2)), (s1 &&& s0), σ))
noncomputable def f_X7_goThrough_66 (l2 : Int32) (l3 : Int32) (l4 : Int32) (s0 : Int32) (σ : WD) : Option ((Int32 × Int32 × WD) ⊕ (Int32 × WD)) :=
  if s0 = (-1) then if l3 ≤ 0 then f_X7_goThrough_108 l2 l3 l4 l4 σ else gi l3 14 (gi (l3 - 1) 14 (f_X7_goThrough_108 l2 l3 ((((1 : Int32) <<< ((σ.1 37 (l3 : Int32).toNatClampNeg) &&& 31)) ^^^ (-1)) &&& (((1 : Int32) <<< ((σ.1 37 ((l3 - 1) : Int32).toNatClampNeg) &&& 31)) ^^^ (-1))) l4 σ)) else gi l3 14 (lt (upi σ 38 (l3 : Int32).toNatClampNeg (s0 + 1)) (fun σ126 => lt (upi σ126 29 13 ((σ126.1 29 13) ||| ((1 : Int32) <<< (s0 &&& 31)))) (fun σ137 => gi (l3 + 1) 14 (lt (upi σ137 37 ((l3 + 1) : Int32).toNatClampNeg s0) (fun σ149 => gi s0 12 (if (σ149.1 31 (s0 : Int32).toNatClampNeg) = (-1) then if (l3 + 1) = l2 then some (.inr (1, σ149)) else f_X7_goThrough_170 l2 l3 l4 s0 σ149 else f_X7_goThrough_170 l2 l3 l4 s0 σ149))))))
noncomputable def f_X7_goThrough_b33 (l2 : Int32) (l3 : Int32) (l4 : Int32) (σ : WD) : Option ((Int32 × Int32 × WD) ⊕ (Int32 × WD)) :=
  if l3 < 0 then some (.inr (0, σ)) else if l2 < (l3 + 1) then f_X7_goThrough_66 l2 l3 l4 (-1) σ else gi l3 14 (gi l3 14 (bv (f_X7_step (σ.1 37 (l3 : Int32).toNatClampNeg) l4 (σ.1 38 (l3 : Int32).toNatClampNeg) σ) (fun r59 => f_X7_goThrough_66 l2 l3 l4 r59 σ)))
noncomputable def f_X7_goThrough_33 (l2 : Int32) (l3 : Int32) (l4 : Int32) (σ : WD) : Option (Int32 × WD) :=
  lp (fun s : Int32 × Int32 × WD => f_X7_goThrough_b33 l2 s.1 s.2.1 s.2.2) (l3, l4, σ)
noncomputable def f_X7_goThrough (a1 : Int32) (a2 : Int32) (σ : WD) : Option (Int32 × WD) :=
  li ((1 : Int32) <<< (a1 &&& 31)) (fun v5 => gi 0 14 (lt (upi σ 37 (0 : Int32).toNatClampNeg a1) (fun σ13 => gi 0 14 (lt (upi σ13 38 (0 : Int32).toNatClampNeg 0) (fun σ20 => lt (upi σ20 29 13 0) (fun σ23 => lt (upi σ23 29 14 ((1 : Int32) <<< (a1 &&& 31))) (fun σ30 => f_X7_goThrough_33 a2 0 v5 σ30)))))))
noncomputable def f_X7_layWay_25 (l2 : Int32) (σ : WD) : Option (Int32 × WD) :=
  if (σ.1 29 1) ≤ l2 then some (0, σ) else some (l2, σ)
noncomputable def f_X7_layWay_b2 (l1 : Int32) (l2 : Int32) (σ : WD) : Option ((Int32 × WD) ⊕ (Int32 × WD)) :=
  if (σ.1 29 1) ≤ l2 then mr (f_X7_layWay_25 l2 σ) else bn (f_X7_goThrough l1 l2 σ) (fun r13 σ13 => if r13 = 0 then some (.inl ((l2 + 2), σ13)) else mr (f_X7_layWay_25 l2 σ13))
noncomputable def f_X7_layWay_2 (l1 : Int32) (l2 : Int32) (σ : WD) : Option (Int32 × WD) :=
  lp (fun s : Int32 × WD => f_X7_layWay_b2 l1 s.1 s.2) (l2, σ)
noncomputable def f_X7_layWay (a1 : Int32) (σ : WD) : Option (Int32 × WD) :=
  f_X7_layWay_2 a1 1 σ
noncomputable def f_X7_layReach (a1 : Int32) (σ : WD) : Option (WD) :=
  lt (upi σ 29 13 0) (fun σ2 => lt (upi σ2 29 14 0) (fun σ7 => gi a1 12 (if (σ7.1 31 (a1 : Int32).toNatClampNeg) = (-1) then bn (f_X7_goThrough a1 13 σ7) (fun r24 σ24 => some σ24) else some σ7)))
noncomputable def f_X7_augmentFrom_b8 (l2 : Int32) (l3 : Int32) (σ : WD) : Option ((Int32 × WD) ⊕ (Int32 × WD)) :=
  if l2 ≤ l3 then some (.inr (l2, σ)) else gi l3 14 (gi (l3 + 1) 14 (bv (f_X7_pair (σ.1 37 (l3 : Int32).toNatClampNeg) (σ.1 37 ((l3 + 1) : Int32).toNatClampNeg) σ) (fun σ28 => some (.inl ((l3 + 2), σ28)))))
noncomputable def f_X7_augmentFrom_8 (l2 : Int32) (l3 : Int32) (σ : WD) : Option (Int32 × WD) :=
  lp (fun s : Int32 × WD => f_X7_augmentFrom_b8 l2 s.1 s.2) (l3, σ)
noncomputable def f_X7_augmentFrom (a1 : Int32) (σ : WD) : Option (Int32 × WD) :=
  bn (f_X7_layWay a1 σ) (fun r2 σ2 => f_X7_augmentFrom_8 r2 0 σ2)
noncomputable def f_X7_begin_16 (l1 : Int32) (s0 : Int32) (σ : WD) : Option (Int32 × WD) :=
  lt (upi σ 29 0 s0) (fun σ16 => if (σ16.1 29 0) ≤ 0 then lt (upi σ16 29 1 l1) (fun σ35 => bv (f_X7_clearAll σ35) (fun σ39 => some ((σ16.1 29 1), σ39))) else some (0, σ16))
noncomputable def f_X7_begin (a1 : Int32) (σ : WD) : Option (Int32 × WD) :=
  bv (f_X7_within a1 2 12 σ) (fun r5 => if r5 = 0 then f_X7_begin_16 a1 1 σ else f_X7_begin_16 a1 0 σ)
noncomputable def f_X7_setEdge_90 (l4 : Int32) (σ : WD) : Option (Int32 × WD) :=
  if l4 = 0 then some (0, σ) else some (1, σ)
noncomputable def f_X7_setEdge_71 (l1 : Int32) (l2 : Int32) (l3 : Int32) (l4 : Int32) (σ : WD) : Option (Int32 × WD) :=
  if l3 = 0 then gi l1 12 (if (σ.1 31 (l1 : Int32).toNatClampNeg) = l2 then bv (f_X7_part l1 σ) (fun σ87 => f_X7_setEdge_90 l4 σ87) else f_X7_setEdge_90 l4 σ) else f_X7_setEdge_90 l4 σ
noncomputable def f_X7_setEdge_31 (l1 : Int32) (l2 : Int32) (l3 : Int32) (s0 : Int32) (σ : WD) : Option (Int32 × WD) :=
  lt (upi σ 29 0 s0) (fun σ31 => if (σ31.1 29 0) ≤ 0 then bv (f_X7_keep σ31) (fun σ44 => gi l1 12 (bv (f_X7_has (σ44.1 30 (l1 : Int32).toNatClampNeg) l2 σ44) (fun r54 => if r54 = l3 then f_X7_setEdge_71 l1 l2 l3 r54 σ44 else bv (f_X7_flip l1 l2 σ44) (fun σ68 => f_X7_setEdge_71 l1 l2 l3 r54 σ68)))) else some (0, σ31))
noncomputable def f_X7_setEdge_17 (l1 : Int32) (l2 : Int32) (l3 : Int32) (σ : WD) : Option (Int32 × WD) :=
  f_X7_setEdge_31 l1 l2 l3 1 σ
noncomputable def f_X7_setEdge (a1 : Int32) (a2 : Int32) (a3 : Int32) (σ : WD) : Option (Int32 × WD) :=
  bv (f_X7_isNode a1 σ) (fun r3 => if r3 = 0 then f_X7_setEdge_17 a1 a2 a3 σ else bv (f_X7_isNode a2 σ) (fun r11 => if r11 = 0 then f_X7_setEdge_17 a1 a2 a3 σ else if a1 = a2 then f_X7_setEdge_31 a1 a2 a3 2 σ else f_X7_setEdge_31 a1 a2 a3 0 σ))
noncomputable def f_X7_append_30 (l1 : Int32) (s0 : Int32) (σ : WD) : Option (Int32 × WD) :=
  lt (upi σ 29 0 s0) (fun σ30 => if (σ30.1 29 0) ≤ 0 then gi (σ30.1 29 6) 60 (lt (upi σ30 33 ((σ30.1 29 6) : Int32).toNatClampNeg l1) (fun σ51 => lt (upi σ51 29 6 ((σ51.1 29 6) + 1)) (fun σ59 => some ((σ59.1 29 6), σ59)))) else some (0, σ30))
noncomputable def f_X7_append (a1 : Int32) (σ : WD) : Option (Int32 × WD) :=
  bv (f_X7_within a1 32 126 σ) (fun r6 => if r6 = 0 then f_X7_append_30 a1 1 σ else if (σ.1 29 6) = 60 then f_X7_append_30 a1 2 σ else f_X7_append_30 a1 0 σ)
noncomputable def f_X7_clearInput  (σ : WD) : Option (Int32 × WD) :=
  lt (upi σ 29 0 0) (fun σ2 => lt (upi σ2 29 6 0) (fun σ12 => some ((σ2.1 29 6), σ12)))
noncomputable def f_X7_takes_244 (l3 : Int32) (s0 : Int32) (σ : WD) : Option (Int32 × WD) :=
  lt (upi σ 29 15 s0) (fun σ244 => gb l3 (some (l3, σ244)))
noncomputable def f_X7_takes_230 (l3 : Int32) (s0 : Int32) (s1 : Int32) (σ : WD) : Option (Int32 × WD) :=
  gi s1 90 (lt (upi σ 39 (s1 : Int32).toNatClampNeg s0) (fun σ230 => if l3 = 0 then f_X7_takes_244 l3 (σ230.1 29 15) σ230 else f_X7_takes_244 l3 3 σ230))
noncomputable def f_X7_takes_196 (s0 : Int32) (σ : WD) : Option (Int32 × WD) :=
  if s0 = 0 then gi (((3 : Int32) * (σ.1 29 16)) + 2) 90 (f_X7_takes_230 s0 (σ.1 39 ((((3 : Int32) * (σ.1 29 16)) + 2) : Int32).toNatClampNeg) (((3 : Int32) * (σ.1 29 16)) + 2) σ) else f_X7_takes_230 s0 1 (((3 : Int32) * (σ.1 29 16)) + 2) σ
noncomputable def f_X7_takes_195  (σ : WD) : Option (Int32 × WD) :=
  f_X7_takes_196 0 σ
noncomputable def f_X7_takes_160 (s0 : Int32) (σ : WD) : Option (Int32 × WD) :=
  lt (upi σ 29 15 s0) (fun σ160 => if (σ160.1 29 15) = 2 then some (1, σ160) else some (0, σ160))
noncomputable def f_X7_takes_89 (s0 : Int32) (σ : WD) : Option (Int32 × WD) :=
  lt (upi σ 29 15 s0) (fun σ89 => if (σ89.1 29 15) = 1 then some (1, σ89) else some (0, σ89))
noncomputable def f_X7_takes_36 (l1 : Int32) (l2 : Int32) (σ : WD) : Option (Int32 × WD) :=
  if (σ.1 29 15) = 0 then gi ((3 : Int32) * (σ.1 29 16)) 90 (lt (upi σ 39 (((3 : Int32) * (σ.1 29 16)) : Int32).toNatClampNeg l2) (fun σ54 => gi (((3 : Int32) * (σ54.1 29 16)) + 2) 90 (lt (upi σ54 39 ((((3 : Int32) * (σ54.1 29 16)) + 2) : Int32).toNatClampNeg 0) (fun σ68 => bv (f_X7_within l2 0 ((σ68.1 29 1) - 2) σ68) (fun r78 => if r78 = 0 then f_X7_takes_89 0 σ68 else f_X7_takes_89 1 σ68))))) else if (σ.1 29 15) = 1 then gi (((3 : Int32) * (σ.1 29 16)) + 1) 90 (lt (upi σ 39 ((((3 : Int32) * (σ.1 29 16)) + 1) : Int32).toNatClampNeg l2) (fun σ127 => gi ((3 : Int32) * (σ127.1 29 16)) 90 (bv (f_X7_within l2 ((σ127.1 39 (((3 : Int32) * (σ127.1 29 16)) : Int32).toNatClampNeg) + 1) ((σ127.1 29 1) - 1) σ127) (fun r149 => if r149 = 0 then f_X7_takes_160 1 σ127 else f_X7_takes_160 2 σ127)))) else if (σ.1 29 15) = 2 then if l1 = 33 then f_X7_takes_196 1 σ else f_X7_takes_195  σ else f_X7_takes_195  σ
noncomputable def f_X7_takes (a1 : Int32) (σ : WD) : Option (Int32 × WD) :=
  if a1 = 44 then if (σ.1 29 15) ≤ 1 then f_X7_takes_36 a1 (a1 - 97) σ else lt (upi σ 29 16 ((σ.1 29 16) + 1)) (fun σ26 => lt (upi σ26 29 15 0) (fun σ31 => some (1, σ31))) else f_X7_takes_36 a1 (a1 - 97) σ
noncomputable def f_X7_rightLength_b12 (l1 : Int32) (σ : WD) : Option ((Int32 × WD) ⊕ (Int32 × WD)) :=
  if (σ.1 29 6) ≤ l1 then some (.inr (l1, σ)) else gi l1 60 (bn (f_X7_takes (σ.1 33 (l1 : Int32).toNatClampNeg) σ) (fun r27 σ27 => if r27 = 0 then some (.inr (l1, σ27)) else some (.inl ((l1 + 1), σ27))))
noncomputable def f_X7_rightLength_12 (l1 : Int32) (σ : WD) : Option (Int32 × WD) :=
  lp (fun s : Int32 × WD => f_X7_rightLength_b12 s.1 s.2) (l1, σ)
noncomputable def f_X7_rightLength  (σ : WD) : Option (Int32 × WD) :=
  lt (upi σ 29 15 0) (fun σ2 => lt (upi σ2 29 16 0) (fun σ7 => f_X7_rightLength_12 0 σ7))
noncomputable def f_X7_firstError  (σ : WD) : Option (Int32 × WD) :=
  lt (upi σ 29 0 0) (fun σ2 => bn (f_X7_rightLength σ2) (fun r6 σ6 => some (r6, σ6)))
noncomputable def f_X7_load_146 (l1 : Int32) (σ : WD) : Option (Int32 × WD) :=
  lt (upi σ 29 6 0) (fun σ148 => some (l1, σ148))
noncomputable def f_X7_load_98 (l1 : Int32) (l2 : Int32) (l3 : Int32) (l4 : Int32) (σ : WD) : Option ((Int32 × Int32 × WD) ⊕ (Int32 × WD)) :=
  gi (((3 : Int32) * l2) + 2) 90 (if (σ.1 39 ((((3 : Int32) * l2) + 2) : Int32).toNatClampNeg) = 1 then gi l3 12 (if (σ.1 31 (l3 : Int32).toNatClampNeg) = (-1) then gi l4 12 (if (σ.1 31 (l4 : Int32).toNatClampNeg) = (-1) then bv (f_X7_pair l3 l4 σ) (fun σ137 => some (.inl (l1, (l2 + 1), σ137))) else some (.inl (l1, (l2 + 1), σ))) else some (.inl (l1, (l2 + 1), σ))) else some (.inl (l1, (l2 + 1), σ)))
noncomputable def f_X7_load_b45 (l1 : Int32) (l2 : Int32) (σ : WD) : Option ((Int32 × Int32 × WD) ⊕ (Int32 × WD)) :=
  if (σ.1 29 16) < l2 then mr (f_X7_load_146 l1 σ) else gi ((3 : Int32) * l2) 90 (li (σ.1 39 (((3 : Int32) * l2) : Int32).toNatClampNeg) (fun v61 => gi (((3 : Int32) * l2) + 1) 90 (li (σ.1 39 ((((3 : Int32) * l2) + 1) : Int32).toNatClampNeg) (fun v72 => gi v61 12 (bv (f_X7_has (σ.1 30 (v61 : Int32).toNatClampNeg) v72 σ) (fun r82 => if r82 = 0 then bv (f_X7_flip v61 v72 σ) (fun σ92 => f_X7_load_98 (l1 + 1) l2 v61 v72 σ92) else f_X7_load_98 l1 l2 v61 v72 σ))))))
noncomputable def f_X7_load_45 (l1 : Int32) (l2 : Int32) (σ : WD) : Option (Int32 × WD) :=
  lp (fun s : Int32 × Int32 × WD => f_X7_load_b45 s.1 s.2.1 s.2.2) (l1, l2, σ)
noncomputable def f_X7_load_25 (s0 : Int32) (σ : WD) : Option (Int32 × WD) :=
  lt (upi σ 29 0 s0) (fun σ25 => if (σ25.1 29 0) ≤ 0 then bv (f_X7_keep σ25) (fun σ38 => f_X7_load_45 0 0 σ38) else some (0, σ25))
noncomputable def f_X7_load_24  (σ : WD) : Option (Int32 × WD) :=
  f_X7_load_25 1 σ
noncomputable def f_X7_load  (σ : WD) : Option (Int32 × WD) :=
  bn (f_X7_rightLength σ) (fun r2 σ2 => if r2 = (σ2.1 29 6) then if (σ2.1 29 15) ≤ 1 then f_X7_load_24  σ2 else f_X7_load_25 0 σ2 else f_X7_load_24  σ2)
noncomputable def f_X7_size_b4 (l1 : Int32) (l2 : Int32) (σ : WD) : Option ((Int32 × Int32) ⊕ (Int32)) :=
  if (σ.1 29 1) ≤ l2 then some (.inr l1) else gi l2 12 (if (σ.1 31 (l2 : Int32).toNatClampNeg) ≤ l2 then some (.inl ((l1 + 0), (l2 + 1))) else some (.inl ((l1 + 1), (l2 + 1))))
noncomputable def f_X7_size_4 (l1 : Int32) (l2 : Int32) (σ : WD) : Option (Int32) :=
  lp (fun s : Int32 × Int32 => f_X7_size_b4 s.1 s.2 σ) (l1, l2)
noncomputable def f_X7_size  (σ : WD) : Option (Int32) :=
  f_X7_size_4 0 0 σ
noncomputable def f_X7_match_69 (l1 : Int32) (l2 : Int32) (s0 : Int32) (σ : WD) : Option (Int32 × WD) :=
  lt (upi σ 29 0 s0) (fun σ69 => if (σ69.1 29 0) ≤ 0 then bv (f_X7_keep σ69) (fun σ82 => bv (f_X7_pair l1 l2 σ82) (fun σ88 => bv (f_X7_size σ88) (fun r92 => some (r92, σ88)))) else some (0, σ69))
noncomputable def f_X7_match_64 (l1 : Int32) (l2 : Int32) (σ : WD) : Option (Int32 × WD) :=
  f_X7_match_69 l1 l2 2 σ
noncomputable def f_X7_match_21 (l1 : Int32) (l2 : Int32) (s0 : Int32) (σ : WD) : Option (Int32 × WD) :=
  if s0 = 0 then f_X7_match_69 l1 l2 1 σ else gi l1 12 (bv (f_X7_has (σ.1 30 (l1 : Int32).toNatClampNeg) l2 σ) (fun r38 => if r38 = 0 then f_X7_match_64 l1 l2 σ else gi l1 12 (if (σ.1 31 (l1 : Int32).toNatClampNeg) = (-1) then gi l2 12 (if (σ.1 31 (l2 : Int32).toNatClampNeg) = (-1) then f_X7_match_69 l1 l2 0 σ else f_X7_match_64 l1 l2 σ) else f_X7_match_64 l1 l2 σ)))
noncomputable def f_X7_match_20 (l1 : Int32) (l2 : Int32) (σ : WD) : Option (Int32 × WD) :=
  f_X7_match_21 l1 l2 0 σ
noncomputable def f_X7_match (a1 : Int32) (a2 : Int32) (σ : WD) : Option (Int32 × WD) :=
  bv (f_X7_isNode a1 σ) (fun r2 => if r2 = 0 then f_X7_match_20 a1 a2 σ else bv (f_X7_isNode a2 σ) (fun r10 => if r10 = 0 then f_X7_match_20 a1 a2 σ else f_X7_match_21 a1 a2 1 σ))
noncomputable def f_X7_unmatch_28 (l1 : Int32) (s0 : Int32) (σ : WD) : Option (Int32 × WD) :=
  lt (upi σ 29 0 s0) (fun σ28 => if (σ28.1 29 0) ≤ 0 then bv (f_X7_keep σ28) (fun σ41 => gi l1 12 (li (σ41.1 31 (l1 : Int32).toNatClampNeg) (fun v50 => bv (f_X7_part l1 σ41) (fun σ53 => some (v50, σ53))))) else some (0, σ28))
noncomputable def f_X7_unmatch (a1 : Int32) (σ : WD) : Option (Int32 × WD) :=
  bv (f_X7_isNode a1 σ) (fun r3 => if r3 = 0 then f_X7_unmatch_28 a1 1 σ else gi a1 12 (if (σ.1 31 (a1 : Int32).toNatClampNeg) = (-1) then f_X7_unmatch_28 a1 2 σ else f_X7_unmatch_28 a1 0 σ))
noncomputable def f_X7_exposedFault (a1 : Int32) (σ : WD) : Option (Int32) :=
  bv (f_X7_isNode a1 σ) (fun r2 => if r2 = 0 then some 1 else gi a1 12 (if (σ.1 31 (a1 : Int32).toNatClampNeg) = (-1) then some 0 else some 2))
noncomputable def f_X7_augment (a1 : Int32) (σ : WD) : Option (Int32 × WD) :=
  bv (f_X7_exposedFault a1 σ) (fun r3 => lt (upi σ 29 0 r3) (fun σ6 => if (σ6.1 29 0) ≤ 0 then bv (f_X7_keep σ6) (fun σ19 => bn (f_X7_augmentFrom a1 σ19) (fun r24 σ24 => some (r24, σ24))) else some (0, σ6)))
noncomputable def f_X7_lowestWithWay_b2 (l1 : Int32) (σ : WD) : Option ((Int32 × WD) ⊕ (Int32 × WD)) :=
  if (σ.1 29 1) ≤ l1 then some (.inr (l1, σ)) else gi l1 12 (if (σ.1 31 (l1 : Int32).toNatClampNeg) = (-1) then bn (f_X7_layWay l1 σ) (fun r22 σ22 => if r22 = 0 then some (.inl ((l1 + 1), σ22)) else some (.inr (l1, σ22))) else some (.inl ((l1 + 1), σ)))
noncomputable def f_X7_lowestWithWay_2 (l1 : Int32) (σ : WD) : Option (Int32 × WD) :=
  lp (fun s : Int32 × WD => f_X7_lowestWithWay_b2 s.1 s.2) (l1, σ)
noncomputable def f_X7_lowestWithWay  (σ : WD) : Option (Int32 × WD) :=
  f_X7_lowestWithWay_2 0 σ
noncomputable def f_X7_maximize_b16 (l1 : Int32) (l2 : Int32) (σ : WD) : Option ((Int32 × Int32 × WD) ⊕ (Int32 × WD)) :=
  if (σ.1 29 1) ≤ l2 then some (.inr (l1, σ)) else bn (f_X7_augmentFrom l2 σ) (fun r26 σ26 => bn (f_X7_lowestWithWay σ26) (fun r34 σ34 => some (.inl ((l1 + 1), r34, σ34))))
noncomputable def f_X7_maximize_16 (l1 : Int32) (l2 : Int32) (σ : WD) : Option (Int32 × WD) :=
  lp (fun s : Int32 × Int32 × WD => f_X7_maximize_b16 s.1 s.2.1 s.2.2) (l1, l2, σ)
noncomputable def f_X7_maximize  (σ : WD) : Option (Int32 × WD) :=
  lt (upi σ 29 0 0) (fun σ2 => bv (f_X7_keep σ2) (fun σ6 => bn (f_X7_lowestWithWay σ6) (fun r12 σ12 => f_X7_maximize_16 0 r12 σ12)))
noncomputable def f_X7_takeFirst_b70 (l1 : Int32) (l2 : Int32) (σ : WD) : Option ((Int32 × WD) ⊕ (Int32 × WD)) :=
  if (σ.1 29 1) ≤ l2 then some (.inr (l1, σ)) else gi l2 12 (gi l2 12 (lt (upi σ 31 (l2 : Int32).toNatClampNeg (σ.1 36 (l2 : Int32).toNatClampNeg)) (fun σ89 => some (.inl ((l2 + 1), σ89)))))
noncomputable def f_X7_takeFirst_70 (l1 : Int32) (l2 : Int32) (σ : WD) : Option (Int32 × WD) :=
  lp (fun s : Int32 × WD => f_X7_takeFirst_b70 l1 s.1 s.2) (l2, σ)
noncomputable def f_X7_takeFirst_b21 (l1 : Int32) (l2 : Int32) (σ : WD) : Option ((Int32 × Int32) ⊕ (Int32 × WD)) :=
  if (σ.1 29 1) ≤ l2 then mr (f_X7_takeFirst_70 l1 0 σ) else gi l2 12 (if (σ.1 36 (l2 : Int32).toNatClampNeg) ≤ l2 then some (.inl ((l1 + 0), (l2 + 1))) else gi l2 12 (gi l2 12 (if (σ.1 31 (l2 : Int32).toNatClampNeg) = (σ.1 36 (l2 : Int32).toNatClampNeg) then some (.inl ((l1 + 0), (l2 + 1))) else some (.inl ((l1 + 1), (l2 + 1))))))
noncomputable def f_X7_takeFirst_21 (l1 : Int32) (l2 : Int32) (σ : WD) : Option (Int32 × WD) :=
  lp (fun s : Int32 × Int32 => f_X7_takeFirst_b21 s.1 s.2 σ) (l1, l2)
noncomputable def f_X7_takeFirst  (σ : WD) : Option (Int32 × WD) :=
  lt (upi σ 29 0 0) (fun σ2 => bv (f_X7_keep σ2) (fun σ6 => bv (f_X7_laySets σ6) (fun σ10 => bv (f_X7_layFirst σ10) (fun σ14 => f_X7_takeFirst_21 0 0 σ14))))
noncomputable def f_X7_undo_92  (σ : WD) : Option (Int32 × WD) :=
  some ((σ.1 29 4), σ)
noncomputable def f_X7_undo_b37 (l1 : Int32) (σ : WD) : Option ((Int32 × WD) ⊕ (Int32 × WD)) :=
  if 12 ≤ l1 then mr (f_X7_undo_92  σ) else gi (((24 : Int32) * (σ.1 29 4)) + l1) 96 (gi l1 12 (lt (upi σ 30 (l1 : Int32).toNatClampNeg (σ.1 32 ((((24 : Int32) * (σ.1 29 4)) + l1) : Int32).toNatClampNeg)) (fun σ62 => gi ((((24 : Int32) * (σ62.1 29 4)) + 12) + l1) 96 (gi l1 12 (lt (upi σ62 31 (l1 : Int32).toNatClampNeg (σ62.1 32 (((((24 : Int32) * (σ62.1 29 4)) + 12) + l1) : Int32).toNatClampNeg)) (fun σ85 => some (.inl ((l1 + 1), σ85))))))))
noncomputable def f_X7_undo_37 (l1 : Int32) (σ : WD) : Option (Int32 × WD) :=
  lp (fun s : Int32 × WD => f_X7_undo_b37 s.1 s.2) (l1, σ)
noncomputable def f_X7_undo_13 (s0 : Int32) (σ : WD) : Option (Int32 × WD) :=
  lt (upi σ 29 0 s0) (fun σ13 => if (σ13.1 29 0) ≤ 0 then lt (upi σ13 29 4 ((σ13.1 29 4) - 1)) (fun σ32 => f_X7_undo_37 0 σ32) else some (0, σ13))
noncomputable def f_X7_undo  (σ : WD) : Option (Int32 × WD) :=
  if (σ.1 29 4) ≤ 0 then f_X7_undo_13 1 σ else f_X7_undo_13 0 σ
noncomputable def f_X7_way (a1 : Int32) (σ : WD) : Option (Int32 × WD) :=
  bv (f_X7_exposedFault a1 σ) (fun r3 => lt (upi σ 29 0 r3) (fun σ6 => if (σ6.1 29 0) ≤ 0 then bn (f_X7_layWay a1 σ6) (fun r22 σ22 => some (r22, σ22)) else some (0, σ6)))
noncomputable def f_X7_wayNode (a1 : Int32) (a2 : Int32) (σ : WD) : Option (Int32 × WD) :=
  bv (f_X7_exposedFault a1 σ) (fun r3 => lt (upi σ 29 0 r3) (fun σ6 => if (σ6.1 29 0) ≤ 0 then bn (f_X7_layWay a1 σ6) (fun r20 σ20 => if r20 ≤ 0 then some ((-1), σ20) else bv (f_X7_within a2 0 r20 σ20) (fun r31 => if r31 = 0 then some ((-1), σ20) else gi a2 14 (some ((σ20.1 37 (a2 : Int32).toNatClampNeg), σ20)))) else some (0, σ6)))
noncomputable def f_X7_reach_14 (l1 : Int32) (l2 : Int32) (s0 : Int32) (σ : WD) : Option (Int32 × WD) :=
  lt (upi σ 29 0 s0) (fun σ14 => if (σ14.1 29 0) ≤ 0 then bv (f_X7_layReach l1 σ14) (fun σ28 => if l2 = 0 then some ((σ28.1 29 13), σ28) else some ((σ28.1 29 14), σ28)) else some (0, σ14))
noncomputable def f_X7_reach (a1 : Int32) (a2 : Int32) (σ : WD) : Option (Int32 × WD) :=
  bv (f_X7_isNode a1 σ) (fun r3 => if r3 = 0 then f_X7_reach_14 a1 a2 1 σ else f_X7_reach_14 a1 a2 0 σ)
noncomputable def f_X7_oddWalk_113 (l1 : Int32) (l2 : Int32) (l4 : Int32) (s0 : Int32) (s1 : Int32) (σ : WD) : Option ((Int32 × Int32 × Int32) ⊕ (Int32)) :=
  bv (f_X7_has (s1 ||| s0) l1 σ) (fun r117 => if r117 = 0 then some (.inl (l2, (s1 ||| s0), (l4 + 1))) else some (.inr l4))
noncomputable def f_X7_oddWalk_96 (l1 : Int32) (l3 : Int32) (l4 : Int32) (l6 : Int32) (s0 : Int32) (s1 : Int32) (σ : WD) : Option ((Int32 × Int32 × Int32) ⊕ (Int32)) :=
  gz 2 (if (l4 - l4 / 2 * 2) = 1 then f_X7_oddWalk_113 l1 (s1 ||| s0) l4 l6 l3 σ else f_X7_oddWalk_113 l1 (s1 ||| s0) l4 0 l3 σ)
noncomputable def f_X7_oddWalk_82 (l1 : Int32) (l2 : Int32) (l3 : Int32) (l4 : Int32) (l6 : Int32) (σ : WD) : Option ((Int32 × Int32 × Int32) ⊕ (Int32)) :=
  gz 2 (if (l4 - l4 / 2 * 2) = 0 then f_X7_oddWalk_96 l1 l3 l4 l6 l6 l2 σ else f_X7_oddWalk_96 l1 l3 l4 l6 0 l2 σ)
noncomputable def f_X7_oddWalk_73 (l1 : Int32) (l2 : Int32) (l3 : Int32) (l4 : Int32) (l5 : Int32) (l7 : Int32) (s0 : Int32) (s1 : Int32) (σ : WD) : Option ((Int32 × Int32) ⊕ ((Int32 × Int32 × Int32) ⊕ (Int32))) :=
  some (.inl ((s1 ||| s0), (l7 + 1)))
noncomputable def f_X7_oddWalk_b41 (l1 : Int32) (l2 : Int32) (l3 : Int32) (l4 : Int32) (l5 : Int32) (l6 : Int32) (l7 : Int32) (σ : WD) : Option ((Int32 × Int32) ⊕ ((Int32 × Int32 × Int32) ⊕ (Int32))) :=
  if (σ.1 29 1) ≤ l7 then mr (f_X7_oddWalk_82 l1 l2 l3 l4 l6 σ) else bv (f_X7_has l5 l7 σ) (fun r56 => if r56 = 0 then f_X7_oddWalk_73 l1 l2 l3 l4 l5 l7 0 l6 σ else gi l7 12 (f_X7_oddWalk_73 l1 l2 l3 l4 l5 l7 (σ.1 30 (l7 : Int32).toNatClampNeg) l6 σ))
noncomputable def f_X7_oddWalk_41 (l1 : Int32) (l2 : Int32) (l3 : Int32) (l4 : Int32) (l5 : Int32) (l6 : Int32) (l7 : Int32) (σ : WD) : Option ((Int32 × Int32 × Int32) ⊕ (Int32)) :=
  lp (fun s : Int32 × Int32 => f_X7_oddWalk_b41 l1 l2 l3 l4 l5 s.1 s.2 σ) (l6, l7)
noncomputable def f_X7_oddWalk_b9 (l1 : Int32) (l2 : Int32) (l3 : Int32) (l4 : Int32) (σ : WD) : Option ((Int32 × Int32 × Int32) ⊕ (Int32)) :=
  if ((2 : Int32) * (σ.1 29 1)) < l4 then some (.inr (-1)) else gz 2 (if (l4 - l4 / 2 * 2) = 1 then f_X7_oddWalk_41 l1 l2 l3 l4 l2 0 0 σ else f_X7_oddWalk_41 l1 l2 l3 l4 l3 0 0 σ)
noncomputable def f_X7_oddWalk_9 (l1 : Int32) (l2 : Int32) (l3 : Int32) (l4 : Int32) (σ : WD) : Option (Int32) :=
  lp (fun s : Int32 × Int32 × Int32 => f_X7_oddWalk_b9 l1 s.1 s.2.1 s.2.2 σ) (l2, l3, l4)
noncomputable def f_X7_oddWalk (a1 : Int32) (σ : WD) : Option (Int32) :=
  li ((1 : Int32) <<< (a1 &&& 31)) (fun v3 => f_X7_oddWalk_9 a1 v3 0 1 σ)
noncomputable def f_X7_oddCycleNow_b4 (l1 : Int32) (l2 : Int32) (σ : WD) : Option ((Int32 × Int32) ⊕ (Int32)) :=
  if (σ.1 29 1) ≤ l2 then some (.inr l1) else bv (f_X7_oddWalk l2 σ) (fun r14 => if r14 = (-1) then some (.inl (l1, (l2 + 1))) else if l1 = (-1) then some (.inl (r14, (l2 + 1))) else if l1 ≤ r14 then some (.inl (l1, (l2 + 1))) else some (.inl (r14, (l2 + 1))))
noncomputable def f_X7_oddCycleNow_4 (l1 : Int32) (l2 : Int32) (σ : WD) : Option (Int32) :=
  lp (fun s : Int32 × Int32 => f_X7_oddCycleNow_b4 s.1 s.2 σ) (l1, l2)
noncomputable def f_X7_oddCycleNow  (σ : WD) : Option (Int32) :=
  f_X7_oddCycleNow_4 (-1) 0 σ
noncomputable def f_X7_oddCycle  (σ : WD) : Option (Int32 × WD) :=
  lt (upi σ 29 0 0) (fun σ2 => bv (f_X7_oddCycleNow σ2) (fun r6 => some (r6, σ2)))
noncomputable def f_X7_firstMate_14 (l1 : Int32) (s0 : Int32) (σ : WD) : Option (Int32 × WD) :=
  lt (upi σ 29 0 s0) (fun σ14 => if (σ14.1 29 0) ≤ 0 then bv (f_X7_laySets σ14) (fun σ27 => bv (f_X7_layFirst σ27) (fun σ31 => gi l1 12 (some ((σ31.1 36 (l1 : Int32).toNatClampNeg), σ31)))) else some (0, σ14))
noncomputable def f_X7_firstMate (a1 : Int32) (σ : WD) : Option (Int32 × WD) :=
  bv (f_X7_isNode a1 σ) (fun r3 => if r3 = 0 then f_X7_firstMate_14 a1 1 σ else f_X7_firstMate_14 a1 0 σ)
noncomputable def f_X7_proof  (σ : WD) : Option (Int32 × WD) :=
  lt (upi σ 29 0 0) (fun σ2 => bv (f_X7_laySets σ2) (fun σ6 => bv (f_X7_proofNow σ6) (fun r10 => some (r10, σ6))))
noncomputable def f_X7_components_18 (l1 : Int32) (l2 : Int32) (s0 : Int32) (σ : WD) : Option (Int32 × WD) :=
  lt (upi σ 29 0 s0) (fun σ18 => if (σ18.1 29 0) ≤ 0 then bv (f_X7_all σ18) (fun r34 => bv (f_X7_componentsOf (r34 &&& (l1 ^^^ (-1))) l2 σ18) (fun r42 => some (r42, σ18))) else some (0, σ18))
noncomputable def f_X7_components (a1 : Int32) (a2 : Int32) (σ : WD) : Option (Int32 × WD) :=
  bv (f_X7_all σ) (fun r4 => bv (f_X7_within a1 0 r4 σ) (fun r7 => if r7 = 0 then f_X7_components_18 a1 a2 1 σ else f_X7_components_18 a1 a2 0 σ))
noncomputable def f_X7_ifChanged_31 (l1 : Int32) (l2 : Int32) (s0 : Int32) (σ : WD) : Option (Int32 × WD) :=
  lt (upi σ 29 0 s0) (fun σ31 => if (σ31.1 29 0) ≤ 0 then bv (f_X7_flip l1 l2 σ31) (fun σ46 => bv (f_X7_laySets σ46) (fun σ50 => bv (f_X7_flip l1 l2 σ50) (fun σ56 => bv (f_X7_all σ56) (fun r64 => gi r64 4096 (some ((σ56.1 34 (r64 : Int32).toNatClampNeg), σ56)))))) else some (0, σ31))
noncomputable def f_X7_ifChanged_17 (l1 : Int32) (l2 : Int32) (σ : WD) : Option (Int32 × WD) :=
  f_X7_ifChanged_31 l1 l2 1 σ
noncomputable def f_X7_ifChanged (a1 : Int32) (a2 : Int32) (σ : WD) : Option (Int32 × WD) :=
  bv (f_X7_isNode a1 σ) (fun r3 => if r3 = 0 then f_X7_ifChanged_17 a1 a2 σ else bv (f_X7_isNode a2 σ) (fun r11 => if r11 = 0 then f_X7_ifChanged_17 a1 a2 σ else if a1 = a2 then f_X7_ifChanged_31 a1 a2 2 σ else f_X7_ifChanged_31 a1 a2 0 σ))
noncomputable def f_X7_nodeNow (a1 : Int32) (a2 : Int32) (σ : WD) : Option (Int32) :=
  if a2 = 0 then gi a1 12 (bv (f_X7_bits (σ.1 30 (a1 : Int32).toNatClampNeg) σ) (fun r38 => some r38)) else if a2 = 1 then gi a1 12 (some (σ.1 31 (a1 : Int32).toNatClampNeg)) else if a2 = 2 then bv (f_X7_partOf a1 σ) (fun r51 => some r51) else if a2 = 3 then bv (f_X7_exposing a1 σ) (fun r57 => some r57) else bv (f_X7_lowest a1 σ) (fun r63 => some r63)
noncomputable def f_X7_node_27 (l1 : Int32) (l2 : Int32) (s0 : Int32) (σ : WD) : Option (Int32 × WD) :=
  lt (upi σ 29 0 s0) (fun σ27 => if (σ27.1 29 0) ≤ 0 then bv (f_X7_laySets σ27) (fun σ40 => bv (f_X7_nodeNow l1 l2 σ40) (fun r46 => some (r46, σ40))) else some (0, σ27))
noncomputable def f_X7_node (a1 : Int32) (a2 : Int32) (σ : WD) : Option (Int32 × WD) :=
  bv (f_X7_isNode a1 σ) (fun r3 => if r3 = 0 then f_X7_node_27 a1 a2 1 σ else bv (f_X7_within a2 0 4 σ) (fun r16 => if r16 = 0 then f_X7_node_27 a1 a2 2 σ else f_X7_node_27 a1 a2 0 σ))
noncomputable def f_X7_edgeNow_23 (l1 : Int32) (l2 : Int32) (l3 : Int32) (s0 : Int32) (σ : WD) : Option (Int32) :=
  if l3 = 0 then some s0 else if l3 = 1 then if s0 = 1 then gi l1 12 (if (σ.1 31 (l1 : Int32).toNatClampNeg) = l2 then some 1 else some 0) else some 0 else bv (f_X7_using l1 l2 σ) (fun r66 => some r66)
noncomputable def f_X7_edgeNow_22 (l1 : Int32) (l2 : Int32) (l3 : Int32) (σ : WD) : Option (Int32) :=
  f_X7_edgeNow_23 l1 l2 l3 0 σ
noncomputable def f_X7_edgeNow (a1 : Int32) (a2 : Int32) (a3 : Int32) (σ : WD) : Option (Int32) :=
  if a1 = a2 then f_X7_edgeNow_22 a1 a2 a3 σ else gi a1 12 (bv (f_X7_has (σ.1 30 (a1 : Int32).toNatClampNeg) a2 σ) (fun r12 => if r12 = 0 then f_X7_edgeNow_22 a1 a2 a3 σ else f_X7_edgeNow_23 a1 a2 a3 1 σ))
noncomputable def f_X7_edge_35 (l1 : Int32) (l2 : Int32) (l3 : Int32) (s0 : Int32) (σ : WD) : Option (Int32 × WD) :=
  lt (upi σ 29 0 s0) (fun σ35 => if (σ35.1 29 0) ≤ 0 then bv (f_X7_laySets σ35) (fun σ48 => bv (f_X7_edgeNow l1 l2 l3 σ48) (fun r55 => some (r55, σ48))) else some (0, σ35))
noncomputable def f_X7_edge_17 (l1 : Int32) (l2 : Int32) (l3 : Int32) (σ : WD) : Option (Int32 × WD) :=
  f_X7_edge_35 l1 l2 l3 1 σ
noncomputable def f_X7_edge (a1 : Int32) (a2 : Int32) (a3 : Int32) (σ : WD) : Option (Int32 × WD) :=
  bv (f_X7_isNode a1 σ) (fun r3 => if r3 = 0 then f_X7_edge_17 a1 a2 a3 σ else bv (f_X7_isNode a2 σ) (fun r11 => if r11 = 0 then f_X7_edge_17 a1 a2 a3 σ else bv (f_X7_within a3 0 2 σ) (fun r24 => if r24 = 0 then f_X7_edge_35 a1 a2 a3 2 σ else f_X7_edge_35 a1 a2 a3 0 σ)))
noncomputable def f_X7_edgeCount_30 (l1 : Int32) (σ : WD) : Option (Int32) :=
  gz 2 (some (l1 / 2))
noncomputable def f_X7_edgeCount_b4 (l1 : Int32) (l2 : Int32) (σ : WD) : Option ((Int32 × Int32) ⊕ (Int32)) :=
  if (σ.1 29 1) ≤ l2 then mr (f_X7_edgeCount_30 l1 σ) else gi l2 12 (bv (f_X7_bits (σ.1 30 (l2 : Int32).toNatClampNeg) σ) (fun r19 => some (.inl ((l1 + r19), (l2 + 1)))))
noncomputable def f_X7_edgeCount_4 (l1 : Int32) (l2 : Int32) (σ : WD) : Option (Int32) :=
  lp (fun s : Int32 × Int32 => f_X7_edgeCount_b4 s.1 s.2 σ) (l1, l2)
noncomputable def f_X7_edgeCount  (σ : WD) : Option (Int32) :=
  f_X7_edgeCount_4 0 0 σ
noncomputable def f_X7_edgesIn_b17 (l1 : Int32) (l2 : Int32) (l3 : Int32) (l4 : Int32) (σ : WD) : Option ((Int32 × Int32) ⊕ ((Int32 × Int32) ⊕ (Int32))) :=
  if (σ.1 29 1) ≤ l4 then some (.inr (.inl (l2, (l3 + 1)))) else gi l3 12 (bv (f_X7_has (σ.1 30 (l3 : Int32).toNatClampNeg) l4 σ) (fun r35 => if r35 = 0 then some (.inl ((l2 + 0), (l4 + 1))) else bv (f_X7_using l3 l4 σ) (fun r45 => if r45 = l1 then some (.inl ((l2 + 1), (l4 + 1))) else some (.inl ((l2 + 0), (l4 + 1))))))
noncomputable def f_X7_edgesIn_17 (l1 : Int32) (l2 : Int32) (l3 : Int32) (l4 : Int32) (σ : WD) : Option ((Int32 × Int32) ⊕ (Int32)) :=
  lp (fun s : Int32 × Int32 => f_X7_edgesIn_b17 l1 s.1 l3 s.2 σ) (l2, l4)
noncomputable def f_X7_edgesIn_b4 (l1 : Int32) (l2 : Int32) (l3 : Int32) (σ : WD) : Option ((Int32 × Int32) ⊕ (Int32)) :=
  if (σ.1 29 1) ≤ l3 then some (.inr l2) else f_X7_edgesIn_17 l1 l2 l3 (l3 + 1) σ
noncomputable def f_X7_edgesIn_4 (l1 : Int32) (l2 : Int32) (l3 : Int32) (σ : WD) : Option (Int32) :=
  lp (fun s : Int32 × Int32 => f_X7_edgesIn_b4 l1 s.1 s.2 σ) (l2, l3)
noncomputable def f_X7_edgesIn (a1 : Int32) (σ : WD) : Option (Int32) :=
  f_X7_edgesIn_4 a1 0 0 σ
noncomputable def f_X7_counted (a1 : Int32) (σ : WD) : Option (Int32) :=
  if a1 = 0 then some (σ.1 29 1) else if a1 = 1 then bv (f_X7_edgeCount σ) (fun r62 => some r62) else if a1 = 2 then bv (f_X7_size σ) (fun r67 => some r67) else if a1 = 3 then bv (f_X7_all σ) (fun r76 => gi r76 4096 (some (σ.1 34 (r76 : Int32).toNatClampNeg))) else if a1 = 4 then bv (f_X7_all σ) (fun r91 => gi r91 4096 (some ((σ.1 29 1) - ((2 : Int32) * (σ.1 34 (r91 : Int32).toNatClampNeg))))) else if a1 = 5 then bv (f_X7_all σ) (fun r103 => gi r103 4096 (some (σ.1 35 (r103 : Int32).toNatClampNeg))) else if a1 = 6 then bv (f_X7_all σ) (fun r114 => gi r114 4096 (bv (f_X7_edgesIn (σ.1 35 (r114 : Int32).toNatClampNeg) σ) (fun r118 => some r118))) else if a1 = 7 then bv (f_X7_edgesIn 0 σ) (fun r124 => some r124) else if a1 = 8 then bv (f_X7_isCritical σ) (fun r129 => if r129 = 0 then some 0 else some 1) else if a1 = 9 then bv (f_X7_all σ) (fun r143 => bv (f_X7_componentsOf r143 0 σ) (fun r147 => some r147)) else some (σ.1 29 4)
noncomputable def f_X7_count_16 (l1 : Int32) (s0 : Int32) (σ : WD) : Option (Int32 × WD) :=
  lt (upi σ 29 0 s0) (fun σ16 => if (σ16.1 29 0) ≤ 0 then bv (f_X7_laySets σ16) (fun σ29 => bv (f_X7_counted l1 σ29) (fun r34 => some (r34, σ29))) else some (0, σ16))
noncomputable def f_X7_count (a1 : Int32) (σ : WD) : Option (Int32 × WD) :=
  bv (f_X7_within a1 0 10 σ) (fun r5 => if r5 = 0 then f_X7_count_16 a1 1 σ else f_X7_count_16 a1 0 σ)
noncomputable def f_X7_differs (a1 : Int32) (σ : WD) : Option (Int32) :=
  gi a1 12 (gi a1 12 (if (σ.1 31 (a1 : Int32).toNatClampNeg) = (σ.1 36 (a1 : Int32).toNatClampNeg) then some 0 else some 1))
noncomputable def f_X7_joined_95 (l3 : Int32) (l4 : Int32) (s0 : Int32) (s1 : Int32) (σ : WD) : Option ((Int32 × Int32) ⊕ ((Int32 × Int32) ⊕ (Int32))) :=
  some (.inl ((s1 ||| s0), (l4 + 1)))
noncomputable def f_X7_joined_68 (l3 : Int32) (l4 : Int32) (s0 : Int32) (s1 : Int32) (σ : WD) : Option ((Int32 × Int32) ⊕ ((Int32 × Int32) ⊕ (Int32))) :=
  gi l4 12 (if (σ.1 36 (l4 : Int32).toNatClampNeg) = (-1) then f_X7_joined_95 l3 l4 0 (s1 ||| s0) σ else gi l4 12 (f_X7_joined_95 l3 l4 ((1 : Int32) <<< ((σ.1 36 (l4 : Int32).toNatClampNeg) &&& 31)) (s1 ||| s0) σ))
noncomputable def f_X7_joined_b16 (l2 : Int32) (l3 : Int32) (l4 : Int32) (σ : WD) : Option ((Int32 × Int32) ⊕ ((Int32 × Int32) ⊕ (Int32))) :=
  if (σ.1 29 1) ≤ l4 then some (.inr (.inl (l2, l3))) else bv (f_X7_has l2 l4 σ) (fun r28 => if r28 = 0 then some (.inl (l2, (l4 + 1))) else bv (f_X7_differs l4 σ) (fun r37 => if r37 = 0 then some (.inl (l2, (l4 + 1))) else gi l4 12 (if (σ.1 31 (l4 : Int32).toNatClampNeg) = (-1) then f_X7_joined_68 l3 l4 0 l2 σ else gi l4 12 (f_X7_joined_68 l3 l4 ((1 : Int32) <<< ((σ.1 31 (l4 : Int32).toNatClampNeg) &&& 31)) l2 σ))))
noncomputable def f_X7_joined_16 (l2 : Int32) (l3 : Int32) (l4 : Int32) (σ : WD) : Option ((Int32 × Int32) ⊕ (Int32)) :=
  lp (fun s : Int32 × Int32 => f_X7_joined_b16 s.1 l3 s.2 σ) (l2, l4)
noncomputable def f_X7_joined_b6 (l2 : Int32) (l3 : Int32) (σ : WD) : Option ((Int32 × Int32) ⊕ (Int32)) :=
  if l2 = l3 then some (.inr l2) else f_X7_joined_16 l2 l2 0 σ
noncomputable def f_X7_joined_6 (l2 : Int32) (l3 : Int32) (σ : WD) : Option (Int32) :=
  lp (fun s : Int32 × Int32 => f_X7_joined_b6 s.1 s.2 σ) (l2, l3)
noncomputable def f_X7_joined (a1 : Int32) (σ : WD) : Option (Int32) :=
  li ((1 : Int32) <<< (a1 &&& 31)) (fun v3 => f_X7_joined_6 v3 0 σ)
noncomputable def f_X7_isRing_b4 (l1 : Int32) (l2 : Int32) (l3 : Int32) (σ : WD) : Option ((Int32 × Int32) ⊕ (Int32)) :=
  if (σ.1 29 1) ≤ l3 then gb l2 (some (.inr l2)) else if l2 = 0 then some (.inl (0, (l3 + 1))) else bv (f_X7_has l1 l3 σ) (fun r18 => if r18 = 0 then some (.inl (1, (l3 + 1))) else gi l3 12 (if (σ.1 31 (l3 : Int32).toNatClampNeg) = (-1) then some (.inl (0, (l3 + 1))) else gi l3 12 (if (σ.1 36 (l3 : Int32).toNatClampNeg) = (-1) then some (.inl (0, (l3 + 1))) else some (.inl (1, (l3 + 1))))))
noncomputable def f_X7_isRing_4 (l1 : Int32) (l2 : Int32) (l3 : Int32) (σ : WD) : Option (Int32) :=
  lp (fun s : Int32 × Int32 => f_X7_isRing_b4 l1 s.1 s.2 σ) (l2, l3)
noncomputable def f_X7_isRing (a1 : Int32) (σ : WD) : Option (Int32) :=
  f_X7_isRing_4 a1 1 0 σ
noncomputable def f_X7_differenceNow_68 (l1 : Int32) (l2 : Int32) (l4 : Int32) (s0 : Int32) (s1 : Int32) (s2 : Int32) (σ : WD) : Option ((Int32 × Int32 × Int32) ⊕ (Int32)) :=
  if s1 = s0 then some (.inl (l2, (s2 + 1), (l4 + 1))) else some (.inl (l2, (s2 + 0), (l4 + 1)))
noncomputable def f_X7_differenceNow_b10 (l1 : Int32) (l2 : Int32) (l3 : Int32) (l4 : Int32) (σ : WD) : Option ((Int32 × Int32 × Int32) ⊕ (Int32)) :=
  if (σ.1 29 1) ≤ l4 then some (.inr l3) else bv (f_X7_has l2 l4 σ) (fun r22 => if r22 = 0 then some (.inl (l2, l3, (l4 + 1))) else bv (f_X7_differs l4 σ) (fun r31 => if r31 = 0 then some (.inl (l2, l3, (l4 + 1))) else bv (f_X7_joined l4 σ) (fun r40 => li (l2 &&& (r40 ^^^ (-1))) (fun v51 => bv (f_X7_isRing r40 σ) (fun r56 => if l1 = 0 then f_X7_differenceNow_68 l1 v51 l4 1 r56 l3 σ else f_X7_differenceNow_68 l1 v51 l4 0 r56 l3 σ)))))
noncomputable def f_X7_differenceNow_10 (l1 : Int32) (l2 : Int32) (l3 : Int32) (l4 : Int32) (σ : WD) : Option (Int32) :=
  lp (fun s : Int32 × Int32 × Int32 => f_X7_differenceNow_b10 l1 s.1 s.2.1 s.2.2 σ) (l2, l3, l4)
noncomputable def f_X7_differenceNow (a1 : Int32) (σ : WD) : Option (Int32) :=
  bv (f_X7_all σ) (fun r1 => f_X7_differenceNow_10 a1 r1 0 0 σ)
noncomputable def f_X7_difference_15 (l1 : Int32) (s0 : Int32) (σ : WD) : Option (Int32 × WD) :=
  lt (upi σ 29 0 s0) (fun σ15 => if (σ15.1 29 0) ≤ 0 then bv (f_X7_laySets σ15) (fun σ28 => bv (f_X7_layFirst σ28) (fun σ32 => bv (f_X7_differenceNow l1 σ32) (fun r37 => some (r37, σ32)))) else some (0, σ15))
noncomputable def f_X7_difference (a1 : Int32) (σ : WD) : Option (Int32 × WD) :=
  bv (f_X7_within a1 0 1 σ) (fun r4 => if r4 = 0 then f_X7_difference_15 a1 1 σ else f_X7_difference_15 a1 0 σ)
noncomputable def f_X7_meanUse_54 (l1 : Int32) (σ : WD) : Option (Option (Int32 × Int32) × WD) :=
  bv (f_X7_edgeCount σ) (fun r55 => bv (f_X7_all σ) (fun r63 => gi r63 4096 (li (r55 * (σ.1 35 (r63 : Int32).toNatClampNeg)) (fun v68 => bv (f_X7_edgeCount σ) (fun r70 => if r70 = 0 then some (none, σ) else some (some (l1, v68), σ))))))
noncomputable def f_X7_meanUse_b25 (l1 : Int32) (l2 : Int32) (l3 : Int32) (σ : WD) : Option ((Int32 × Int32) ⊕ ((Int32 × Int32) ⊕ (Option (Int32 × Int32) × WD))) :=
  if (σ.1 29 1) ≤ l3 then some (.inr (.inl (l1, (l2 + 1)))) else bv (f_X7_using l2 l3 σ) (fun r37 => some (.inl ((l1 + r37), (l3 + 1))))
noncomputable def f_X7_meanUse_25 (l1 : Int32) (l2 : Int32) (l3 : Int32) (σ : WD) : Option ((Int32 × Int32) ⊕ (Option (Int32 × Int32) × WD)) :=
  lp (fun s : Int32 × Int32 => f_X7_meanUse_b25 s.1 l2 s.2 σ) (l1, l3)
noncomputable def f_X7_meanUse_b13 (l1 : Int32) (l2 : Int32) (σ : WD) : Option ((Int32 × Int32) ⊕ (Option (Int32 × Int32) × WD)) :=
  if (σ.1 29 1) ≤ l2 then mr (f_X7_meanUse_54 l1 σ) else f_X7_meanUse_25 l1 l2 (l2 + 1) σ
noncomputable def f_X7_meanUse_13 (l1 : Int32) (l2 : Int32) (σ : WD) : Option (Option (Int32 × Int32) × WD) :=
  lp (fun s : Int32 × Int32 => f_X7_meanUse_b13 s.1 s.2 σ) (l1, l2)
noncomputable def f_X7_meanUse  (σ : WD) : Option (Option (Int32 × Int32) × WD) :=
  lt (upi σ 29 0 0) (fun σ2 => bv (f_X7_laySets σ2) (fun σ6 => f_X7_meanUse_13 0 0 σ6))
noncomputable def f_X7_mix (a1 : Int64) (σ : WD) : Option (WD) :=
  lt (uph σ ((31 * (σ.2.1)) + a1)) (fun σ11 => some σ11)
noncomputable def f_X7_mixNode_24 (l1 : Int32) (σ : WD) : Option (WD) :=
  gi l1 12 (bv (f_X7_mix (((σ.1 36 (l1 : Int32).toNatClampNeg)).toInt64) σ) (fun σ32 => bv (f_X7_layReach l1 σ32) (fun σ37 => bv (f_X7_mix (((σ37.1 29 14)).toInt64) σ37) (fun σ46 => bv (f_X7_mix (((σ46.1 29 13)).toInt64) σ46) (fun σ55 => gi l1 12 (if (σ55.1 31 (l1 : Int32).toNatClampNeg) = (-1) then bn (f_X7_layWay l1 σ55) (fun r71 σ71 => bv (f_X7_mix ((r71).toInt64) σ71) (fun σ75 => some σ75)) else some σ55))))))
noncomputable def f_X7_mixNode_b2 (l1 : Int32) (l2 : Int32) (σ : WD) : Option ((Int32 × WD) ⊕ (WD)) :=
  if 5 ≤ l2 then mr (f_X7_mixNode_24 l1 σ) else bv (f_X7_nodeNow l1 l2 σ) (fun r11 => bv (f_X7_mix ((r11).toInt64) σ) (fun σ15 => some (.inl ((l2 + 1), σ15))))
noncomputable def f_X7_mixNode_2 (l1 : Int32) (l2 : Int32) (σ : WD) : Option (WD) :=
  lp (fun s : Int32 × WD => f_X7_mixNode_b2 l1 s.1 s.2) (l2, σ)
noncomputable def f_X7_mixNode (a1 : Int32) (σ : WD) : Option (WD) :=
  f_X7_mixNode_2 a1 0 σ
noncomputable def f_X7_mixPairs_b24 (l1 : Int32) (l2 : Int32) (l3 : Int32) (σ : WD) : Option ((Int32 × WD) ⊕ ((Int32 × WD) ⊕ ((Int32 × WD) ⊕ (WD)))) :=
  if 3 ≤ l3 then some (.inr (.inl ((l2 + 1), σ))) else bv (f_X7_edgeNow l1 l2 l3 σ) (fun r34 => bv (f_X7_mix ((r34).toInt64) σ) (fun σ38 => some (.inl ((l3 + 1), σ38))))
noncomputable def f_X7_mixPairs_24 (l1 : Int32) (l2 : Int32) (l3 : Int32) (σ : WD) : Option ((Int32 × WD) ⊕ ((Int32 × WD) ⊕ (WD))) :=
  lp (fun s : Int32 × WD => f_X7_mixPairs_b24 l1 l2 s.1 s.2) (l3, σ)
noncomputable def f_X7_mixPairs_b14 (l1 : Int32) (l2 : Int32) (σ : WD) : Option ((Int32 × WD) ⊕ ((Int32 × WD) ⊕ (WD))) :=
  if (σ.1 29 1) ≤ l2 then some (.inr (.inl ((l1 + 1), σ))) else f_X7_mixPairs_24 l1 l2 0 σ
noncomputable def f_X7_mixPairs_14 (l1 : Int32) (l2 : Int32) (σ : WD) : Option ((Int32 × WD) ⊕ (WD)) :=
  lp (fun s : Int32 × WD => f_X7_mixPairs_b14 l1 s.1 s.2) (l2, σ)
noncomputable def f_X7_mixPairs_b2 (l1 : Int32) (σ : WD) : Option ((Int32 × WD) ⊕ (WD)) :=
  if (σ.1 29 1) ≤ l1 then some (.inr σ) else f_X7_mixPairs_14 l1 (l1 + 1) σ
noncomputable def f_X7_mixPairs_2 (l1 : Int32) (σ : WD) : Option (WD) :=
  lp (fun s : Int32 × WD => f_X7_mixPairs_b2 s.1 s.2) (l1, σ)
noncomputable def f_X7_mixPairs  (σ : WD) : Option (WD) :=
  f_X7_mixPairs_2 0 σ
noncomputable def f_X7_digest_143  (σ : WD) : Option (Int64 × WD) :=
  some ((σ.2.1), σ)
noncomputable def f_X7_digest_b118 (l1 : Int32) (σ : WD) : Option ((Int32 × WD) ⊕ (Int64 × WD)) :=
  if (σ.1 29 6) ≤ l1 then mr (f_X7_digest_143  σ) else gi l1 60 (bv (f_X7_mix (((σ.1 33 (l1 : Int32).toNatClampNeg)).toInt64) σ) (fun σ134 => some (.inl ((l1 + 1), σ134))))
noncomputable def f_X7_digest_118 (l1 : Int32) (σ : WD) : Option (Int64 × WD) :=
  lp (fun s : Int32 × WD => f_X7_digest_b118 s.1 s.2) (l1, σ)
noncomputable def f_X7_digest_65  (σ : WD) : Option (Int64 × WD) :=
  bv (f_X7_mixPairs σ) (fun σ66 => bv (f_X7_proofNow σ66) (fun r71 => bv (f_X7_mix ((r71).toInt64) σ66) (fun σ75 => bv (f_X7_oddCycleNow σ75) (fun r80 => bv (f_X7_mix ((r80).toInt64) σ75) (fun σ84 => bv (f_X7_differenceNow 0 σ84) (fun r90 => bv (f_X7_mix ((r90).toInt64) σ84) (fun σ94 => bv (f_X7_differenceNow 1 σ94) (fun r100 => bv (f_X7_mix ((r100).toInt64) σ94) (fun σ104 => bv (f_X7_mix (((σ104.1 29 6)).toInt64) σ104) (fun σ113 => f_X7_digest_118 0 σ113))))))))))
noncomputable def f_X7_digest_b46 (l1 : Int32) (σ : WD) : Option ((Int32 × WD) ⊕ (Int64 × WD)) :=
  if (σ.1 29 1) ≤ l1 then mr (f_X7_digest_65  σ) else bv (f_X7_mixNode l1 σ) (fun σ56 => some (.inl ((l1 + 1), σ56)))
noncomputable def f_X7_digest_46 (l1 : Int32) (σ : WD) : Option (Int64 × WD) :=
  lp (fun s : Int32 × WD => f_X7_digest_b46 s.1 s.2) (l1, σ)
noncomputable def f_X7_digest_b22 (l1 : Int32) (σ : WD) : Option ((Int32 × WD) ⊕ (Int64 × WD)) :=
  if 11 ≤ l1 then mr (f_X7_digest_46 0 σ) else bv (f_X7_counted l1 σ) (fun r31 => bv (f_X7_mix ((r31).toInt64) σ) (fun σ35 => some (.inl ((l1 + 1), σ35))))
noncomputable def f_X7_digest_22 (l1 : Int32) (σ : WD) : Option (Int64 × WD) :=
  lp (fun s : Int32 × WD => f_X7_digest_b22 s.1 s.2) (l1, σ)
noncomputable def f_X7_digest  (σ : WD) : Option (Int64 × WD) :=
  lt (upi σ 29 0 0) (fun σ2 => lt (uph σ2 2003) (fun σ9 => bv (f_X7_laySets σ9) (fun σ13 => bv (f_X7_layFirst σ13) (fun σ17 => f_X7_digest_22 0 σ17))))
