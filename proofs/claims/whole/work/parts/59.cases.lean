-- ===== the calls that read =====
theorem case_reach {k : Nat} {σ : WD} (I : Ivt k σ) (a : Int32) (ev : Bool) : Okr (f_X6_reach a (bI ev) σ) 3 3 (fun s => f_X7_reach a (bI ev) s) k σ := by
  have I0 := I
  obtain ⟨n, A, M, c, len, B, kp, H, ⟨w, hM, hlen, hv⟩, hc, hC, hR⟩ := I
  have hn := w.2.1
  have hG := hC.1
  have hGr := hR.1
  unfold f_X6_reach
  by_cases q1 : ∃ u, u < n ∧ a = nI u
  · obtain ⟨u, hu, rfl⟩ := q1
    rw [req_ok w hG hu, bx_eq]
    obtain ⟨τ, e, ct⟩ := reach_eq w hG hC.2.2.1 hM hC.2.1 hu ev
    rw [e, ml_eq]
    refine ok_rd ⟨w, hM, hlen, hv⟩ hc hC hR rfl ct (fun s hs => ?_)
    obtain ⟨υ, e2, f2, o1, o2⟩ := x_reach_eq w (hs.c0 0).1 hM (hs.c0 0).2.1 hu
    refine rg_rt hs (υ := υ) ?_ (by rw [f2.2 0 (by decide) (by decide), c0_0]) (by rw [f2.1.2]; rfl) ((RTr.c0 s 0).tr (RTr.hf f2))
    show f_X7_reach (nI u) (bI ev) s = _
    unfold f_X7_reach f_X7_reach_14
    rw [isN_ok w hs.1 hu, bv_eq, if_neg (by decide), lt_eq, c0_0, if_pos le0, e2, bv_eq, o1, o2]
    cases ev
    · rw [if_pos (show bI false = 0 from rfl)]
    · rw [if_neg (by decide)]
  · rw [req_no w hG q1, bx_er]
    refine ok_thr (b := 0) (c := 1) I0 rfl (Or.inl ⟨rfl, rfl⟩) ?_
    show f_X7_reach a (bI ev) σ = _
    unfold f_X7_reach f_X7_reach_14
    rw [isN_no w hGr q1, bv_eq, if_pos rfl, lt_eq, c0_0, if_neg nle1]
theorem case_firstMate {k : Nat} {σ : WD} (I : Ivt k σ) (a : Int32) : Okr (f_X6_firstMate a σ) 3 3 (fun s => f_X7_firstMate a s) k σ := by
  have I0 := I
  obtain ⟨n, A, M, c, len, B, kp, H, ⟨w, hM, hlen, hv⟩, hc, hC, hR⟩ := I
  have hn := w.2.1
  have hG := hC.1
  have hGr := hR.1
  unfold f_X6_firstMate
  by_cases q1 : ∃ u, u < n ∧ a = nI u
  · obtain ⟨u, hu, rfl⟩ := q1
    rw [req_ok w hG hu, bx_eq]
    obtain ⟨τ, e, ct⟩ := firstMate_eq w hG hC.2.2.1 hu
    rw [e, ml_eq]
    refine ok_rd ⟨w, hM, hlen, hv⟩ hc hC hR rfl ct (fun s hs => ?_)
    obtain ⟨t, e2, r2, z2, d2, l2, p2⟩ := lay_c0 w hs
    obtain ⟨υ, e3, f3, c3⟩ := layFirst_eq w p2.1 l2
    refine rg_rt hs (υ := υ) ?_ (by rw [f3.1 29 (by decide), z2]) (by rw [f3.2, d2]) (r2.tr (RTr.fr f3 (by decide)))
    show f_X7_firstMate (nI u) s = _
    unfold f_X7_firstMate f_X7_firstMate_14
    rw [isN_ok w hs.1 hu, bv_eq, if_neg (by decide), lt_eq, c0_0, if_pos le0, e2, bv_eq, e3, bv_eq, gi12 (by omega), nI_clamp (by omega), c3 u hu]
  · rw [req_no w hG q1, bx_er]
    refine ok_thr (b := 0) (c := 1) I0 rfl (Or.inl ⟨rfl, rfl⟩) ?_
    show f_X7_firstMate a σ = _
    unfold f_X7_firstMate f_X7_firstMate_14
    rw [isN_no w hGr q1, bv_eq, if_pos rfl, lt_eq, c0_0, if_neg nle1]
theorem case_oddCycle {k : Nat} {σ : WD} (I : Ivt k σ) (l : Int32) : ∃ υ, bv (f_X6_oddCycle σ) (fun r => bn (f_X7_oddCycle σ) (fun r2 σ2 => if r = r2 then some (Sum.inl (l, σ2) : (Int32 × WD) ⊕ Unit) else none)) = some (.inl (l, υ)) ∧ Ivt (k + 1) υ := by
  have I0 := I
  obtain ⟨n, A, M, c, len, B, kp, H, ⟨w, hM, hlen, hv⟩, hc, hC, hR⟩ := I
  refine ⟨upi σ 29 0 0, ?_, I0.c0 0⟩
  unfold f_X7_oddCycle
  rw [oddCycle_eq w hC.1, bv_eq, lt_eq, x_oddCycle_eq w (hR.c0 0).1, bv_eq, bn_eq, if_pos rfl]
theorem case_proof {k : Nat} {σ : WD} (I : Ivt k σ) (l : Int32) : ∃ υ, bn (f_X6_proof σ) (fun r σr => bn (f_X7_proof σr) (fun r2 σ2 => if r = r2 then some (Sum.inl (l, σ2) : (Int32 × WD) ⊕ Unit) else none)) = some (.inl (l, υ)) ∧ Ivt (k + 1) υ := by
  obtain ⟨n, A, M, c, len, B, kp, H, ⟨w, hM, hlen, hv⟩, hc, hC, hR⟩ := I
  obtain ⟨τ, e, h⟩ := proof_eq w hC.1 hC.2.2.1
  refine ok_dir e h.ct.sr (h.ct.cp hC) hR (fun s hs => ?_) ⟨w, hM, hlen, hv⟩ (by omega) l
  obtain ⟨υ, e2, r2, z2, d2, l2, p2⟩ := lay_c0 w hs
  refine rg_rt hs (υ := υ) ?_ z2 d2 r2
  unfold f_X7_proof
  rw [lt_eq, e2, bv_eq, x_proofNow_eq w p2.1 l2, bv_eq]
/-- a helper of a call that writes nothing -/
def inW (m : Option (Int32 ⊕ Nat)) (σ : WD) : Option ((Int32 × WD) ⊕ Nat) := match m with
  | some (.inl p) => some (.inl (p, σ))
  | some (.inr e) => some (.inr e)
  | none => none
theorem hlr_hl (m : Option (Int32 ⊕ Nat)) (e1 e2 : Nat) (σ : WD) : hlr m e1 e2 σ = hl (inW m σ) e1 e2 σ := by
  match m with
  | some (.inl p) => rfl
  | some (.inr e) => rfl
  | none => rfl
theorem case_components {k : Nat} {σ : WD} (I : Ivt k σ) (a b : Int32) : Okr (inW (f_X6_components a b σ) σ) 1 1 (fun s => f_X7_components a b s) k σ := by
  have I0 := I
  obtain ⟨n, A, M, c, len, B, kp, H, ⟨w, hM, hlen, hv⟩, hc, hC, hR⟩ := I
  have hn := w.2.1
  have hG := hC.1
  have hGr := hR.1
  have hal : Bd n (al n) := Bd.al (by omega)
  have thr : (a < 0 ∨ al n < a) → f_X7_components a b σ = some (0, upi σ 29 0 1) := by
    intro q
    unfold f_X7_components f_X7_within f_X7_components_18
    rw [hGr.al, bv_eq]
    by_cases q1 : a < 0
    · rw [if_pos q1, bv_eq, if_pos rfl, lt_eq, c0_0, if_neg nle1]
    · rw [if_neg q1, if_pos (q.resolve_left q1), bv_eq, if_pos rfl, lt_eq, c0_0, if_neg nle1]
  unfold f_X6_components f_X6_components_15
  by_cases q1 : a < 0
  · rw [if_pos q1]
    exact ok_thr (b := 0) (c := 1) I0 rfl (Or.inl ⟨rfl, rfl⟩) (thr (Or.inl q1))
  · rw [if_neg q1, hG.al, bv_eq]
    by_cases q2 : a ≤ al n
    · rw [if_pos q2]
      unfold f_X6_components_25
      have hW : Bd n (dif (al n) a) := hal.dif a
      rw [hG.al, bv_eq, dif_eq, pieces_eq w hG hW, bv_eq, ml_eq]
      refine ok_rd (v := nI (pcs n A (dif (al n) a) b n).2) (τ := σ) ⟨w, hM, hlen, hv⟩ hc hC hR rfl (CTr.rf hC.2.2.1) (fun s hs => ?_)
      refine rg_rt hs (υ := upi s 29 0 0) ?_ (c0_0 s 0) rfl (RTr.c0 s 0)
      show f_X7_components a b s = _
      unfold f_X7_components f_X7_within f_X7_components_18
      have g0 := (hs.c0 0).1
      rw [hs.1.al, bv_eq, if_neg q1, if_neg (fun g => (i_not_le.mpr g) q2), bv_eq, if_neg (by decide), lt_eq, c0_0, if_pos le0, g0.al, bv_eq, dif_eq, componentsOf_eq w g0 hW, bv_eq]
    · rw [if_neg q2]
      exact ok_thr (b := 0) (c := 1) I0 rfl (Or.inl ⟨rfl, rfl⟩) (thr (Or.inr (i_not_le.mp q2)))
theorem flp_flp {A : Nat → Int32} {u v : Nat} (huv : u ≠ v) : flp (flp A u v) u v = A := by
  funext i
  have e : ∀ x y : Int32, (x ^^^ y) ^^^ y = x := fun x y => by rw [Int32.xor_assoc, Int32.xor_self, Int32.xor_zero]
  unfold flp
  by_cases q1 : i = v
  · subst q1
    rw [upd_same, upd_same, e]
  · rw [upd_ne _ q1]
    by_cases q2 : i = u
    · subst q2
      rw [upd_same, upd_ne _ q1, upd_same, e]
    · rw [upd_ne _ q2, upd_ne _ q1, upd_ne _ q2]
theorem case_ifChanged {k : Nat} {σ : WD} (I : Ivt k σ) (a b : Int32) : Okr (f_X6_ifChanged a b σ) 3 1 (fun s => f_X7_ifChanged a b s) k σ := by
  have I0 := I
  obtain ⟨n, A, M, c, len, B, kp, H, ⟨w, hM, hlen, hv⟩, hc, hC, hR⟩ := I
  have hn := w.2.1
  have hG := hC.1
  have hGr := hR.1
  have thr1 : (¬ (∃ u, u < n ∧ a = nI u) ∨ ¬ (∃ u, u < n ∧ b = nI u)) → f_X7_ifChanged a b σ = some (0, upi σ 29 0 1) := by
    intro q
    unfold f_X7_ifChanged f_X7_ifChanged_17 f_X7_ifChanged_31
    by_cases q1 : ∃ u, u < n ∧ a = nI u
    · obtain ⟨u, hu, rfl⟩ := q1
      rw [isN_ok w hGr hu, bv_eq, if_neg (by decide), isN_no w hGr (q.resolve_left (fun g => g ⟨u, hu, rfl⟩)), bv_eq, if_pos rfl, lt_eq, c0_0, if_neg nle1]
    · rw [isN_no w hGr q1, bv_eq, if_pos rfl, lt_eq, c0_0, if_neg nle1]
  unfold f_X6_ifChanged
  by_cases q1 : ∃ u, u < n ∧ a = nI u
  · obtain ⟨u, hu, rfl⟩ := q1
    rw [req_ok w hG hu, bx_eq]
    by_cases q2 : ∃ u, u < n ∧ b = nI u
    · obtain ⟨v, hv', rfl⟩ := q2
      rw [req_ok w hG hv', bx_eq]
      unfold f_X6_requireDifferent
      by_cases huv : u = v
      · subst huv
        rw [if_pos rfl, bx_er]
        refine ok_thr (b := 0) (c := 2) I0 rfl (Or.inr ⟨by decide, rfl, rfl⟩) ?_
        show f_X7_ifChanged (nI u) (nI u) σ = _
        unfold f_X7_ifChanged f_X7_ifChanged_31
        rw [isN_ok w hGr hu, bv_eq, if_neg (by decide), bv_eq, if_neg (by decide), if_pos rfl, lt_eq, c0_0, if_neg nle2]
      · have huvI : ¬ nI u = nI v := fun q => huv (nI_inj (by omega) (by omega) q)
        rw [if_neg huvI, bx_eq]
        obtain ⟨τ, e, h⟩ := ifChanged_eq w hG hC.2.2.1 hu hv' huv
        rw [e, ml_eq]
        refine ok_rd ⟨w, hM, hlen, hv⟩ hc hC hR rfl h.ct (fun s hs => ?_)
        have wf := w.flp hu hv' huv
        have hal : Bd n (al n) := Bd.al (by omega)
        obtain ⟨t1, e1, f1, g1⟩ := flip_eq w (hs.c0 0).1 hu hv' huv
        have p1 := (hs.c0 0).graph f1 g1
        obtain ⟨t2, e2, f2, l2⟩ := laySets_eq wf g1
        have p2 := (RTr.fr f2 (by decide)).rp p1
        obtain ⟨t3, e3, f3, g3⟩ := flip_eq wf p2.1 hu hv' huv
        rw [flp_flp huv] at g3
        have p3 := p2.graph f3 g3
        show ∃ υ, f_X7_ifChanged (nI u) (nI v) s = _ ∧ _
        unfold f_X7_ifChanged f_X7_ifChanged_31
        have d1 : t3.1 34 (al n).toNatClampNeg = nI (DS n (flp A u v) (al n)).1 := by rw [f3.1 34 (by decide)]; exact (l2 _ hal).1
        rw [isN_ok w hs.1 hu, bv_eq, if_neg (by decide), isN_ok w hs.1 hv', bv_eq, if_neg (by decide), if_neg huvI, lt_eq, c0_0, if_pos le0, e1, bv_eq, e2, bv_eq, e3, bv_eq, g3.al, bv_eq, gi_bd (hal.mono hn), d1]
        exact ⟨t3, rfl, by rw [f3.1 29 (by decide), f2.1 29 (by decide), f1.1 29 (by decide), c0_0], by rw [f3.2, f2.2, f1.2]; rfl, (SameC.c0 s 0).tr ((f1.sc (by decide)).tr ((f2.sc (by decide)).tr (f3.sc (by decide)))), p3⟩
    · rw [req_no w hG q2, bx_er]
      exact ok_thr (b := 0) (c := 1) I0 rfl (Or.inl ⟨rfl, rfl⟩) (thr1 (Or.inr q2))
  · rw [req_no w hG q1, bx_er]
    exact ok_thr (b := 0) (c := 1) I0 rfl (Or.inl ⟨rfl, rfl⟩) (thr1 (Or.inl q1))
theorem case_node {k : Nat} {σ : WD} (I : Ivt k σ) (a b : Int32) : Okr (f_X6_node a b σ) 3 1 (fun s => f_X7_node a b s) k σ := by
  have I0 := I
  obtain ⟨n, A, M, c, len, B, kp, H, ⟨w, hM, hlen, hv⟩, hc, hC, hR⟩ := I
  have hn := w.2.1
  have hG := hC.1
  have hGr := hR.1
  by_cases q1 : ∃ u, u < n ∧ a = nI u
  · obtain ⟨u, hu, rfl⟩ := q1
    by_cases q2 : ∃ j, j ≤ 4 ∧ b = nI j
    · obtain ⟨j, hj, rfl⟩ := q2
      obtain ⟨τ, e, ct⟩ := node_eq w hG hC.2.2.1 hC.2.1 hu hj
      rw [e]
      refine ok_rd ⟨w, hM, hlen, hv⟩ hc hC hR rfl ct (fun s hs => ?_)
      obtain ⟨υ, e2, r2, z2, d2, l2, p2⟩ := lay_c0 w hs
      refine rg_rt hs (υ := υ) ?_ z2 d2 r2
      show f_X7_node (nI u) (nI j) s = _
      unfold f_X7_node f_X7_node_27
      have hw : f_X7_within (nI j) 0 4 s = some 1 := win_ok (m := 4) (by decide) hj s
      rw [isN_ok w hs.1 hu, bv_eq, if_neg (by decide), hw, bv_eq, if_neg (by decide), lt_eq, c0_0, if_pos le0, e2, bv_eq, nodeNow_eq w p2.1 p2.2.1 l2 hu hj, bv_eq]
    · unfold f_X6_node
      rw [req_ok w hG hu, bx_eq, if_neg (show ¬ b = 0 from fun q => q2 ⟨0, by omega, q⟩), if_neg (show ¬ b = 1 from fun q => q2 ⟨1, by omega, q⟩), if_neg (show ¬ b = 2 from fun q => q2 ⟨2, by omega, q⟩), if_neg (show ¬ b = 3 from fun q => q2 ⟨3, by omega, q⟩), if_neg (show ¬ b = 4 from fun q => q2 ⟨4, by omega, q⟩)]
      refine ok_thr (b := 0) (c := 2) I0 rfl (Or.inr ⟨by decide, rfl, rfl⟩) ?_
      show f_X7_node (nI u) b σ = _
      unfold f_X7_node f_X7_node_27
      have hw : f_X7_within b 0 4 σ = some 0 := win_no (m := 4) (by decide) q2 σ
      rw [isN_ok w hGr hu, bv_eq, if_neg (by decide), hw, bv_eq, if_pos rfl, lt_eq, c0_0, if_neg nle2]
  · unfold f_X6_node
    rw [req_no w hG q1, bx_er]
    refine ok_thr (b := 0) (c := 1) I0 rfl (Or.inl ⟨rfl, rfl⟩) ?_
    show f_X7_node a b σ = _
    unfold f_X7_node f_X7_node_27
    rw [isN_no w hGr q1, bv_eq, if_pos rfl, lt_eq, c0_0, if_neg nle1]
theorem case_edge {k : Nat} {σ : WD} (I : Ivt k σ) (a b d : Int32) : Okr (f_X6_edge a b d σ) 3 1 (fun s => f_X7_edge a b d s) k σ := by
  have I0 := I
  obtain ⟨n, A, M, c, len, B, kp, H, ⟨w, hM, hlen, hv⟩, hc, hC, hR⟩ := I
  have hn := w.2.1
  have hG := hC.1
  have hGr := hR.1
  have thr1 : (¬ (∃ u, u < n ∧ a = nI u) ∨ ¬ (∃ u, u < n ∧ b = nI u)) → f_X7_edge a b d σ = some (0, upi σ 29 0 1) := by
    intro q
    unfold f_X7_edge f_X7_edge_17 f_X7_edge_35
    by_cases q1 : ∃ u, u < n ∧ a = nI u
    · obtain ⟨u, hu, rfl⟩ := q1
      rw [isN_ok w hGr hu, bv_eq, if_neg (by decide), isN_no w hGr (q.resolve_left (fun g => g ⟨u, hu, rfl⟩)), bv_eq, if_pos rfl, lt_eq, c0_0, if_neg nle1]
    · rw [isN_no w hGr q1, bv_eq, if_pos rfl, lt_eq, c0_0, if_neg nle1]
  by_cases q1 : ∃ u, u < n ∧ a = nI u
  · obtain ⟨u, hu, rfl⟩ := q1
    by_cases q2 : ∃ u, u < n ∧ b = nI u
    · obtain ⟨v, hv', rfl⟩ := q2
      by_cases q3 : ∃ j, j ≤ 2 ∧ d = nI j
      · obtain ⟨j, hj, rfl⟩ := q3
        obtain ⟨τ, e, ct⟩ := edge_eq w hG hC.2.2.1 hC.2.1 hu hv' hj
        rw [e]
        refine ok_rd ⟨w, hM, hlen, hv⟩ hc hC hR rfl ct (fun s hs => ?_)
        obtain ⟨υ, e2, r2, z2, d2, l2, p2⟩ := lay_c0 w hs
        refine rg_rt hs (υ := υ) ?_ z2 d2 r2
        show f_X7_edge (nI u) (nI v) (nI j) s = _
        unfold f_X7_edge f_X7_edge_35
        have hw : f_X7_within (nI j) 0 2 s = some 1 := win_ok (m := 2) (by decide) hj s
        rw [isN_ok w hs.1 hu, bv_eq, if_neg (by decide), isN_ok w hs.1 hv', bv_eq, if_neg (by decide), hw, bv_eq, if_neg (by decide), lt_eq, c0_0, if_pos le0, e2, bv_eq, edgeNow_eq w p2.1 hM p2.2.1 l2 hu hv' hj, bv_eq]
      · unfold f_X6_edge
        rw [req_ok w hG hu, bx_eq, req_ok w hG hv', bx_eq, if_neg (show ¬ d = 0 from fun q => q3 ⟨0, by omega, q⟩), if_neg (show ¬ d = 1 from fun q => q3 ⟨1, by omega, q⟩), if_neg (show ¬ d = 2 from fun q => q3 ⟨2, by omega, q⟩)]
        refine ok_thr (b := 0) (c := 2) I0 rfl (Or.inr ⟨by decide, rfl, rfl⟩) ?_
        show f_X7_edge (nI u) (nI v) d σ = _
        unfold f_X7_edge f_X7_edge_35
        have hw : f_X7_within d 0 2 σ = some 0 := win_no (m := 2) (by decide) q3 σ
        rw [isN_ok w hGr hu, bv_eq, if_neg (by decide), isN_ok w hGr hv', bv_eq, if_neg (by decide), hw, bv_eq, if_pos rfl, lt_eq, c0_0, if_neg nle2]
    · unfold f_X6_edge
      rw [req_ok w hG hu, bx_eq, req_no w hG q2, bx_er]
      exact ok_thr (b := 0) (c := 1) I0 rfl (Or.inl ⟨rfl, rfl⟩) (thr1 (Or.inr q2))
  · unfold f_X6_edge
    rw [req_no w hG q1, bx_er]
    exact ok_thr (b := 0) (c := 1) I0 rfl (Or.inl ⟨rfl, rfl⟩) (thr1 (Or.inl q1))
theorem case_count {k : Nat} {σ : WD} (I : Ivt k σ) (a : Int32) : Okr (f_X6_count a σ) 1 1 (fun s => f_X7_count a s) k σ := by
  have I0 := I
  obtain ⟨n, A, M, c, len, B, kp, H, ⟨w, hM, hlen, hv⟩, hc, hC, hR⟩ := I
  have hn := w.2.1
  by_cases q2 : ∃ j, j ≤ 10 ∧ a = nI j
  · obtain ⟨j, hj, rfl⟩ := q2
    obtain ⟨τ, e, ct⟩ := count_eq w hC.1 hC.2.2.1 hM hC.2.1 hC.2.2.2.2.2.1 hj
    rw [e]
    refine ok_rd ⟨w, hM, hlen, hv⟩ hc hC hR rfl ct (fun s hs => ?_)
    obtain ⟨υ, e2, r2, z2, d2, l2, p2⟩ := lay_c0 w hs
    refine rg_rt hs (υ := υ) ?_ z2 d2 r2
    show f_X7_count (nI j) s = _
    unfold f_X7_count f_X7_count_16
    have hw : f_X7_within (nI j) 0 10 s = some 1 := win_ok (m := 10) (by decide) hj s
    rw [hw, bv_eq, if_neg (by decide), lt_eq, c0_0, if_pos le0, e2, bv_eq, counted_eq w p2.1 p2.2.1 l2 p2.2.2.2.1 hj, bv_eq]
  · unfold f_X6_count
    rw [if_neg (show ¬ a = 0 from fun q => q2 ⟨0, by omega, q⟩), if_neg (show ¬ a = 1 from fun q => q2 ⟨1, by omega, q⟩), if_neg (show ¬ a = 2 from fun q => q2 ⟨2, by omega, q⟩), if_neg (show ¬ a = 3 from fun q => q2 ⟨3, by omega, q⟩), if_neg (show ¬ a = 4 from fun q => q2 ⟨4, by omega, q⟩), if_neg (show ¬ a = 5 from fun q => q2 ⟨5, by omega, q⟩), if_neg (show ¬ a = 6 from fun q => q2 ⟨6, by omega, q⟩), if_neg (show ¬ a = 7 from fun q => q2 ⟨7, by omega, q⟩), if_neg (show ¬ a = 8 from fun q => q2 ⟨8, by omega, q⟩), if_neg (show ¬ a = 9 from fun q => q2 ⟨9, by omega, q⟩), if_neg (show ¬ a = 10 from fun q => q2 ⟨10, by omega, q⟩)]
    refine ok_thr (b := 0) (c := 1) I0 rfl (Or.inl ⟨rfl, rfl⟩) ?_
    show f_X7_count a σ = _
    unfold f_X7_count f_X7_count_16
    have hw : f_X7_within a 0 10 σ = some 0 := win_no (m := 10) (by decide) q2 σ
    rw [hw, bv_eq, if_pos rfl, lt_eq, c0_0, if_neg nle1]
theorem case_difference {k : Nat} {σ : WD} (I : Ivt k σ) (a : Int32) : Okr (f_X6_difference a σ) 1 1 (fun s => f_X7_difference a s) k σ := by
  have I0 := I
  obtain ⟨n, A, M, c, len, B, kp, H, ⟨w, hM, hlen, hv⟩, hc, hC, hR⟩ := I
  have hn := w.2.1
  by_cases q2 : ∃ j, j ≤ 1 ∧ a = nI j
  · have q0 : a = 0 ∨ a = 1 := by
      obtain ⟨j, hj, e⟩ := q2
      match j, hj with
      | 0, _ => exact Or.inl e
      | 1, _ => exact Or.inr e
      | j + 2, hj => omega
    obtain ⟨τ, e, h⟩ := difference_eq w hC.1 hC.2.2.1 hM hC.2.1 a
    have hfx : f_X6_difference a σ = some (.inl (nI (dfc n M (fm n A) (decide (a = 0)) n), τ)) := by
      unfold f_X6_difference
      rcases q0 with q | q
      · rw [if_pos q, e, ml_eq]
      · rw [if_neg (fun g => by rw [q] at g; revert g; decide), if_pos q, e, ml_eq]
    refine ok_rd ⟨w, hM, hlen, hv⟩ hc hC hR hfx h.ct (fun s hs => ?_)
    obtain ⟨t, e2, r2, z2, d2, l2, p2⟩ := lay_c0 w hs
    obtain ⟨υ, e3, f3, c3⟩ := layFirst_eq w p2.1 l2
    have r3 := r2.tr (RTr.fr f3 (by decide))
    have p3 := r3.rp hs
    refine rg_rt hs (υ := υ) ?_ (by rw [f3.1 29 (by decide), z2]) (by rw [f3.2, d2]) r3
    show f_X7_difference a s = _
    unfold f_X7_difference f_X7_difference_15
    have hw : f_X7_within a 0 1 s = some 1 := by
      obtain ⟨j, hj, e⟩ := q2
      rw [e]; exact win_ok (m := 1) (by decide) hj s
    rw [hw, bv_eq, if_neg (by decide), lt_eq, c0_0, if_pos le0, e2, bv_eq, e3, bv_eq, x_difference_eq w p3.1 hM (fm_mw w) p3.2.1 c3, bv_eq]
  · unfold f_X6_difference
    rw [if_neg (show ¬ a = 0 from fun q => q2 ⟨0, by omega, q⟩), if_neg (show ¬ a = 1 from fun q => q2 ⟨1, by omega, q⟩)]
    refine ok_thr (b := 0) (c := 1) I0 rfl (Or.inl ⟨rfl, rfl⟩) ?_
    show f_X7_difference a σ = _
    unfold f_X7_difference f_X7_difference_15
    have hw : f_X7_within a 0 1 σ = some 0 := win_no (m := 1) (by decide) q2 σ
    rw [hw, bv_eq, if_pos rfl, lt_eq, c0_0, if_neg nle1]
-- ===== meanUse =====
def mus (n : Nat) (A : Nat → Int32) (u : Nat) : Nat → Nat := smn (fun t => hvq n A u (u + 1 + t))
theorem dgs_le (A : Nat → Int32) : ∀ t, dgs A t ≤ 12 * t
  | 0 => Nat.le_refl _
  | t + 1 => by
    have := dgs_le A t
    have h : pcn (A t) ≤ 12 := pct_le (A t) 12
    show dgs A t + pcn (A t) ≤ _
    omega
theorem half_145 : ∀ d, d < 145 → nI d / 2 = nI (d / 2) := by decide +kernel
theorem nI_mul (a b : Nat) : nI a * nI b = nI (a * b) := (Int32.ofNat_mul a b).symm
theorem case_meanUse {k : Nat} {σ : WD} (I : Ivt k σ) (xs : Nat → Int32) (L : Nat) (l : Int32) : ∃ υ, f_law_1386 xs L l σ = some (.inl ((l + 4), υ)) ∧ Ivt (k + 1) υ := by
  obtain ⟨n, A, M, c, len, B, kp, H, ⟨w, hM, hlen, hv⟩, hc, hC, hR⟩ := I
  have hn := w.2.1
  have hal : Bd n (al n) := Bd.al (by omega)
  have hd := dgs_le A n
  have hW1 := DS_pos n A (al n)
  have hW2 := DS_lt hn A (al n)
  obtain ⟨E, hE⟩ : ∃ E, E = dgs A n / 2 := ⟨_, rfl⟩
  have hhalf : nI (dgs A n) / 2 = nI E := by rw [half_145 _ (by omega), hE]
  have hprod : E * (DS n A (al n)).2 ≤ 72 * 140152 := Nat.mul_le_mul (by omega) hW2
  have hzero : nI E * nI (DS n A (al n)).2 = 0 ↔ E = 0 := by
    rw [nI_mul]
    constructor
    · intro q
      have := nI_inj (b := 0) (by omega) (by omega) q
      rcases Nat.mul_eq_zero.mp this with g | g
      · exact g
      · omega
    · intro q; rw [q, Nat.zero_mul]; rfl
  obtain ⟨S, hS⟩ : ∃ S, S = nI (smn (fun u => mus n A u (n - 1 - u)) n) := ⟨_, rfl⟩
  obtain ⟨R, hRv⟩ : ∃ R : Option (Int32 × Int32), R = if E = 0 then none else some (S, nI E * nI (DS n A (al n)).2) := ⟨_, rfl⟩
  -- the class
  have hcl : ∃ τ, f_X6_meanUse σ = some (R, τ) ∧ CTr n A σ τ := by
    unfold f_X6_meanUse
    obtain ⟨σ1, e1, h1⟩ := howMany_eq w hC.1 hC.2.2.1
    rw [edges_eq hC.1 w, bv_eq, hhalf, e1, bn_eq]
    by_cases q : E = 0
    · rw [if_pos (hzero.mpr q)]
      exact ⟨σ1, by rw [hRv, if_pos q], h1.ct⟩
    · rw [if_neg (fun g => q (hzero.mp g))]
      unfold f_X6_meanUse_26
      obtain ⟨s', ⟨τ, hs', hp⟩, el⟩ := lp_inv (f := fun s : Int32 × Int32 × WD => f_X6_meanUse_b26 (nI E * nI (DS n A (al n)).2) s.1 s.2.1 s.2.2)
        (fun u s => ∃ τ, s = (nI (smn (fun u => mus n A u (n - 1 - u)) u), nI u, τ) ∧ MZ n A σ1 τ) (a := 0) (b := n) (Nat.zero_le _) (s := (0, 0, σ1)) ⟨σ1, rfl, MZ.rf h1.2.2 h1.2.1.mo⟩ (fun u s _ hu hs => by
          obtain ⟨τ, rfl, hp⟩ := hs
          dsimp only
          unfold f_X6_meanUse_b26 f_X6_meanUse_42
          rw [hp.2.2.1, if_neg (nI_ge hu (by omega)), nI_1]
          obtain ⟨s2, ⟨τ2, hs2, hp2⟩, el2⟩ := lp_inv (f := fun s : Int32 × Int32 × WD => f_X6_meanUse_b42 (nI E * nI (DS n A (al n)).2) s.1 (nI u) s.2.1 s.2.2)
            (fun t s => ∃ τ, s = (nI (smn (fun u => mus n A u (n - 1 - u)) u + mus n A u t), nI (u + 1 + t), τ) ∧ MZ n A σ1 τ) (a := 0) (b := n - 1 - u) (Nat.zero_le _) (s := (nI (smn (fun u => mus n A u (n - 1 - u)) u), nI (u + 1), τ)) ⟨τ, rfl, hp⟩ (fun t s _ ht hs => by
              obtain ⟨τ, rfl, hp⟩ := hs
              dsimp only
              unfold f_X6_meanUse_b42
              obtain ⟨τ2, e2, h2⟩ := having_eq w hp.2.2 hp.2.1 (u := u) (v := u + 1 + t) (by omega) (by omega)
              rw [hp.2.2.1, if_neg (nI_ge (show u + 1 + t < n by omega) (by omega)), e2, bn_eq, nI_add, nI_1]
              exact ⟨_, rfl, τ2, by rw [Nat.add_assoc]; rfl, hp.tr h2⟩)
          rw [el2]
          refine ⟨_, lp_end (r := Sum.inl (nI (smn (fun u => mus n A u (n - 1 - u)) (u + 1)), nI (u + 1), τ2)) ?_, τ2, rfl, hp2⟩
          rw [hs2]
          dsimp only
          unfold f_X6_meanUse_b42
          rw [hp2.2.2.1, if_pos (nI_le (show n ≤ u + 1 + (n - 1 - u) by omega) (by omega)), nI_1]
          rfl)
      rw [el, hs']
      refine ⟨τ, lp_end ?_, h1.ct.tr hp.ct⟩
      dsimp only
      unfold f_X6_meanUse_b26 f_X6_meanUse_79
      rw [hp.2.2.1, if_pos (nI_le (Nat.le_refl n) (by omega)), mr_eq, hRv, if_neg q, hS]
  obtain ⟨τ, e, ct⟩ := hcl
  have hR' := hR.same ct.sr
  obtain ⟨υ, e2, r2, z2, d2, l2, p2⟩ := lay_c0 w hR'
  refine ⟨υ, ?_, n, A, M, c, len, B, kp, H, ⟨w, hM, hlen, hv⟩, by omega, (ct.cp hC).same r2.sc, p2⟩
  have href : f_X7_meanUse τ = some (R, υ) := by
    unfold f_X7_meanUse
    rw [lt_eq, e2, bv_eq]
    have h54 : f_X7_meanUse_54 S υ = some (R, υ) := by
      unfold f_X7_meanUse_54
      have d2' : υ.1 35 (al n).toNatClampNeg = nI (DS n A (al n)).2 := (l2 _ hal).2
      rw [edgeCount_eq p2.1 w, bv_eq, hhalf, p2.1.al, bv_eq, gi_bd (hal.mono hn), d2', li_eq, bv_eq, hRv]
      by_cases q : E = 0
      · rw [if_pos (by rw [q]; rfl), if_pos q]
      · rw [if_neg (nI_ne0 (by omega) (by omega)), if_neg q]
    unfold f_X7_meanUse_13
    refine lp_for (fun u => (nI (smn (fun u => mus n A u (n - 1 - u)) u), nI u)) (a := 0) (b := n) (Nat.zero_le _) (fun u _ hu => ?_) ?_
    · show f_X7_meanUse_b13 _ _ _ = _
      unfold f_X7_meanUse_b13 f_X7_meanUse_25
      rw [p2.1.1, if_neg (nI_ge hu (by omega)), nI_1]
      refine lp_for (fun t => (nI (smn (fun u => mus n A u (n - 1 - u)) u + mus n A u t), nI (u + 1 + t))) (a := 0) (b := n - 1 - u) (Nat.zero_le _) (fun t _ ht => ?_) ?_
      · show f_X7_meanUse_b25 _ _ _ _ = _
        unfold f_X7_meanUse_b25
        rw [p2.1.1, if_neg (nI_ge (show u + 1 + t < n by omega) (by omega)), x_using_eq w p2.1 l2 hu (by omega), bv_eq, nI_add, nI_1, Nat.add_assoc]
        rfl
      · show f_X7_meanUse_b25 _ _ _ _ = _
        unfold f_X7_meanUse_b25
        rw [p2.1.1, if_pos (nI_le (show n ≤ u + 1 + (n - 1 - u) by omega) (by omega)), nI_1]
        rfl
    · show f_X7_meanUse_b13 _ _ _ = _
      unfold f_X7_meanUse_b13
      rw [p2.1.1, if_pos (nI_le (Nat.le_refl n) (by omega))]
      show mr (f_X7_meanUse_54 (nI (smn (fun u => mus n A u (n - 1 - u)) n)) υ) = _
      rw [← hS, h54, mr_eq]
  unfold f_law_1386
  rw [e, bn_eq, href, bn_eq, if_pos rfl]
