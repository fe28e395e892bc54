-- ===== readers, one by one =====
theorem MZ.ct {n : Nat} {A : Nat → Int32} {σ τ : WD} (h : MZ n A σ τ) : CTr n A σ τ := ⟨h.1.mono (by decide), h.2.1⟩
theorem LQ.ct {n : Nat} {A : Nat → Int32} {σ τ : WD} (h : LQ n A σ τ) : CTr n A σ τ := h.mz.ct
theorem DQ.ct {n : Nat} {A : Nat → Int32} {σ τ : WD} (h : DQ n A σ τ) : CTr n A σ τ := ⟨h.1.mono (by decide), h.2.1⟩
theorem reach_eq {n : Nat} {A M : Nat → Int32} {σ : WD} (w : GW n A) (hG : GC n A σ) (hMo : Mo n A σ) (hM : MW n A M) (hC : CM M σ) {r : Nat} (hr : r < n) (ev : Bool) : ∃ τ, f_X6_reach_5 (nI r) (bI ev) σ = some (rch n A M r ev, τ) ∧ CTr n A σ τ := by
  have hn := w.2.1
  unfold f_X6_reach_5
  rw [isExposed_eq hC (by omega), bv_eq]
  by_cases g : M r = -1
  · rw [if_pos g, if_neg (by decide)]
    obtain ⟨τ, e, f, o1, o2⟩ := findEnds_eq w hG hM hC hr g
    refine ⟨τ, ?_, f.mono (by decide), hMo.fr f (by decide) (by decide) (by decide) (by decide) (by decide)⟩
    rw [e, bv_eq]
    cases ev with
    | true => rw [if_neg (by decide), rch_of true (S := τ.1 18 5) (fun x => by rw [if_pos rfl]; exact o2 x)]
    | false => rw [if_pos (show bI false = 0 from rfl), rch_of false (S := τ.1 18 6) (fun x => by rw [if_neg (by decide)]; exact o1 x)]
  · rw [if_neg g, if_pos rfl]
    refine ⟨σ, ?_, CTr.rf hMo⟩
    rw [rch_of ev (S := 0) (fun x => by
      rw [b_0]
      cases ev
      · exact ⟨fun q => by (cases q), fun q => absurd q.1 g⟩
      · exact ⟨fun q => by (cases q), fun q => absurd q.1 g⟩)]
theorem x_reach_eq {n : Nat} {A M : Nat → Int32} {σ : WD} (w : GW n A) (hG : GR n A σ) (hM : MW n A M) (hC : RM M σ) {r : Nat} (hr : r < n) : ∃ τ, f_X7_layReach (nI r) σ = some τ ∧ HF σ τ ∧ τ.1 29 13 = rch n A M r false ∧ τ.1 29 14 = rch n A M r true := by
  obtain ⟨τ, e, f, o1, o2⟩ := layReach_eq w hG hM hC hr
  exact ⟨τ, e, f, rch_of false (fun x => by rw [if_neg (by decide)]; exact o1 x), rch_of true (fun x => by rw [if_pos rfl]; exact o2 x)⟩
theorem firstMate_eq {n : Nat} {A : Nat → Int32} {σ : WD} (w : GW n A) (hG : GC n A σ) (hMo : Mo n A σ) {r : Nat} (hr : r < n) : ∃ τ, f_X6_firstMate_5 (nI r) σ = some (fm n A r, τ) ∧ CTr n A σ τ := by
  have hn := w.2.1
  obtain ⟨τ, e, h⟩ := first_eq w hG hMo
  refine ⟨τ, ?_, h.ct⟩
  unfold f_X6_firstMate_5
  rw [e, bv_eq, gi12 (by omega), nI_clamp (by omega), h.2.2.2 r (by omega)]
-- node
noncomputable def nqv (n : Nat) (A M : Nat → Int32) (u : Nat) : Nat → Int32
  | 0 => nI (pcn (A u))
  | 1 => M u
  | 2 => ptq n A u
  | 3 => nI (exq n A u)
  | _ => nI (lwn (cmp n A (al n) u))
theorem node_eq {n : Nat} {A M : Nat → Int32} {σ : WD} (w : GW n A) (hG : GC n A σ) (hMo : Mo n A σ) (hC : CM M σ) {u : Nat} (hu : u < n) {j : Nat} (hj : j ≤ 4) : ∃ τ, f_X6_node (nI u) (nI j) σ = some (.inl (nqv n A M u j, τ)) ∧ CTr n A σ τ := by
  have hn := w.2.1
  have hal : Bd n (al n) := Bd.al (by omega)
  unfold f_X6_node
  rw [req_ok w hG hu, bx_eq]
  match j, hj with
  | 0, _ =>
    refine ⟨σ, ?_, CTr.rf hMo⟩
    unfold f_X6_node_40
    rw [if_pos (by decide), gi12 (by omega), nI_clamp (by omega), hG.2 u (by omega), bitCount_eq (w.bd (by omega)), bv_eq, ml_eq]
    rfl
  | 1, _ =>
    refine ⟨σ, ?_, CTr.rf hMo⟩
    unfold f_X6_node_53
    rw [if_neg (by decide), if_pos (by decide), gi12 (by omega), nI_clamp (by omega), hC u (by omega), ml_eq]
    rfl
  | 2, _ =>
    obtain ⟨τ, e, h⟩ := partOf_eq w hG hMo hu
    refine ⟨τ, ?_, h.ct⟩
    unfold f_X6_node_63
    rw [if_neg (by decide), if_neg (by decide), if_pos (by decide), e, bn_eq, ml_eq]
    rfl
  | 3, _ =>
    obtain ⟨τ, e, h⟩ := exposing_eq w hG hMo hu
    refine ⟨τ, ?_, h.ct⟩
    unfold f_X6_node_69
    rw [if_neg (by decide), if_neg (by decide), if_neg (by decide), if_pos (by decide), e, bn_eq, ml_eq]
    rfl
  | 4, _ =>
    refine ⟨σ, ?_, CTr.rf hMo⟩
    unfold f_X6_node_78
    rw [if_neg (by decide), if_neg (by decide), if_neg (by decide), if_neg (by decide), if_pos (by decide), hG.al, bv_eq, pieceOf_cmp w hG hal hu, bv_eq, numTZ_eq ((cmp_spec w hal hu).1.mono hn) (cmp_ne0 w hal hu), bv_eq, ml_eq]
    rfl
  | j + 5, hj => omega
theorem nodeNow_eq {n : Nat} {A M : Nat → Int32} {σ : WD} (w : GW n A) (hG : GR n A σ) (hC : RM M σ) (hL : LR n A σ) {u : Nat} (hu : u < n) {j : Nat} (hj : j ≤ 4) : f_X7_nodeNow (nI u) (nI j) σ = some (nqv n A M u j) := by
  have hn := w.2.1
  unfold f_X7_nodeNow
  match j, hj with
  | 0, _ => rw [if_pos (by decide), gi12 (by omega), nI_clamp (by omega), hG.2 u (by omega), bits_eq, bv_eq]; rfl
  | 1, _ => rw [if_neg (by decide), if_pos (by decide), gi12 (by omega), nI_clamp (by omega), hC u (by omega)]; rfl
  | 2, _ => rw [if_neg (by decide), if_neg (by decide), if_pos (by decide), x_partOf_eq w hG hL hu, bv_eq]; rfl
  | 3, _ => rw [if_neg (by decide), if_neg (by decide), if_neg (by decide), if_pos (by decide), x_exposing_eq w hG hL, bv_eq]; rfl
  | 4, _ => rw [if_neg (by decide), if_neg (by decide), if_neg (by decide), if_neg (by decide), x_lowest_eq w hG hu, bv_eq]; rfl
  | j + 5, hj => omega
-- edge
def eqv (n : Nat) (A M : Nat → Int32) (u v : Nat) : Nat → Int32
  | 0 => bI (bt (A u) v)
  | 1 => if M u = nI v then 1 else 0
  | _ => nI (hvq n A u v)
theorem edge_eq {n : Nat} {A M : Nat → Int32} {σ : WD} (w : GW n A) (hG : GC n A σ) (hMo : Mo n A σ) (hC : CM M σ) {u v : Nat} (hu : u < n) (hv : v < n) {j : Nat} (hj : j ≤ 2) : ∃ τ, f_X6_edge (nI u) (nI v) (nI j) σ = some (.inl (eqv n A M u v j, τ)) ∧ CTr n A σ τ := by
  have hn := w.2.1
  unfold f_X6_edge
  rw [req_ok w hG hu, bx_eq, req_ok w hG hv, bx_eq]
  match j, hj with
  | 0, _ =>
    refine ⟨σ, ?_, CTr.rf hMo⟩
    unfold f_X6_edge_36
    rw [if_pos (by decide), joined_eq hG (by omega) (by omega), bv_eq]
    show _ = some (Sum.inl (bI (bt (A u) v), σ))
    cases bt (A u) v <;> rfl
  | 1, _ =>
    refine ⟨σ, ?_, CTr.rf hMo⟩
    unfold f_X6_edge_54 f_X3_has
    rw [if_neg (by decide), if_pos (by decide), gi12 (by omega), nI_clamp (by omega), hC u (by omega)]
    show _ = some (Sum.inl ((if M u = nI v then 1 else 0), σ))
    by_cases q : M u = nI v
    · rw [if_pos q, if_pos q]; rfl
    · rw [if_neg q, if_neg q]; rfl
  | 2, _ =>
    obtain ⟨τ, e, h⟩ := having_eq w hG hMo (u := u) (v := v) hu hv
    refine ⟨τ, ?_, MZ.ct h⟩
    unfold f_X6_edge_72
    rw [if_neg (by decide), if_neg (by decide), if_pos (by decide), e, bn_eq, ml_eq]
    rfl
  | j + 3, hj => omega
theorem edgeNow_eq {n : Nat} {A M : Nat → Int32} {σ : WD} (w : GW n A) (hG : GR n A σ) (hM : MW n A M) (hC : RM M σ) (hL : LR n A σ) {u v : Nat} (hu : u < n) (hv : v < n) {j : Nat} (hj : j ≤ 2) : f_X7_edgeNow (nI u) (nI v) (nI j) σ = some (eqv n A M u v j) := by
  have hn := w.2.1
  have hmt : M u = nI v → bt (A u) v = true := fun q => by
    have q1 : M u ≠ -1 := by rw [q]; exact nI_ne_m1 (by omega)
    have q2 := (hM.mat (show u < 12 by omega) q1).2.2.2.2
    have q3 : mtn M u = v := by unfold mtn; rw [q, nI_clamp (by omega)]
    rw [q3] at q2; exact q2
  have h23 : ∀ b : Bool, b = bt (A u) v → f_X7_edgeNow_23 (nI u) (nI v) (nI j) (bI b) σ = some (eqv n A M u v j) := by
    intro b hb
    unfold f_X7_edgeNow_23
    match j, hj with
    | 0, _ => rw [if_pos (by decide), hb]; rfl
    | 1, _ =>
      rw [if_neg (by decide), if_pos (by decide), gi12 (by omega), nI_clamp (by omega), hC u (by omega)]
      show _ = some (if M u = nI v then (1 : Int32) else 0)
      cases b with
      | true =>
        rw [if_pos (show bI true = 1 from rfl)]
        split <;> rfl
      | false =>
        rw [if_neg (by decide), if_neg (fun q => by rw [hmt q] at hb; cases hb)]
    | 2, _ => rw [if_neg (by decide), if_neg (by decide), x_using_eq w hG hL hu hv, bv_eq]; rfl
    | j + 3, hj => omega
  unfold f_X7_edgeNow f_X7_edgeNow_22
  by_cases e : u = v
  · subst e
    rw [if_pos rfl]
    exact h23 false (w.2.2.2.2 u (by omega)).symm
  · rw [if_neg (fun q => e (nI_inj (by omega) (by omega) q)), gi12 (by omega), nI_clamp (by omega), hG.2 u (by omega), has_eq (by omega), bv_eq]
    cases hb : bt (A u) v
    · rw [if_pos (by decide)]; exact h23 false hb.symm
    · rw [if_neg (by decide)]; exact h23 true hb.symm
-- count
noncomputable def cqv (n : Nat) (A M : Nat → Int32) (kp : Nat) : Nat → Int32
  | 0 => nI n
  | 1 => nI (dgs A n) / 2
  | 2 => nI (szq M n)
  | 3 => nI (DS n A (al n)).1
  | 4 => nI n - 2 * nI (DS n A (al n)).1
  | 5 => nI (DS n A (al n)).2
  | 6 => nI (smn (fun u => ehi n A (nI (DS n A (al n)).2) u (n - 1 - u)) n)
  | 7 => nI (smn (fun u => ehi n A 0 u (n - 1 - u)) n)
  | 8 => if crq n A = true then 1 else 0
  | 9 => nI (pcs n A (al n) 0 n).2
  | _ => nI kp
theorem count_eq {n : Nat} {A M : Nat → Int32} {kp : Nat} {σ : WD} (w : GW n A) (hG : GC n A σ) (hMo : Mo n A σ) (hM : MW n A M) (hC : CM M σ) (hk : σ.1 7 3 = nI kp) {j : Nat} (hj : j ≤ 10) : ∃ τ, f_X6_count (nI j) σ = some (.inl (cqv n A M kp j, τ)) ∧ CTr n A σ τ := by
  have hn := w.2.1
  have hal : Bd n (al n) := Bd.al (by omega)
  unfold f_X6_count
  match j, hj with
  | 0, _ =>
    refine ⟨σ, ?_, CTr.rf hMo⟩
    unfold f_X6_count_60
    rw [if_pos (by decide), hG.1, ml_eq]; rfl
  | 1, _ =>
    refine ⟨σ, ?_, CTr.rf hMo⟩
    unfold f_X6_count_68
    rw [if_neg (by decide), if_pos (by decide), edges_eq hG w, bv_eq, ml_eq]; rfl
  | 2, _ =>
    refine ⟨σ, ?_, CTr.rf hMo⟩
    unfold f_X6_count_76
    rw [if_neg (by decide), if_neg (by decide), if_pos (by decide), size_eq w hM hC, bv_eq, ml_eq]; rfl
  | 3, _ =>
    obtain ⟨τ, e, h⟩ := number_eq w hG hMo
    refine ⟨τ, ?_, h.ct⟩
    unfold f_X6_count_84
    rw [if_neg (by decide), if_neg (by decide), if_neg (by decide), if_pos (by decide), e, bn_eq, ml_eq]; rfl
  | 4, _ =>
    obtain ⟨τ, e, h⟩ := number_eq w hG hMo
    refine ⟨τ, ?_, h.ct⟩
    unfold f_X6_count_92 f_X6_deficiency
    rw [if_neg (by decide), if_neg (by decide), if_neg (by decide), if_neg (by decide), if_pos (by decide), e, bn_eq, bn_eq, hG.1, ml_eq]; rfl
  | 5, _ =>
    obtain ⟨τ, e, h⟩ := howMany_eq w hG hMo
    refine ⟨τ, ?_, h.ct⟩
    unfold f_X6_count_97
    rw [if_neg (by decide), if_neg (by decide), if_neg (by decide), if_neg (by decide), if_neg (by decide), if_pos (by decide), e, bn_eq, ml_eq]; rfl
  | 6, _ =>
    obtain ⟨τ, e, h⟩ := howMany_eq w hG hMo
    obtain ⟨τ2, e2, h2⟩ := edgesHadBy_eq w h.2.2 h.2.1.mo (nI (DS n A (al n)).2)
    refine ⟨τ2, ?_, h.ct.tr h2.ct⟩
    unfold f_X6_count_105
    rw [if_neg (by decide), if_neg (by decide), if_neg (by decide), if_neg (by decide), if_neg (by decide), if_neg (by decide), if_pos (by decide), e, bn_eq, e2, bn_eq, ml_eq]; rfl
  | 7, _ =>
    obtain ⟨τ2, e2, h2⟩ := edgesHadBy_eq w hG hMo 0
    refine ⟨τ2, ?_, h2.ct⟩
    unfold f_X6_count_120
    rw [if_neg (by decide), if_neg (by decide), if_neg (by decide), if_neg (by decide), if_neg (by decide), if_neg (by decide), if_neg (by decide), if_pos (by decide), e2, bn_eq, ml_eq]; rfl
  | 8, _ =>
    obtain ⟨τ, e, h⟩ := isCritical_eq w hG hMo
    refine ⟨τ, ?_, h.ct⟩
    unfold f_X6_count_129
    rw [if_neg (by decide), if_neg (by decide), if_neg (by decide), if_neg (by decide), if_neg (by decide), if_neg (by decide), if_neg (by decide), if_neg (by decide), if_pos (by decide), e, bn_eq]
    show _ = some (Sum.inl ((if crq n A = true then (1 : Int32) else 0), τ))
    cases crq n A <;> rfl
  | 9, _ =>
    refine ⟨σ, ?_, CTr.rf hMo⟩
    unfold f_X6_count_145
    rw [if_neg (by decide), if_neg (by decide), if_neg (by decide), if_neg (by decide), if_neg (by decide), if_neg (by decide), if_neg (by decide), if_neg (by decide), if_neg (by decide), if_pos (by decide), hG.al, bv_eq, pieces_eq w hG hal, bv_eq, ml_eq]; rfl
  | 10, _ =>
    refine ⟨σ, ?_, CTr.rf hMo⟩
    unfold f_X6_count_161
    rw [if_neg (by decide), if_neg (by decide), if_neg (by decide), if_neg (by decide), if_neg (by decide), if_neg (by decide), if_neg (by decide), if_neg (by decide), if_neg (by decide), if_neg (by decide), if_pos (by decide), hk, ml_eq]; rfl
  | j + 11, hj => omega
theorem counted_eq {n : Nat} {A M : Nat → Int32} {kp : Nat} {σ : WD} (w : GW n A) (hG : GR n A σ) (hC : RM M σ) (hL : LR n A σ) (hk : σ.1 29 4 = nI kp) {j : Nat} (hj : j ≤ 10) : f_X7_counted (nI j) σ = some (cqv n A M kp j) := by
  have hn := w.2.1
  have hal : Bd n (al n) := Bd.al (by omega)
  have d1 : σ.1 34 (al n).toNatClampNeg = nI (DS n A (al n)).1 := (hL _ hal).1
  have d2 : σ.1 35 (al n).toNatClampNeg = nI (DS n A (al n)).2 := (hL _ hal).2
  unfold f_X7_counted
  match j, hj with
  | 0, _ => rw [if_pos (by decide), hG.1]; rfl
  | 1, _ => rw [if_neg (by decide), if_pos (by decide), edgeCount_eq hG w, bv_eq]; rfl
  | 2, _ => rw [if_neg (by decide), if_neg (by decide), if_pos (by decide), x_size_eq w hG hC, bv_eq]; rfl
  | 3, _ => rw [if_neg (by decide), if_neg (by decide), if_neg (by decide), if_pos (by decide), hG.al, bv_eq, gi_bd (hal.mono hn), d1]; rfl
  | 4, _ => rw [if_neg (by decide), if_neg (by decide), if_neg (by decide), if_neg (by decide), if_pos (by decide), hG.al, bv_eq, gi_bd (hal.mono hn), d1, hG.1]; rfl
  | 5, _ => rw [if_neg (by decide), if_neg (by decide), if_neg (by decide), if_neg (by decide), if_neg (by decide), if_pos (by decide), hG.al, bv_eq, gi_bd (hal.mono hn), d2]; rfl
  | 6, _ => rw [if_neg (by decide), if_neg (by decide), if_neg (by decide), if_neg (by decide), if_neg (by decide), if_neg (by decide), if_pos (by decide), hG.al, bv_eq, gi_bd (hal.mono hn), d2, x_edgesIn_eq w hG hL, bv_eq]; rfl
  | 7, _ => rw [if_neg (by decide), if_neg (by decide), if_neg (by decide), if_neg (by decide), if_neg (by decide), if_neg (by decide), if_neg (by decide), if_pos (by decide), x_edgesIn_eq w hG hL, bv_eq]; rfl
  | 8, _ =>
    rw [if_neg (by decide), if_neg (by decide), if_neg (by decide), if_neg (by decide), if_neg (by decide), if_neg (by decide), if_neg (by decide), if_neg (by decide), if_pos (by decide), x_isCritical_eq w hG hL, bv_eq]
    show _ = some (if crq n A = true then (1 : Int32) else 0)
    cases crq n A <;> rfl
  | 9, _ => rw [if_neg (by decide), if_neg (by decide), if_neg (by decide), if_neg (by decide), if_neg (by decide), if_neg (by decide), if_neg (by decide), if_neg (by decide), if_neg (by decide), if_pos (by decide), hG.al, bv_eq, componentsOf_eq w hG hal, bv_eq]; rfl
  | 10, _ => rw [if_neg (by decide), if_neg (by decide), if_neg (by decide), if_neg (by decide), if_neg (by decide), if_neg (by decide), if_neg (by decide), if_neg (by decide), if_neg (by decide), if_neg (by decide), hk]; rfl
  | j + 11, hj => omega
-- numbers in a range
theorem win_ok {m j : Nat} (hm : m < 2 ^ 31) (hj : j ≤ m) (σ : WD) : f_X7_within (nI j) 0 (nI m) σ = some 1 := by
  unfold f_X7_within
  rw [if_neg (nI_pos (by omega)), if_neg (nI_nlt hj hm)]
theorem win_no {m : Nat} (hm : m < 2 ^ 31) {a : Int32} (h : ¬ ∃ j, j ≤ m ∧ a = nI j) (σ : WD) : f_X7_within a 0 (nI m) σ = some 0 := by
  unfold f_X7_within
  by_cases q : a < 0
  · rw [if_pos q]
  · obtain ⟨j, hj, rfl⟩ := nI_of q
    rw [if_neg q, if_pos ((nI_lt_iff hm hj).mpr (Nat.lt_of_not_le (fun g => h ⟨j, g, rfl⟩)))]
/-- behind laySets -/
theorem lay_c0 {n : Nat} {A M : Nat → Int32} {len : Nat} {B : Nat → Int32} {kp : Nat} {H : HT} {s : WD} (w : GW n A) (hs : RPt n A M len B kp H s) : ∃ υ, f_X7_laySets (upi s 29 0 0) = some υ ∧ RTr s υ ∧ υ.1 29 0 = 0 ∧ υ.2 = s.2 ∧ LR n A υ ∧ RPt n A M len B kp H υ := by
  obtain ⟨υ, e, f, l⟩ := laySets_eq w (hs.c0 0).1
  have r := (RTr.c0 s 0).tr (RTr.fr f (by decide))
  exact ⟨υ, e, r, by rw [f.1 29 (by decide), c0_0], by rw [f.2]; rfl, l, r.rp hs⟩
