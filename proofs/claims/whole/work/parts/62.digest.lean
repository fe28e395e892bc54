-- ===== digest =====
def mxh (h : Int64) (v : Int32) : Int64 := (31 * h) + v.toInt64
def fdn (g : Nat → Int64 → Int64) : Nat → Int64 → Int64
  | 0, h => h
  | k + 1, h => g k (fdn g k h)
theorem fdn_succ (g : Nat → Int64 → Int64) (k : Nat) (h : Int64) : fdn g (k + 1) h = g k (fdn g k h) := rfl
noncomputable def hN5 (n : Nat) (A M : Nat → Int32) (u : Nat) (h : Int64) : Int64 := mxh (mxh (mxh h (fm n A u)) (rch n A M u true)) (rch n A M u false)
noncomputable def hNd (n : Nat) (A M : Nat → Int32) (u : Nat) (h : Int64) : Int64 := if M u = -1 then mxh (hN5 n A M u (fdn (fun j h => mxh h (nqv n A M u j)) 5 h)) (nI (wln n A M u)) else hN5 n A M u (fdn (fun j h => mxh h (nqv n A M u j)) 5 h)
def hPr (n : Nat) (A M : Nat → Int32) (u v : Nat) (h : Int64) : Int64 := fdn (fun j h => mxh h (eqv n A M u v j)) 3 h
def hRw (n : Nat) (A M : Nat → Int32) (u : Nat) (h : Int64) : Int64 := fdn (fun t h => hPr n A M u (u + 1 + t) h) (n - 1 - u) h
def hIn (len : Nat) (B : Nat → Int32) (h : Int64) : Int64 := fdn (fun i h => mxh h (B i)) len (mxh h (nI len))
noncomputable def hEd (n : Nat) (A M : Nat → Int32) (len : Nat) (B : Nat → Int32) (h : Int64) : Int64 := hIn len B (mxh (mxh (mxh (mxh h (pfs n A (2 ^ n)).1) (ocl n A)) (nI (dfc n M (fm n A) true n))) (nI (dfc n M (fm n A) false n)))
noncomputable def hAl (n : Nat) (A M : Nat → Int32) (len : Nat) (B : Nat → Int32) (kp : Nat) : Int64 := hEd n A M len B (fdn (hRw n A M) n (fdn (hNd n A M) n (fdn (fun j h => mxh h (cqv n A M kp j)) 11 2003)))
theorem mix_eq (h : Int64) (v : Int32) (σ : WD) : f_X6_mix h v.toInt64 σ = some (mxh h v) := rfl
theorem mixInput_eq {len : Nat} {B : Nat → Int32} {σ : WD} (hB : BCt len B σ) (hlen : len ≤ 60) (h : Int64) : f_X6_mixInput h σ = some (hIn len B h) := by
  unfold f_X6_mixInput f_X6_mixInput_16
  rw [hB.1, mix_eq, bv_eq]
  refine lp_for (fun i => (fdn (fun i h => mxh h (B i)) i (mxh h (nI len)), nI i)) (a := 0) (b := len) (Nat.zero_le _) (fun i _ hi => ?_) ?_
  · show f_X6_mixInput_b16 _ _ _ = _
    unfold f_X6_mixInput_b16
    rw [hB.1, if_neg (nI_ge hi (by omega)), gi60 (by omega), nI_clamp (by omega), hB.2 i hi, mix_eq, bv_eq, nI_1]
    rfl
  · show f_X6_mixInput_b16 _ _ _ = _
    unfold f_X6_mixInput_b16 f_X6_mixInput_50
    rw [hB.1, if_pos (nI_le (Nat.le_refl _) (by omega)), mr_eq]
    rfl
section
variable {n : Nat} {A M : Nat → Int32} {c len : Nat} {B : Nat → Int32} {kp : Nat} {H : HT}
theorem mixNode_eq {σ : WD} (w : GW n A) (hM : MW n A M) (hC : CPt n A M c len B kp H σ) {u : Nat} (hu : u < n) (h : Int64) : ∃ τ, f_X6_mixNode h (nI u) σ = some (hNd n A M u h, τ) ∧ CTr n A σ τ := by
  have hn := w.2.1
  unfold f_X6_mixNode f_X6_mixNode_6
  obtain ⟨s', ⟨τ, hs', ct⟩, el⟩ := lp_inv (f := fun s : Int64 × Int32 × WD => f_X6_mixNode_b6 (nI u) s.1 s.2.1 s.2.2) (fun i s => ∃ τ, s = (fdn (fun j h => mxh h (nqv n A M u j)) i h, nI i, τ) ∧ CTr n A σ τ) (a := 0) (b := 5) (Nat.zero_le _) (s := (h, 0, σ)) ⟨σ, rfl, CTr.rf hC.2.2.1⟩ (fun i s _ hi hs => by
    obtain ⟨τ, rfl, ct⟩ := hs
    have hp := ct.cp hC
    obtain ⟨τ2, e2, ct2⟩ := node_eq w hp.1 hp.2.2.1 hp.2.1 hu (j := i) (by omega)
    dsimp only
    unfold f_X6_mixNode_b6
    rw [if_neg (show ¬ (4 : Int32) < nI i from nI_nlt (a := 4) (by omega) (by decide)), e2, bq_eq]
    dsimp only
    rw [mix_eq, bv_eq, nI_1]
    exact ⟨_, rfl, τ2, rfl, ct.tr ct2⟩)
  rw [el, hs']
  have hp := ct.cp hC
  obtain ⟨h5, hh5⟩ : ∃ x, x = fdn (fun j h => mxh h (nqv n A M u j)) 5 h := ⟨_, rfl⟩
  have h33 : ∃ υ, f_X6_mixNode_33 (nI u) h5 τ = some (hNd n A M u h, υ) ∧ CTr n A σ υ := by
    unfold f_X6_mixNode_33 f_X6_firstMate f_X6_reach
    obtain ⟨t1, e1, c1⟩ := firstMate_eq w hp.1 hp.2.2.1 hu
    have ct1 := ct.tr c1
    have p1 := ct1.cp hC
    obtain ⟨t2, e2, c2⟩ := reach_eq w p1.1 p1.2.2.1 hM p1.2.1 hu true
    have ct2 := ct1.tr c2
    have p2 := ct2.cp hC
    obtain ⟨t3, e3, c3⟩ := reach_eq w p2.1 p2.2.2.1 hM p2.2.1 hu false
    have ct3 := ct2.tr c3
    have p3 := ct3.cp hC
    have e2' : f_X6_reach_5 (nI u) 1 t1 = some (rch n A M u true, t2) := e2
    have e3' : f_X6_reach_5 (nI u) 0 t2 = some (rch n A M u false, t3) := e3
    rw [req_ok w hp.1 hu, bx_eq, e1, ml_eq, bq_eq]
    dsimp only
    rw [mix_eq, bv_eq, req_ok w p1.1 hu, bx_eq, e2', ml_eq, bq_eq]
    dsimp only
    rw [mix_eq, bv_eq, req_ok w p2.1 hu, bx_eq, e3', ml_eq, bq_eq]
    dsimp only
    rw [mix_eq, bv_eq, isExposed_eq p3.2.1 (by omega), bv_eq]
    unfold hNd
    rw [← hh5]
    by_cases g : M u = -1
    · rw [if_pos g, if_pos g, if_neg (by decide)]
      obtain ⟨t4, e4, f4, -⟩ := findWay_eq w p3.1 hM p3.2.1 hu g
      have c4 : CTr n A t3 t4 := ⟨f4.mono (by decide), p3.2.2.1.fr f4 (by decide) (by decide) (by decide) (by decide) (by decide)⟩
      unfold f_X6_way f_X6_requireExposed f_X6_way_10
      rw [req_ok w p3.1 hu, bx_eq, isExposed_eq p3.2.1 (by omega), bv_eq, if_pos g, if_neg (by decide), bx_eq, e4, bn_eq, ml_eq, bq_eq]
      dsimp only
      rw [mix_eq, bv_eq]
      exact ⟨t4, rfl, ct3.tr c4⟩
    · rw [if_neg g, if_neg g, if_pos rfl]
      exact ⟨t3, rfl, ct3⟩
  obtain ⟨υ, e, cc⟩ := h33
  refine ⟨υ, lp_end ?_, cc⟩
  dsimp only
  unfold f_X6_mixNode_b6
  rw [if_pos (show (4 : Int32) < nI 5 by decide), ← hh5, e, mr_eq]
theorem mixPair_eq {σ : WD} (w : GW n A) (hC : CPt n A M c len B kp H σ) {u v : Nat} (hu : u < n) (hv : v < n) (h : Int64) : ∃ τ, f_X6_mixPair h (nI u) (nI v) σ = some (hPr n A M u v h, τ) ∧ CTr n A σ τ := by
  have hn := w.2.1
  unfold f_X6_mixPair f_X6_mixPair_6
  obtain ⟨s', ⟨τ, hs', ct⟩, el⟩ := lp_inv (f := fun s : Int64 × Int32 × WD => f_X6_mixPair_b6 (nI u) (nI v) s.1 s.2.1 s.2.2) (fun i s => ∃ τ, s = (fdn (fun j h => mxh h (eqv n A M u v j)) i h, nI i, τ) ∧ CTr n A σ τ) (a := 0) (b := 3) (Nat.zero_le _) (s := (h, 0, σ)) ⟨σ, rfl, CTr.rf hC.2.2.1⟩ (fun i s _ hi hs => by
    obtain ⟨τ, rfl, ct⟩ := hs
    have hp := ct.cp hC
    obtain ⟨τ2, e2, ct2⟩ := edge_eq w hp.1 hp.2.2.1 hp.2.1 hu hv (j := i) (by omega)
    dsimp only
    unfold f_X6_mixPair_b6
    rw [if_neg (show ¬ (2 : Int32) < nI i from nI_nlt (a := 2) (by omega) (by decide)), e2, bq_eq]
    dsimp only
    rw [mix_eq, bv_eq, nI_1]
    exact ⟨_, rfl, τ2, rfl, ct.tr ct2⟩)
  rw [el, hs']
  refine ⟨τ, lp_end ?_, ct⟩
  dsimp only
  unfold f_X6_mixPair_b6 f_X6_mixPair_35
  rw [if_pos (show (2 : Int32) < nI 3 by decide), mr_eq]
  rfl
theorem digest_106 {σ : WD} (w : GW n A) (hM : MW n A M) (hlen : len ≤ 60) (hC : CPt n A M c len B kp H σ) (h : Int64) : ∃ τ, f_X6_digest_106 h σ = some (hEd n A M len B h, τ) ∧ CTr n A σ τ := by
  unfold f_X6_digest_106 f_X6_difference
  obtain ⟨t1, e1, z1⟩ := proof_eq w hC.1 hC.2.2.1
  have ct1 := z1.ct
  have p1 := ct1.cp hC
  obtain ⟨t2, e2, z2⟩ := difference_eq w p1.1 p1.2.2.1 hM p1.2.1 0
  have ct2 := ct1.tr z2.ct
  have p2 := ct2.cp hC
  obtain ⟨t3, e3, z3⟩ := difference_eq w p2.1 p2.2.2.1 hM p2.2.1 1
  have ct3 := ct2.tr z3.ct
  have p3 := ct3.cp hC
  rw [e1, bn_eq, mix_eq, bv_eq, oddCycle_eq w p1.1, bv_eq, mix_eq, bv_eq, if_pos rfl, e2, ml_eq, bq_eq]
  dsimp only
  rw [mix_eq, bv_eq, if_neg (by decide), if_pos rfl, e3, ml_eq, bq_eq]
  dsimp only
  rw [mix_eq, bv_eq, mixInput_eq p3.2.2.2.2.1 hlen, bv_eq]
  exact ⟨t3, rfl, ct3⟩
theorem digest_57 {σ : WD} (w : GW n A) (hM : MW n A M) (hlen : len ≤ 60) (hC : CPt n A M c len B kp H σ) (h : Int64) : ∃ τ, f_X6_digest_57 h 0 σ = some (hEd n A M len B (fdn (hRw n A M) n h), τ) ∧ CTr n A σ τ := by
  have hn := w.2.1
  unfold f_X6_digest_57
  obtain ⟨s', ⟨τ, hs', ct⟩, el⟩ := lp_inv (f := fun s : Int64 × Int32 × WD => f_X6_digest_b57 s.1 s.2.1 s.2.2) (fun u s => ∃ τ, s = (fdn (hRw n A M) u h, nI u, τ) ∧ CTr n A σ τ) (a := 0) (b := n) (Nat.zero_le _) (s := (h, 0, σ)) ⟨σ, rfl, CTr.rf hC.2.2.1⟩ (fun u s _ hu hs => by
    obtain ⟨τ, rfl, ct⟩ := hs
    have hp := ct.cp hC
    dsimp only
    unfold f_X6_digest_b57 f_X6_digest_73
    rw [hp.1.1, if_neg (nI_ge hu (by omega)), nI_1]
    obtain ⟨s2, ⟨τ2, hs2, ct2⟩, el2⟩ := lp_inv (f := fun s : Int64 × Int32 × WD => f_X6_digest_b73 s.1 (nI u) s.2.1 s.2.2) (fun t s => ∃ τ, s = (fdn (fun t h => hPr n A M u (u + 1 + t) h) t (fdn (hRw n A M) u h), nI (u + 1 + t), τ) ∧ CTr n A σ τ) (a := 0) (b := n - 1 - u) (Nat.zero_le _) (s := (fdn (hRw n A M) u h, nI (u + 1), τ)) ⟨τ, rfl, ct⟩ (fun t s _ ht hs => by
      obtain ⟨τ, rfl, ct⟩ := hs
      have hp := ct.cp hC
      obtain ⟨τ2, e2, ct2⟩ := mixPair_eq w hp hu (show u + 1 + t < n by omega) (fdn (fun t h => hPr n A M u (u + 1 + t) h) t (fdn (hRw n A M) u h))
      dsimp only
      unfold f_X6_digest_b73
      rw [hp.1.1, if_neg (nI_ge (show u + 1 + t < n by omega) (by omega)), e2, bn_eq, nI_1]
      exact ⟨_, rfl, τ2, rfl, ct.tr ct2⟩)
    rw [el2]
    refine ⟨_, lp_end (r := Sum.inl (fdn (hRw n A M) (u + 1) h, nI (u + 1), τ2)) ?_, τ2, rfl, ct2⟩
    rw [hs2]
    dsimp only
    unfold f_X6_digest_b73
    rw [(ct2.cp hC).1.1, if_pos (nI_le (show n ≤ u + 1 + (n - 1 - u) by omega) (by omega)), nI_1]
    rfl)
  rw [el, hs']
  obtain ⟨υ, e, cc⟩ := digest_106 w hM hlen (ct.cp hC) (fdn (hRw n A M) n h)
  refine ⟨υ, lp_end ?_, ct.tr cc⟩
  dsimp only
  unfold f_X6_digest_b57
  rw [(ct.cp hC).1.1, if_pos (nI_le (Nat.le_refl n) (by omega)), e, mr_eq]
theorem digest_31 {σ : WD} (w : GW n A) (hM : MW n A M) (hlen : len ≤ 60) (hC : CPt n A M c len B kp H σ) (h : Int64) : ∃ τ, f_X6_digest_31 h 0 σ = some (hEd n A M len B (fdn (hRw n A M) n (fdn (hNd n A M) n h)), τ) ∧ CTr n A σ τ := by
  have hn := w.2.1
  unfold f_X6_digest_31
  obtain ⟨s', ⟨τ, hs', ct⟩, el⟩ := lp_inv (f := fun s : Int64 × Int32 × WD => f_X6_digest_b31 s.1 s.2.1 s.2.2) (fun u s => ∃ τ, s = (fdn (hNd n A M) u h, nI u, τ) ∧ CTr n A σ τ) (a := 0) (b := n) (Nat.zero_le _) (s := (h, 0, σ)) ⟨σ, rfl, CTr.rf hC.2.2.1⟩ (fun u s _ hu hs => by
    obtain ⟨τ, rfl, ct⟩ := hs
    have hp := ct.cp hC
    obtain ⟨τ2, e2, ct2⟩ := mixNode_eq w hM hp hu (fdn (hNd n A M) u h)
    dsimp only
    unfold f_X6_digest_b31
    rw [hp.1.1, if_neg (nI_ge hu (by omega)), e2, bn_eq, nI_1]
    exact ⟨_, rfl, τ2, rfl, ct.tr ct2⟩)
  rw [el, hs']
  obtain ⟨υ, e, cc⟩ := digest_57 w hM hlen (ct.cp hC) (fdn (hNd n A M) n h)
  refine ⟨υ, lp_end ?_, ct.tr cc⟩
  dsimp only
  unfold f_X6_digest_b31
  rw [(ct.cp hC).1.1, if_pos (nI_le (Nat.le_refl n) (by omega)), e, mr_eq]
theorem digest_eq {σ : WD} (w : GW n A) (hM : MW n A M) (hlen : len ≤ 60) (hC : CPt n A M c len B kp H σ) : ∃ τ, f_X6_digest σ = some (hAl n A M len B kp, τ) ∧ CTr n A σ τ := by
  have hn := w.2.1
  unfold f_X6_digest f_X6_digest_6
  obtain ⟨s', ⟨τ, hs', ct⟩, el⟩ := lp_inv (f := fun s : Int64 × Int32 × WD => f_X6_digest_b6 s.1 s.2.1 s.2.2) (fun j s => ∃ τ, s = (fdn (fun j h => mxh h (cqv n A M kp j)) j 2003, nI j, τ) ∧ CTr n A σ τ) (a := 0) (b := 11) (Nat.zero_le _) (s := (2003, 0, σ)) ⟨σ, rfl, CTr.rf hC.2.2.1⟩ (fun j s _ hj hs => by
    obtain ⟨τ, rfl, ct⟩ := hs
    have hp := ct.cp hC
    obtain ⟨τ2, e2, ct2⟩ := count_eq w hp.1 hp.2.2.1 hM hp.2.1 hp.2.2.2.2.2.1 (j := j) (by omega)
    dsimp only
    unfold f_X6_digest_b6
    rw [if_neg (show ¬ (10 : Int32) < nI j from nI_nlt (a := 10) (by omega) (by decide)), e2, bq_eq]
    dsimp only
    rw [mix_eq, bv_eq, nI_1]
    exact ⟨_, rfl, τ2, rfl, ct.tr ct2⟩)
  rw [el, hs']
  obtain ⟨υ, e, cc⟩ := digest_31 w hM hlen (ct.cp hC) (fdn (fun j h => mxh h (cqv n A M kp j)) 11 2003)
  refine ⟨υ, lp_end ?_, ct.tr cc⟩
  dsimp only
  unfold f_X6_digest_b6
  rw [if_pos (show (10 : Int32) < nI 11 by decide), e, mr_eq]
  rfl
-- the reference
def RWd (n : Nat) (A M : Nat → Int32) (len : Nat) (B : Nat → Int32) (kp : Nat) (H : HT) (s : WD) (h : Int64) (σ : WD) : Prop := RPt n A M len B kp H σ ∧ LR n A σ ∧ (∀ i, i < n → σ.1 36 i = fm n A i) ∧ SameC s σ ∧ σ.2.1 = h
theorem RWd.mix {s σ : WD} {h : Int64} (r : RWd n A M len B kp H s h σ) (v : Int32) : ∃ τ, f_X7_mix v.toInt64 σ = some τ ∧ RWd n A M len B kp H s (mxh h v) τ ∧ τ.1 = σ.1 := by
  obtain ⟨r1, r2, r3, r4, r5⟩ := r
  refine ⟨uph σ ((31 * σ.2.1) + v.toInt64), rfl, ⟨r1.same (fun _ _ => rfl), r2, r3, r4, ?_⟩, rfl⟩
  show (31 * σ.2.1) + v.toInt64 = mxh h v
  rw [r5]; rfl
theorem RWd.hf {s σ τ : WD} {h : Int64} (r : RWd n A M len B kp H s h σ) (f : HF σ τ) : RWd n A M len B kp H s h τ := by
  obtain ⟨r1, r2, r3, r4, r5⟩ := r
  exact ⟨(RTr.hf f).rp r1, r2.fr f.1 (by decide) (by decide), fun i hi => by rw [f.1.1 36 (by decide)]; exact r3 i hi, r4.tr (RTr.hf f).sc, by rw [f.1.2]; exact r5⟩
theorem x_mixNode_eq {s σ : WD} {h : Int64} (w : GW n A) (hM : MW n A M) (r : RWd n A M len B kp H s h σ) {u : Nat} (hu : u < n) : ∃ τ, f_X7_mixNode (nI u) σ = some τ ∧ RWd n A M len B kp H s (hNd n A M u h) τ := by
  have hn := w.2.1
  unfold f_X7_mixNode f_X7_mixNode_2
  obtain ⟨s', ⟨τ, hs', r5⟩, el⟩ := lp_inv (f := fun s : Int32 × WD => f_X7_mixNode_b2 (nI u) s.1 s.2) (fun i t => ∃ τ, t = (nI i, τ) ∧ RWd n A M len B kp H s (fdn (fun j h => mxh h (nqv n A M u j)) i h) τ) (a := 0) (b := 5) (Nat.zero_le _) (s := (0, σ)) ⟨σ, rfl, r⟩ (fun i t _ hi ht => by
    obtain ⟨τ, rfl, rr⟩ := ht
    obtain ⟨τ2, e2, r2, -⟩ := rr.mix (nqv n A M u i)
    dsimp only
    unfold f_X7_mixNode_b2
    rw [if_neg (show ¬ (5 : Int32) ≤ nI i from nI_ge (b := 5) hi (by decide)), nodeNow_eq w rr.1.1 rr.1.2.1 rr.2.1 hu (by omega), bv_eq, e2, bv_eq, nI_1]
    exact ⟨_, rfl, τ2, rfl, r2⟩)
  rw [el, hs']
  obtain ⟨h5, hh5⟩ : ∃ x, x = fdn (fun j h => mxh h (nqv n A M u j)) 5 h := ⟨_, rfl⟩
  rw [← hh5] at r5
  have h24 : ∃ υ, f_X7_mixNode_24 (nI u) τ = some υ ∧ RWd n A M len B kp H s (hNd n A M u h) υ := by
    unfold f_X7_mixNode_24
    obtain ⟨t1, e1, r1, -⟩ := r5.mix (fm n A u)
    obtain ⟨t2, e2, f2, o1, o2⟩ := x_reach_eq w r1.1.1 hM r1.1.2.1 hu
    have r2 := r1.hf f2
    obtain ⟨t3, e3, r3, q3⟩ := r2.mix (rch n A M u true)
    obtain ⟨t4, e4, r4, q4⟩ := r3.mix (rch n A M u false)
    have e13 : t3.1 29 13 = rch n A M u false := by rw [q3]; exact o1
    rw [gi12 (by omega), nI_clamp (by omega), r5.2.2.1 u hu, e1, bv_eq, e2, bv_eq, o2, e3, bv_eq, e13, e4, bv_eq, gi12 (by omega), r4.1.2.1 u (by omega)]
    unfold hNd
    rw [← hh5]
    by_cases g : M u = -1
    · rw [if_pos g, if_pos g]
      obtain ⟨t5, e5, f5, -⟩ := layWay_eq w r4.1.1 hM r4.1.2.1 hu g
      obtain ⟨t6, e6, r6, -⟩ := (r4.hf f5).mix (nI (wln n A M u))
      rw [e5, bn_eq, e6, bv_eq]
      exact ⟨t6, rfl, r6⟩
    · rw [if_neg g, if_neg g]
      exact ⟨t4, rfl, r4⟩
  obtain ⟨υ, e, rr⟩ := h24
  refine ⟨υ, lp_end ?_, rr⟩
  dsimp only
  unfold f_X7_mixNode_b2
  rw [if_pos (show (5 : Int32) ≤ nI 5 by decide), e, mr_eq]
theorem x_mixPairs_eq {s σ : WD} {h : Int64} (w : GW n A) (hM : MW n A M) (r : RWd n A M len B kp H s h σ) : ∃ τ, f_X7_mixPairs σ = some τ ∧ RWd n A M len B kp H s (fdn (hRw n A M) n h) τ := by
  have hn := w.2.1
  unfold f_X7_mixPairs f_X7_mixPairs_2
  obtain ⟨s', ⟨τ, hs', rr⟩, el⟩ := lp_inv (f := fun s : Int32 × WD => f_X7_mixPairs_b2 s.1 s.2) (fun u t => ∃ τ, t = (nI u, τ) ∧ RWd n A M len B kp H s (fdn (hRw n A M) u h) τ) (a := 0) (b := n) (Nat.zero_le _) (s := (0, σ)) ⟨σ, rfl, r⟩ (fun u t _ hu ht => by
    obtain ⟨τ, rfl, r1⟩ := ht
    dsimp only
    unfold f_X7_mixPairs_b2 f_X7_mixPairs_14
    rw [r1.1.1.1, if_neg (nI_ge hu (by omega)), nI_1]
    obtain ⟨s2, ⟨τ2, hs2, r2⟩, el2⟩ := lp_inv (f := fun s : Int32 × WD => f_X7_mixPairs_b14 (nI u) s.1 s.2) (fun t q => ∃ τ, q = (nI (u + 1 + t), τ) ∧ RWd n A M len B kp H s (fdn (fun t h => hPr n A M u (u + 1 + t) h) t (fdn (hRw n A M) u h)) τ) (a := 0) (b := n - 1 - u) (Nat.zero_le _) (s := (nI (u + 1), τ)) ⟨τ, rfl, r1⟩ (fun t q _ ht hq => by
      obtain ⟨τ, rfl, r2⟩ := hq
      dsimp only
      unfold f_X7_mixPairs_b14 f_X7_mixPairs_24
      rw [r2.1.1.1, if_neg (nI_ge (show u + 1 + t < n by omega) (by omega))]
      obtain ⟨s3, ⟨τ3, hs3, r3⟩, el3⟩ := lp_inv (f := fun s : Int32 × WD => f_X7_mixPairs_b24 (nI u) (nI (u + 1 + t)) s.1 s.2) (fun j q => ∃ τ, q = (nI j, τ) ∧ RWd n A M len B kp H s (fdn (fun j h => mxh h (eqv n A M u (u + 1 + t) j)) j (fdn (fun t h => hPr n A M u (u + 1 + t) h) t (fdn (hRw n A M) u h))) τ) (a := 0) (b := 3) (Nat.zero_le _) (s := (0, τ)) ⟨τ, rfl, r2⟩ (fun j q _ hj hq => by
        obtain ⟨τ, rfl, r3⟩ := hq
        obtain ⟨τ4, e4, r4, -⟩ := r3.mix (eqv n A M u (u + 1 + t) j)
        dsimp only
        unfold f_X7_mixPairs_b24
        rw [if_neg (show ¬ (3 : Int32) ≤ nI j from nI_ge (b := 3) hj (by decide)), edgeNow_eq w r3.1.1 hM r3.1.2.1 r3.2.1 hu (show u + 1 + t < n by omega) (by omega), bv_eq, e4, bv_eq, nI_1]
        exact ⟨_, rfl, τ4, rfl, r4⟩)
      have el3' : lp (fun s : Int32 × WD => f_X7_mixPairs_b24 (nI u) (nI (u + 1 + t)) s.1 s.2) (0, τ) = lp (fun s : Int32 × WD => f_X7_mixPairs_b24 (nI u) (nI (u + 1 + t)) s.1 s.2) s3 := el3
      rw [el3']
      refine ⟨(nI (u + 1 + (t + 1)), τ3), lp_end ?_, τ3, rfl, r3⟩
      rw [hs3]
      dsimp only
      unfold f_X7_mixPairs_b24
      rw [if_pos (show (3 : Int32) ≤ nI 3 by decide), nI_1]
      rfl)
    rw [el2]
    refine ⟨(nI (u + 1), τ2), lp_end ?_, τ2, rfl, r2⟩
    rw [hs2]
    dsimp only
    unfold f_X7_mixPairs_b14
    rw [r2.1.1.1, if_pos (nI_le (show n ≤ u + 1 + (n - 1 - u) by omega) (by omega)), nI_1])
  rw [el, hs']
  refine ⟨τ, lp_end ?_, rr⟩
  dsimp only
  unfold f_X7_mixPairs_b2
  rw [rr.1.1.1, if_pos (nI_le (Nat.le_refl n) (by omega))]
theorem x_digest_65 {s σ : WD} {h : Int64} (w : GW n A) (hM : MW n A M) (hlen : len ≤ 60) (r : RWd n A M len B kp H s h σ) : ∃ τ, f_X7_digest_65 σ = some (hEd n A M len B (fdn (hRw n A M) n h), τ) ∧ SameC s τ ∧ RPt n A M len B kp H τ := by
  unfold f_X7_digest_65
  obtain ⟨t0, e0, r0⟩ := x_mixPairs_eq w hM r
  obtain ⟨t1, e1, r1, -⟩ := r0.mix (pfs n A (2 ^ n)).1
  obtain ⟨t2, e2, r2, -⟩ := r1.mix (ocl n A)
  obtain ⟨t3, e3, r3, -⟩ := r2.mix (nI (dfc n M (fm n A) true n))
  obtain ⟨t4, e4, r4, -⟩ := r3.mix (nI (dfc n M (fm n A) false n))
  obtain ⟨t5, e5, r5, -⟩ := r4.mix (nI len)
  have d0 : f_X7_differenceNow 0 t2 = some (nI (dfc n M (fm n A) true n)) := x_difference_eq w r2.1.1 hM (fm_mw w) r2.1.2.1 r2.2.2.1 0
  have d1 : f_X7_differenceNow 1 t3 = some (nI (dfc n M (fm n A) false n)) := x_difference_eq w r3.1.1 hM (fm_mw w) r3.1.2.1 r3.2.2.1 1
  rw [e0, bv_eq, x_proofNow_eq w r0.1.1 r0.2.1, bv_eq, e1, bv_eq, x_oddCycle_eq w r1.1.1, bv_eq, e2, bv_eq, d0, bv_eq, e3, bv_eq, d1, bv_eq, e4, bv_eq, r4.1.2.2.1.1, e5, bv_eq]
  unfold f_X7_digest_118
  obtain ⟨s', ⟨τ, hs', rr⟩, el⟩ := lp_inv (f := fun s : Int32 × WD => f_X7_digest_b118 s.1 s.2) (fun i q => ∃ τ, q = (nI i, τ) ∧ RWd n A M len B kp H s (fdn (fun i h => mxh h (B i)) i (mxh (mxh (mxh (mxh (mxh (fdn (hRw n A M) n h) (pfs n A (2 ^ n)).1) (ocl n A)) (nI (dfc n M (fm n A) true n))) (nI (dfc n M (fm n A) false n))) (nI len))) τ) (a := 0) (b := len) (Nat.zero_le _) (s := (0, t5)) ⟨t5, rfl, r5⟩ (fun i q _ hi hq => by
    obtain ⟨τ, rfl, rr⟩ := hq
    obtain ⟨τ2, e2, r2, -⟩ := rr.mix (B i)
    dsimp only
    unfold f_X7_digest_b118
    rw [rr.1.2.2.1.1, if_neg (nI_ge hi (by omega)), gi60 (by omega), nI_clamp (by omega), rr.1.2.2.1.2 i hi, e2, bv_eq, nI_1]
    exact ⟨_, rfl, τ2, rfl, r2⟩)
  rw [el, hs']
  refine ⟨τ, lp_end ?_, rr.2.2.2.1, rr.1⟩
  dsimp only
  unfold f_X7_digest_b118 f_X7_digest_143
  rw [rr.1.2.2.1.1, if_pos (nI_le (Nat.le_refl len) (by omega)), mr_eq, rr.2.2.2.2]
  rfl
theorem x_digest_eq {s : WD} (w : GW n A) (hM : MW n A M) (hlen : len ≤ 60) (hs : RPt n A M len B kp H s) : ∃ τ, f_X7_digest s = some (hAl n A M len B kp, τ) ∧ SameC s τ ∧ RPt n A M len B kp H τ := by
  have hn := w.2.1
  unfold f_X7_digest
  rw [lt_eq, lt_eq]
  obtain ⟨s1, e1⟩ : ∃ t, t = uph (upi s 29 0 0) 2003 := ⟨_, rfl⟩
  rw [← e1]
  have q1 : s1.1 = (upi s 29 0 0).1 := by rw [e1]; rfl
  have p1 : RPt n A M len B kp H s1 := (hs.c0 0).same (fun c _ => by rw [q1])
  have sc1 : SameC s s1 := fun c hc => by rw [q1]; exact SameC.c0 s 0 c hc
  have h1 : s1.2.1 = 2003 := by rw [e1]; rfl
  obtain ⟨s2, e2, f2, l2⟩ := laySets_eq w p1.1
  have p2 := (RTr.fr f2 (by decide)).rp p1
  obtain ⟨s3, e3, f3, c3⟩ := layFirst_eq w p2.1 l2
  have r3 : RWd n A M len B kp H s 2003 s3 := ⟨(RTr.fr f3 (by decide)).rp p2, l2.fr f3 (by decide) (by decide), c3, sc1.tr ((f2.sc (by decide)).tr (f3.sc (by decide))), by rw [f3.2, f2.2]; exact h1⟩
  rw [e2, bv_eq, e3, bv_eq]
  unfold f_X7_digest_22
  obtain ⟨s', ⟨τ, hs', rr⟩, el⟩ := lp_inv (f := fun s : Int32 × WD => f_X7_digest_b22 s.1 s.2) (fun j q => ∃ τ, q = (nI j, τ) ∧ RWd n A M len B kp H s (fdn (fun j h => mxh h (cqv n A M kp j)) j 2003) τ) (a := 0) (b := 11) (Nat.zero_le _) (s := (0, s3)) ⟨s3, rfl, r3⟩ (fun j q _ hj hq => by
    obtain ⟨τ, rfl, rr⟩ := hq
    obtain ⟨τ2, e2, r2, -⟩ := rr.mix (cqv n A M kp j)
    dsimp only
    unfold f_X7_digest_b22
    rw [if_neg (show ¬ (11 : Int32) ≤ nI j from nI_ge (b := 11) hj (by decide)), counted_eq w rr.1.1 rr.1.2.1 rr.2.1 rr.1.2.2.2.1 (by omega), bv_eq, e2, bv_eq, nI_1]
    exact ⟨_, rfl, τ2, rfl, r2⟩)
  rw [el, hs']
  have h46 : ∃ υ, f_X7_digest_46 0 τ = some (hAl n A M len B kp, υ) ∧ SameC s υ ∧ RPt n A M len B kp H υ := by
    unfold f_X7_digest_46
    obtain ⟨s'', ⟨τ2, hs'', r2⟩, el2⟩ := lp_inv (f := fun s : Int32 × WD => f_X7_digest_b46 s.1 s.2) (fun u q => ∃ τ, q = (nI u, τ) ∧ RWd n A M len B kp H s (fdn (hNd n A M) u (fdn (fun j h => mxh h (cqv n A M kp j)) 11 2003)) τ) (a := 0) (b := n) (Nat.zero_le _) (s := (0, τ)) ⟨τ, rfl, rr⟩ (fun u q _ hu hq => by
      obtain ⟨τ, rfl, r1⟩ := hq
      obtain ⟨τ2, e2, r2⟩ := x_mixNode_eq w hM r1 hu
      dsimp only
      unfold f_X7_digest_b46
      rw [r1.1.1.1, if_neg (nI_ge hu (by omega)), e2, bv_eq, nI_1]
      exact ⟨_, rfl, τ2, rfl, r2⟩)
    rw [el2, hs'']
    obtain ⟨υ, e5, sc5, p5⟩ := x_digest_65 w hM hlen r2
    refine ⟨υ, lp_end ?_, sc5, p5⟩
    dsimp only
    unfold f_X7_digest_b46
    rw [r2.1.1.1, if_pos (nI_le (Nat.le_refl n) (by omega)), e5, mr_eq]
    rfl
  obtain ⟨υ, e6, sc6, p6⟩ := h46
  refine ⟨υ, lp_end ?_, sc6, p6⟩
  dsimp only
  unfold f_X7_digest_b22
  rw [if_pos (show (11 : Int32) ≤ nI 11 by decide), e6, mr_eq]
end
theorem case_digest {k : Nat} {σ : WD} (I : Ivt k σ) (l : Int32) : ∃ υ, bn (f_X6_digest σ) (fun r σr => bn (f_X7_digest σr) (fun r2 σ2 => if (lg_cmp r r2) = 0 then some (Sum.inl (l, σ2) : (Int32 × WD) ⊕ Unit) else none)) = some (.inl (l, υ)) ∧ Ivt (k + 1) υ := by
  obtain ⟨n, A, M, c, len, B, kp, H, ⟨w, hM, hlen, hv⟩, hc, hC, hR⟩ := I
  obtain ⟨τ, e, ct⟩ := digest_eq w hM hlen hC
  obtain ⟨υ, e2, sc, p2⟩ := x_digest_eq w hM hlen (hR.same ct.sr)
  refine ⟨υ, ?_, n, A, M, c, len, B, kp, H, ⟨w, hM, hlen, hv⟩, by omega, (ct.cp hC).same sc, p2⟩
  rw [e, bn_eq, e2, bn_eq, if_pos ((lg_cmp_eq _ _).mpr rfl)]
