-- ===== takeFirst, undo =====
/-- how many edges of F, from the first t nodes on, are not in M -/
def tfc (M F : Nat → Int32) : Nat → Nat
  | 0 => 0
  | t + 1 => tfc M F t + if nI t < F t ∧ M t ≠ F t then 1 else 0
theorem tfc_succ (M F : Nat → Int32) (t : Nat) : tfc M F (t + 1) = tfc M F t + if nI t < F t ∧ M t ≠ F t then 1 else 0 := rfl
theorem i_le_of {a b : Int32} (h : ¬ b < a) : a ≤ b := Classical.not_not.mp (fun r => h (i_not_le.mp r))
theorem FQ.ct {n : Nat} {A : Nat → Int32} {σ τ : WD} (h : FQ n A σ τ) : CTr n A σ τ := ⟨h.1.mono (by decide), h.2.1⟩
theorem case_takeFirst {k : Nat} {σ : WD} (I : Ivt k σ) (l : Int32) : ∃ υ, bn (f_X6_takeFirst σ) (fun r σr => bn (f_X7_takeFirst σr) (fun r2 σ2 => if r = r2 then some (Sum.inl (l, σ2) : (Int32 × WD) ⊕ Unit) else none)) = some (.inl (l, υ)) ∧ Ivt (k + 1) υ := by
  obtain ⟨n, A, M, c, len, B, kp, H, ⟨w, hM, hlen, hv⟩, hc, hC, hR⟩ := I
  have hn := w.2.1
  have hF := fm_mw w
  have hcl : ∃ τ, f_X6_takeFirst σ = some (nI (tfc M (fm n A) n), τ) ∧ SameR σ τ ∧ CPt n A (fm n A) c len B (min (kp + 1) 4) (psh (A, M) H) τ := by
    unfold f_X6_takeFirst
    obtain ⟨σ1, e1, s1, p1⟩ := hC.save hv.1
    obtain ⟨σ2, e2, f2⟩ := first_eq w p1.1 p1.2.2.1
    have p2 := f2.ct.cp p1
    rw [e1, bv_eq, e2, bv_eq]
    have hM2 : CM (fm n A) (ups σ2 4 (va_cpy (σ2.1 26) (σ2.1 4) 0 0 12)) := fun i hi => by
      rw [ups_get, if_pos rfl, sb_cpy0 hi]; exact f2.2.2.2 i hi
    have f3 : Fr [4] σ2 (ups σ2 4 (va_cpy (σ2.1 26) (σ2.1 4) 0 0 12)) := (Fr.rf _ _).ups (by decide) _
    refine ⟨ups σ2 4 (va_cpy (σ2.1 26) (σ2.1 4) 0 0 12), ?_, s1.tr (f2.ct.sr.tr (f3.sr (by decide))), p2.mate (f3.mono (by decide)) hM2⟩
    unfold f_X6_takeFirst_27
    refine lp_for (fun i => (nI (tfc M (fm n A) i), nI i)) (a := 0) (b := n) (Nat.zero_le _) (fun i _ hi => ?_) ?_
    · show f_X6_takeFirst_b27 _ _ _ = _
      unfold f_X6_takeFirst_b27 f_X3_has
      rw [p2.1.1, if_neg (nI_ge hi (by omega)), gi12 (by omega), nI_clamp (by omega), f2.2.2.2 i (by omega), li_eq, gi12 (by omega), p2.2.1 i (by omega), tfc_succ]
      by_cases q : nI i < fm n A i
      · rw [if_neg (i_not_le.mpr q)]
        by_cases q2 : M i = fm n A i
        · rw [if_pos q2, bv_eq, if_neg (by decide), if_neg (fun g => g.2 q2), nI_1]; rfl
        · rw [if_neg q2, bv_eq, if_pos rfl, if_pos ⟨q, q2⟩, nI_1, nI_1]
      · rw [if_pos (i_le_of q), if_neg (fun g => q g.1), nI_1]; rfl
    · show f_X6_takeFirst_b27 _ _ _ = _
      unfold f_X6_takeFirst_b27 f_X6_takeFirst_74 f_X3_copyFrom_f
      rw [p2.1.1, if_pos (nI_le (Nat.le_refl n) (by omega)), lt_eq, bv_eq, mr_eq]
  obtain ⟨τ, e, hs, hC'⟩ := hcl
  refine ok_dir e hs hC' hR (fun s hs => ?_) ⟨w, hF, hlen, hv.push w hM⟩ (by omega) l
  obtain ⟨t1, e1, sc1, d1, z1, p1⟩ := (hs.c0 0).keep hv.1
  obtain ⟨t2, e2, f2, lr2⟩ := laySets_eq w p1.1
  have g2 := p1.1.fr f2 (by decide) (by decide)
  obtain ⟨t3, e3, f3, c3⟩ := layFirst_eq w g2 lr2
  have f23 : Fr [34, 35, 36] t1 t3 := (f2.mono (by decide)).tr (f3.mono (by decide))
  have p3 : RPt n A M len B (min (kp + 1) 4) (psh (A, M) H) t3 := (RTr.fr f23 (by decide)).rp p1
  unfold f_X7_takeFirst
  rw [lt_eq, e1, bv_eq, e2, bv_eq, e3, bv_eq]
  -- the copy
  have hcp : ∀ cnt, ∃ υ, f_X7_takeFirst_70 cnt 0 t3 = some (cnt, υ) ∧ Fr [31] t3 υ ∧ RM (fm n A) υ := by
    intro cnt
    unfold f_X7_takeFirst_70
    obtain ⟨s', ⟨τ, hs', hf, hr⟩, el⟩ := lp_inv (f := fun s : Int32 × WD => f_X7_takeFirst_b70 cnt s.1 s.2) (fun i s => ∃ τ, s = (nI i, τ) ∧ Fr [31] t3 τ ∧ ∀ j, j < 12 → τ.1 31 j = if j < i then fm n A j else M j) (a := 0) (b := n) (Nat.zero_le _) (s := (0, t3)) ⟨t3, rfl, Fr.rf _ _, fun j hj => by rw [if_neg (by omega)]; exact p3.2.1 j hj⟩ (fun i s _ hi hs => by
      obtain ⟨τ, rfl, hf, hr⟩ := hs
      have gt := p3.1.fr hf (by decide) (by decide)
      dsimp only
      unfold f_X7_takeFirst_b70
      rw [gt.1, if_neg (nI_ge hi (by omega)), gi12 (by omega), gi12 (by omega), nI_clamp (by omega), hf.1 36 (by decide), c3 i hi, lt_eq, nI_1]
      refine ⟨_, rfl, _, rfl, hf.upi (by decide) _ _, fun j hj => ?_⟩
      rw [upi_get, if_pos rfl, upd_get]
      by_cases q : j = i
      · rw [if_pos q, if_pos (by omega), q]
      · rw [if_neg q, hr j hj]
        by_cases q2 : j < i
        · rw [if_pos q2, if_pos (by omega)]
        · rw [if_neg q2, if_neg (by omega)])
    rw [el, hs']
    refine ⟨τ, lp_end ?_, hf, fun j hj => ?_⟩
    · dsimp only
      unfold f_X7_takeFirst_b70
      rw [(p3.1.fr hf (by decide) (by decide)).1, if_pos (nI_le (Nat.le_refl n) (by omega))]
    · rw [hr j hj]
      by_cases q : j < n
      · rw [if_pos q]
      · rw [if_neg q, hM.out hj (by omega), hF.out hj (by omega)]
  obtain ⟨υ, e4, f4, c4⟩ := hcp (nI (tfc M (fm n A) n))
  refine ⟨υ, ?_, ?_, by rw [f4.2, f23.2, d1]; rfl, (SameC.c0 s 0).tr (sc1.tr ((f23.sc (by decide)).tr (f4.sc (by decide)))), p3.mate (HM.of f4) c4⟩
  · unfold f_X7_takeFirst_21
    refine lp_for (fun i => (nI (tfc M (fm n A) i), nI i)) (a := 0) (b := n) (Nat.zero_le _) (fun i _ hi => ?_) ?_
    · show f_X7_takeFirst_b21 _ _ _ = _
      unfold f_X7_takeFirst_b21
      rw [p3.1.1, if_neg (nI_ge hi (by omega)), gi12 (by omega), nI_clamp (by omega), c3 i hi, gi12 (by omega), gi12 (by omega), p3.2.1 i (by omega), tfc_succ]
      by_cases q : nI i < fm n A i
      · rw [if_neg (i_not_le.mpr q)]
        by_cases q2 : M i = fm n A i
        · rw [if_pos q2, if_neg (fun g => g.2 q2), nI_1, Int32.add_zero]; rfl
        · rw [if_neg q2, if_pos ⟨q, q2⟩, nI_1, nI_1]
      · rw [if_pos (i_le_of q), if_neg (fun g => q g.1), nI_1, Int32.add_zero]; rfl
    · show f_X7_takeFirst_b21 _ _ _ = _
      unfold f_X7_takeFirst_b21
      rw [p3.1.1, if_pos (nI_le (Nat.le_refl n) (by omega)), e4, mr_eq]
  · rw [f4.1 29 (by decide), f23.1 29 (by decide), z1, c0_0]
theorem case_undo {k : Nat} {σ : WD} (hk : k < 512) (I : Ivt k σ) : Okr (f_X6_undo σ) 2 2 (fun s => f_X7_undo s) k σ := by
  have I0 := I
  obtain ⟨n, A, M, c, len, B, kp, H, ⟨w, hM, hlen, hv⟩, hc, hC, hR⟩ := I
  have hn := w.2.1
  have hkp := hv.1
  unfold f_X6_undo
  have h73 := hC.2.2.2.2.2.1
  have h294 := hR.2.2.2.1
  rw [h73]
  by_cases q : kp = 0
  · subst q
    rw [if_pos (show nI 0 = 0 from rfl)]
    refine ok_thr (b := 0) (c := 1) I0 rfl (Or.inl ⟨rfl, rfl⟩) ?_
    show f_X7_undo σ = _
    unfold f_X7_undo f_X7_undo_13
    rw [h294, if_pos (show nI 0 ≤ 0 from by decide), lt_eq, c0_0, if_neg nle1]
  · obtain ⟨p, rfl⟩ : ∃ p, kp = p + 1 := ⟨kp - 1, by omega⟩
    rw [if_neg (nI_ne0 (by omega) (by omega))]
    obtain ⟨h1, h2, h3, h4, h5, h6⟩ := hC
    obtain ⟨w0, m0⟩ := hv.2 0 (by omega)
    have hcl : ∃ τ, f_X6_undo_20 σ = some (nI p, τ) ∧ SameR σ τ ∧ CPt n (H 0).1 (H 0).2 (c + 1) len B p (fun j => H (j + 1)) τ := by
      unfold f_X6_undo_20
      obtain ⟨τ, e, f, n1, c1, a1, b1, hh⟩ := restore_eq h4 h1.1 (by omega) h6
      rw [e, bv_eq, hh.1]
      exact ⟨τ, rfl, f.sr (by decide), ⟨n1, a1⟩, b1, h3.bump h4 (by omega) (by rw [f.1 22 (by decide)]) c1, c1, ⟨by rw [f.1 5 (by decide)]; exact h5.1, fun i hi => by rw [f.1 6 (by decide)]; exact h5.2 i hi⟩, hh⟩
    obtain ⟨τ, e, hs, hC'⟩ := hcl
    rw [e, ml_eq]
    refine ok_ret rfl hs hC' hR (fun s hs => ?_) ⟨w0, m0, hlen, by omega, fun j hj => hv.2 (j + 1) (by omega)⟩ (by omega)
    obtain ⟨g1, g2, g3, g4⟩ := hs
    show ∃ υ, f_X7_undo s = _ ∧ _
    unfold f_X7_undo f_X7_undo_13
    have z4 : (upi s 29 0 0).1 29 4 = nI (p + 1) := by rw [upi_get, if_pos rfl, upd_get, if_neg (by decide)]; exact g4.1
    rw [g4.1, if_neg (nI_nle (by omega) (by omega)), lt_eq, c0_0, if_pos le0, z4, nI_pred, lt_eq]
    obtain ⟨s1, e1⟩ : ∃ t, t = upi (upi s 29 0 0) 29 4 (nI p) := ⟨_, rfl⟩
    rw [← e1]
    have f1 : Fr [29] s s1 := by rw [e1]; exact ((Fr.rf _ _).upi (by decide) _ _).upi (by decide) _ _
    have k4 : s1.1 29 4 = nI p := by rw [e1]; simp [upi_get, upd_get]
    unfold f_X7_undo_37
    obtain ⟨s', ⟨τ2, hs', hf, hr⟩, el⟩ := lp_inv (f := fun s : Int32 × WD => f_X7_undo_b37 s.1 s.2) (fun i t => ∃ τ2, t = (nI i, τ2) ∧ Fr [30, 31] s1 τ2 ∧ ∀ j, j < i → τ2.1 30 j = (H 0).1 j ∧ τ2.1 31 j = (H 0).2 j) (a := 0) (b := 12) (Nat.zero_le _) (s := (0, s1)) ⟨s1, rfl, Fr.rf _ _, fun j hj => by omega⟩ (fun i t _ hi ht => by
      obtain ⟨τ2, rfl, hf, hr⟩ := ht
      obtain ⟨r1, r2⟩ := row_ix p (by omega) i hi
      have q1 : τ2.1 29 4 = nI p := by rw [hf.1 29 (by decide)]; exact k4
      have q2 : τ2.1 32 = s.1 32 := by rw [hf.1 32 (by decide), f1.1 32 (by decide)]
      have q3 := g4.2 0 (by omega) i hi
      rw [show p + 1 - 1 - 0 = p by omega] at q3
      dsimp only
      unfold f_X7_undo_b37
      rw [if_neg (show ¬ (12 : Int32) ≤ nI i from nI_ge hi (by decide)), q1, r1, gi_in (by omega) (by decide), gi12 hi, nI_clamp (by omega), nI_clamp (by omega), q2, q3.1, lt_eq]
      have q4 : (upi τ2 30 i ((H 0).1 i)).1 29 4 = nI p := by rw [upi_get, if_neg (by decide)]; exact q1
      have q5 : (upi τ2 30 i ((H 0).1 i)).1 32 = s.1 32 := by rw [upi_get, if_neg (by decide)]; exact q2
      rw [q4, r2, gi_in (by omega) (by decide), gi12 hi, nI_clamp (by omega), q5, q3.2, lt_eq, nI_1]
      refine ⟨_, rfl, _, rfl, (hf.upi (by decide) _ _).upi (by decide) _ _, fun j hj => ?_⟩
      simp only [upi_get, upd_get, if_true, if_neg (show ¬ (30 : Nat) = 31 by decide), if_neg (show ¬ (31 : Nat) = 30 by decide)]
      by_cases qq : j = i
      · rw [if_pos qq, if_pos qq, qq]; exact ⟨rfl, rfl⟩
      · rw [if_neg qq, if_neg qq]; exact hr j (by omega))
    have e29 : τ2.1 29 = s1.1 29 := hf.1 29 (by decide)
    have fall : Fr [29, 30, 31] s τ2 := (f1.mono (by decide)).tr (hf.mono (by decide))
    have el' : lp (fun s : Int32 × WD => f_X7_undo_b37 s.1 s.2) (0, s1) = lp (fun s : Int32 × WD => f_X7_undo_b37 s.1 s.2) s' := el
    rw [el', hs']
    refine ⟨τ2, lp_end ?_, ?_, fall.2, fall.sc (by decide), ⟨?_, fun i hi => (hr i hi).1⟩, fun i hi => (hr i hi).2, ⟨?_, fun i hi => by rw [fall.1 33 (by decide)]; exact g3.2 i hi⟩, ?_, fun j hj i hi => ?_⟩
    · dsimp only
      unfold f_X7_undo_b37 f_X7_undo_92
      rw [if_pos (show (12 : Int32) ≤ nI 12 by decide), e29, k4, mr_eq]
    · rw [e29, e1]; simp [upi_get, upd_get]
    · rw [e29, e1]; simp [upi_get, upd_get]; exact g1.1
    · rw [e29, e1]; simp [upi_get, upd_get]; exact g3.1
    · rw [e29]; exact k4
    · rw [fall.1 32 (by decide)]
      have := g4.2 (j + 1) (by omega) i hi
      rw [show p + 1 - 1 - (j + 1) = p - 1 - j by omega] at this
      exact this
-- ===== readers: the reference's half =====
theorem rg_rt {g : WD → Option (Int32 × WD)} {v : Int32} {n : Nat} {A M : Nat → Int32} {len : Nat} {B : Nat → Int32} {kp : Nat} {H : HT} {s υ : WD} (hs : RPt n A M len B kp H s) (e : g s = some (v, υ)) (z : υ.1 29 0 = 0) (d : υ.2 = s.2) (h : RTr s υ) : ∃ υ, g s = some (v, υ) ∧ υ.1 29 0 = 0 ∧ υ.2 = s.2 ∧ SameC s υ ∧ RPt n A M len B kp H υ := ⟨υ, e, z, d, h.sc, h.rp hs⟩
theorem case_way {k : Nat} {σ : WD} (I : Ivt k σ) (a : Int32) : Okr (f_X6_way a σ) 3 2 (fun s => f_X7_way a s) k σ := by
  have I0 := I
  obtain ⟨n, A, M, c, len, B, kp, H, ⟨w, hM, hlen, hv⟩, hc, hC, hR⟩ := I
  have hn := w.2.1
  have hG := hC.1
  have hGr := hR.1
  unfold f_X6_way
  by_cases q1 : ∃ u, u < n ∧ a = nI u
  · obtain ⟨u, hu, rfl⟩ := q1
    unfold f_X6_requireExposed
    rw [req_ok w hG hu, bx_eq, isExposed_eq hC.2.1 (by omega), bv_eq]
    by_cases g : M u = -1
    · rw [if_pos g, if_neg (by decide), bx_eq]
      unfold f_X6_way_10
      obtain ⟨τ, e, f, -⟩ := findWay_eq w hG hM hC.2.1 hu g
      rw [e, bn_eq, ml_eq]
      refine ok_rd ⟨w, hM, hlen, hv⟩ hc hC hR rfl ⟨f.mono (by decide), hC.2.2.1.fr f (by decide) (by decide) (by decide) (by decide) (by decide)⟩ (fun s hs => ?_)
      obtain ⟨υ, e2, f2, -⟩ := layWay_eq w (hs.c0 0).1 hM (hs.c0 0).2.1 hu g
      refine rg_rt hs (υ := υ) ?_ (by rw [f2.2 0 (by decide) (by decide), c0_0]) (by rw [f2.1.2]; rfl) ((RTr.c0 s 0).tr (RTr.hf f2))
      show f_X7_way (nI u) s = _
      unfold f_X7_way
      rw [fault_eq w hs.1 hs.2.1 hu, bv_eq, if_pos g, lt_eq, c0_0, if_pos le0, e2, bn_eq]
    · rw [if_neg g, if_pos rfl, bx_er]
      refine ok_thr (b := 0) (c := 2) I0 rfl (Or.inr ⟨by decide, rfl, rfl⟩) ?_
      show f_X7_way (nI u) σ = _
      unfold f_X7_way
      rw [fault_eq w hGr hR.2.1 hu, bv_eq, if_neg g, lt_eq, c0_0, if_neg nle2]
  · rw [req_no w hG q1, bx_er]
    refine ok_thr (b := 0) (c := 1) I0 rfl (Or.inl ⟨rfl, rfl⟩) ?_
    show f_X7_way a σ = _
    unfold f_X7_way
    rw [fault_no w hGr q1, bv_eq, lt_eq, c0_0, if_neg nle1]
theorem case_wayNode {k : Nat} {σ : WD} (I : Ivt k σ) (a b : Int32) : Okr (f_X6_wayNode a b σ) 3 2 (fun s => f_X7_wayNode a b s) k σ := by
  have I0 := I
  obtain ⟨n, A, M, c, len, B, kp, H, ⟨w, hM, hlen, hv⟩, hc, hC, hR⟩ := I
  have hn := w.2.1
  have hG := hC.1
  have hGr := hR.1
  unfold f_X6_wayNode
  by_cases q1 : ∃ u, u < n ∧ a = nI u
  · obtain ⟨u, hu, rfl⟩ := q1
    unfold f_X6_requireExposed
    rw [req_ok w hG hu, bx_eq, isExposed_eq hC.2.1 (by omega), bv_eq]
    by_cases g : M u = -1
    · rw [if_pos g, if_neg (by decide), bx_eq]
      obtain ⟨τ, e, f, hp⟩ := findWay_eq w hG hM hC.2.1 hu g
      have ct : CTr n A σ τ := ⟨f.mono (by decide), hC.2.2.1.fr f (by decide) (by decide) (by decide) (by decide) (by decide)⟩
      -- the place is on the way, or not
      have two : (∃ v, f_X6_wayNode_10 (nI u) b σ = some (v, τ) ∧ ∀ s, RPt n A M len B kp H s → ∃ υ, f_X7_wayNode (nI u) b s = some (v, υ) ∧ υ.1 29 0 = 0 ∧ υ.2 = s.2 ∧ RTr s υ) := by
        have ref : ∀ s, RPt n A M len B kp H s → ∃ υ, f_X7_wayNode (nI u) b s = (if nI (wln n A M u) ≤ 0 then some ((-1), υ) else bv (f_X7_within b 0 (nI (wln n A M u)) υ) (fun r31 => if r31 = 0 then some ((-1), υ) else gi b 14 (some ((υ.1 37 (b : Int32).toNatClampNeg), υ)))) ∧ υ.1 29 0 = 0 ∧ υ.2 = s.2 ∧ RTr s υ ∧ (wtq n A M u < 7 → ∀ i, i ≤ wln n A M u → υ.1 37 i = nI ((wpt n A M u).getD i 0)) := by
          intro s hs
          obtain ⟨υ, e2, f2, p2⟩ := layWay_eq w (hs.c0 0).1 hM (hs.c0 0).2.1 hu g
          refine ⟨υ, ?_, by rw [f2.2 0 (by decide) (by decide), c0_0], by rw [f2.1.2]; rfl, (RTr.c0 s 0).tr (RTr.hf f2), p2⟩
          unfold f_X7_wayNode
          rw [fault_eq w hs.1 hs.2.1 hu, bv_eq, if_pos g, lt_eq, c0_0, if_pos le0, e2, bn_eq]
        unfold f_X6_wayNode_10
        rw [e, bn_eq]
        by_cases ht : wtq n A M u < 7
        · obtain ⟨hL, ht5, hlt⟩ := wpt_lt w hM hu g ht
          rw [if_neg (nI_ne0 (by omega) (by omega))]
          have hno : ¬ nI (wln n A M u) ≤ 0 := nI_nle (by omega) (by omega)
          by_cases hb0 : b < 0
          · rw [if_pos hb0]
            refine ⟨_, rfl, fun s hs => ?_⟩
            obtain ⟨υ, r1, r2, r3, r4, r5⟩ := ref s hs
            refine ⟨υ, ?_, r2, r3, r4⟩
            unfold f_X7_within at r1
            rw [r1, if_neg hno, if_pos hb0, bv_eq, if_pos rfl]
          · obtain ⟨j, hj, rfl⟩ := nI_of hb0
            rw [if_neg hb0]
            by_cases hjl : j ≤ wln n A M u
            · rw [if_pos (nI_le hjl (by omega)), gi12 (by omega), nI_clamp (by omega), hp ht j hjl]
              refine ⟨_, rfl, fun s hs => ?_⟩
              obtain ⟨υ, r1, r2, r3, r4, r5⟩ := ref s hs
              refine ⟨υ, ?_, r2, r3, r4⟩
              unfold f_X7_within at r1
              rw [r1, if_neg hno, if_neg hb0, if_neg (nI_nlt hjl (by omega)), bv_eq, if_neg (by decide), gi_in (by omega) (by decide), nI_clamp (by omega), r5 ht j hjl]
            · rw [if_neg (fun q => hjl ((nI_le_iff hj (by omega)).mp q))]
              refine ⟨_, rfl, fun s hs => ?_⟩
              obtain ⟨υ, r1, r2, r3, r4, r5⟩ := ref s hs
              refine ⟨υ, ?_, r2, r3, r4⟩
              unfold f_X7_within at r1
              rw [r1, if_neg hno, if_neg hb0, if_pos ((nI_lt_iff (by omega) hj).mpr (by omega)), bv_eq, if_pos rfl]
        · have hL : wln n A M u = 0 := by unfold wln; rw [if_neg ht]
          rw [hL, if_pos (show nI 0 = 0 from rfl)]
          refine ⟨_, rfl, fun s hs => ?_⟩
          obtain ⟨υ, r1, r2, r3, r4, r5⟩ := ref s hs
          refine ⟨υ, ?_, r2, r3, r4⟩
          rw [r1, if_pos (wln_0.mpr ht)]
      obtain ⟨v, e3, h3⟩ := two
      rw [e3, ml_eq]
      refine ok_rd ⟨w, hM, hlen, hv⟩ hc hC hR rfl ct (fun s hs => ?_)
      obtain ⟨υ, r1, r2, r3, r4⟩ := h3 s hs
      exact rg_rt hs r1 r2 r3 r4
    · rw [if_neg g, if_pos rfl, bx_er]
      refine ok_thr (b := 0) (c := 2) I0 rfl (Or.inr ⟨by decide, rfl, rfl⟩) ?_
      show f_X7_wayNode (nI u) b σ = _
      unfold f_X7_wayNode
      rw [fault_eq w hGr hR.2.1 hu, bv_eq, if_neg g, lt_eq, c0_0, if_neg nle2]
  · rw [req_no w hG q1, bx_er]
    refine ok_thr (b := 0) (c := 1) I0 rfl (Or.inl ⟨rfl, rfl⟩) ?_
    show f_X7_wayNode a b σ = _
    unfold f_X7_wayNode
    rw [fault_no w hGr q1, bv_eq, lt_eq, c0_0, if_neg nle1]
