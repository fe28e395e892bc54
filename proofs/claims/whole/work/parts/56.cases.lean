-- ===== append, clearInput =====
theorem case_append {k : Nat} {σ : WD} (I : Ivt k σ) (a : Int32) : Okr (f_X6_append a σ) 1 2 (fun s => f_X7_append a s) k σ := by
  have I0 := I
  obtain ⟨n, A, M, c, len, B, kp, H, ⟨w, hM, hlen, hv⟩, hc, hC, hR⟩ := I
  have hl5 := hC.2.2.2.2.1.1
  have hl6 := hR.2.2.1.1
  unfold f_X6_append f_X6_append_12
  have thr : (a < 32 ∨ 126 < a) → Okr (some (.inr 1)) 1 2 (fun s => f_X7_append a s) k σ := by
    intro q
    refine ok_thr (b := 0) (c := 1) I0 rfl (Or.inl ⟨rfl, rfl⟩) ?_
    show f_X7_append a σ = _
    unfold f_X7_append f_X7_within f_X7_append_30
    by_cases q1 : a < 32
    · rw [if_pos q1, bv_eq, if_pos rfl, lt_eq, c0_0, if_neg nle1]
    · rw [if_neg q1, if_pos (q.resolve_left q1), bv_eq, if_pos rfl, lt_eq, c0_0, if_neg nle1]
  by_cases q1 : a < 32
  · rw [if_pos q1]; exact thr (Or.inl q1)
  · rw [if_neg q1]
    by_cases q2 : a ≤ 126
    · have q3 : ¬ (126 : Int32) < a := fun g => (i_not_le.mpr g) q2
      rw [if_pos q2, hl5]
      by_cases q4 : len < 60
      · rw [if_pos (show nI len < (60 : Int32) from nI_lt (b := 60) q4 (by decide))]
        obtain ⟨h1, h2, h3, h4, h5, h6⟩ := hC
        have hcl : ∃ τ, f_X6_append_44 a σ = some (nI (len + 1), τ) ∧ SameR σ τ ∧ CPt n A M c (len + 1) (upd B len a) kp H τ := by
          unfold f_X6_append_44 f_X2_add
          rw [hl5, if_neg (show ¬ (60 : Int32) ≤ nI len from nI_ge (b := 60) q4 (by decide)), gi_in q4 (by decide), nI_clamp (by omega), lt_eq, lt_eq, bv_eq]
          obtain ⟨τ, eτ⟩ : ∃ s, s = upi (upi σ 6 len a) 5 1 ((upi σ 6 len a).1 5 1 + 1) := ⟨_, rfl⟩
          rw [← eτ]
          have f : Fr [5, 6] σ τ := by rw [eτ]; exact ((Fr.rf _ _).upi (by decide) _ _).upi (by decide) _ _
          have f' := f.1
          have l1 : τ.1 5 1 = nI (len + 1) := by rw [eτ]; simp [upi_get, upd_get]; rw [hl5, nI_1]
          refine ⟨τ, by rw [l1], f.sr (by decide), h1.fr f (by decide) (by decide), h2.fr f (by decide), h3.of (f' 1 (by decide)) (f' 22 (by decide)) (f' 23 (by decide)) (f' 24 (by decide)) (f' 26 (by decide)), by rw [f' 1 (by decide)]; exact h4, ⟨l1, fun i hi => ?_⟩, h6.of (fun x hx => f' x (by revert x; decide))⟩
          rw [eτ, upi_get, if_neg (by decide), upi_get, if_pos rfl, upd_get, upd_get]
          split
          · rfl
          · exact h5.2 i (by omega)
        obtain ⟨τ, e, hs, hC'⟩ := hcl
        rw [e, ml_eq]
        refine ok_ret rfl hs hC' hR (fun s hs => ?_) ⟨w, hM, by omega, hv⟩ (by omega)
        obtain ⟨g1, g2, g3, g4⟩ := hs
        show ∃ υ, f_X7_append a s = _ ∧ _
        unfold f_X7_append f_X7_within f_X7_append_30
        have e6 : (upi s 29 0 0).1 29 6 = nI len := by rw [upi_get, if_pos rfl, upd_get, if_neg (by decide)]; exact g3.1
        rw [if_neg q1, if_neg q3, bv_eq, if_neg (by decide), g3.1, if_neg (show ¬ nI len = 60 from fun q => by have := nI_inj (b := 60) (by omega) (by omega) q; omega), lt_eq, c0_0, if_pos le0, e6, gi_in q4 (by decide), nI_clamp (by omega), lt_eq, lt_eq]
        obtain ⟨υ, eυ⟩ : ∃ t, t = upi (upi (upi s 29 0 0) 33 len a) 29 6 ((upi (upi s 29 0 0) 33 len a).1 29 6 + 1) := ⟨_, rfl⟩
        rw [← eυ]
        have f : Fr [29, 33] s υ := by rw [eυ]; exact (((Fr.rf _ _).upi (by decide) _ _).upi (by decide) _ _).upi (by decide) _ _
        have l1 : υ.1 29 6 = nI (len + 1) := by rw [eυ]; simp [upi_get, upd_get]; rw [g3.1, nI_1]
        refine ⟨υ, by rw [l1], by rw [eυ]; simp [upi_get, upd_get], f.2, f.sc (by decide), ⟨by rw [eυ]; simp [upi_get, upd_get]; exact g1.1, fun i hi => by rw [f.1 30 (by decide)]; exact g1.2 i hi⟩, g2.fr f (by decide), ⟨l1, fun i hi => ?_⟩, ⟨by rw [eυ]; simp [upi_get, upd_get]; exact g4.1, fun j hj i hi => by rw [f.1 32 (by decide)]; exact g4.2 j hj i hi⟩⟩
        rw [eυ, upi_get, if_neg (by decide), upi_get, if_pos rfl, upd_get, upd_get]
        split
        · rfl
        · rw [upi_get, if_neg (by decide)]; exact g3.2 i (by omega)
      · have hl60 : len = 60 := by omega
        rw [if_neg (show ¬ nI len < (60 : Int32) from nI_nlt (b := 60) (by omega) (by omega))]
        refine ok_thr (b := 0) (c := 2) I0 rfl (Or.inr ⟨by decide, rfl, rfl⟩) ?_
        show f_X7_append a σ = _
        unfold f_X7_append f_X7_within f_X7_append_30
        rw [if_neg q1, if_neg q3, bv_eq, if_neg (by decide), hl6, hl60, if_pos (show nI 60 = 60 from rfl), lt_eq, c0_0, if_neg nle2]
    · rw [if_neg q2]; exact thr (Or.inr (i_not_le.mp q2))
theorem case_clearInput {k : Nat} {σ : WD} (I : Ivt k σ) (l : Int32) : ∃ υ, bn (f_X6_clearInput σ) (fun r σr => bn (f_X7_clearInput σr) (fun r2 σ2 => if r = r2 then some (Sum.inl (l, σ2) : (Int32 × WD) ⊕ Unit) else none)) = some (.inl (l, υ)) ∧ Ivt (k + 1) υ := by
  obtain ⟨n, A, M, c, len, B, kp, H, ⟨w, hM, hlen, hv⟩, hc, hC, hR⟩ := I
  obtain ⟨h1, h2, h3, h4, h5, h6⟩ := hC
  have f : Fr [5] σ (upi σ 5 1 0) := (Fr.rf _ _).upi (by decide) _ _
  have f' := f.1
  have hC' : CPt n A M c 0 B kp H (upi σ 5 1 0) := ⟨h1.fr f (by decide) (by decide), h2.fr f (by decide), h3.of (f' 1 (by decide)) (f' 22 (by decide)) (f' 23 (by decide)) (f' 24 (by decide)) (f' 26 (by decide)), by rw [f' 1 (by decide)]; exact h4, ⟨by rw [upi_get, if_pos rfl, upd_get, if_pos rfl]; rfl, fun i hi => by omega⟩, h6.of (fun x hx => f' x (by revert x; decide))⟩
  refine ok_dir (fx := f_X6_clearInput σ) (v := nI len) (τ := upi σ 5 1 0) (by unfold f_X6_clearInput; rw [lt_eq, h5.1]) (f.sr (by decide)) hC' hR (fun s hs => ?_) ⟨w, hM, by omega, hv⟩ (by omega) l
  obtain ⟨g1, g2, g3, g4⟩ := hs
  unfold f_X7_clearInput
  rw [lt_eq, lt_eq]
  have f2 : Fr [29] s (upi (upi s 29 0 0) 29 6 0) := ((Fr.rf _ _).upi (by decide) _ _).upi (by decide) _ _
  have e6 : (upi s 29 0 0).1 29 6 = nI len := by rw [upi_get, if_pos rfl, upd_get, if_neg (by decide)]; exact g3.1
  rw [e6]
  exact ⟨_, rfl, by simp [upi_get, upd_get], rfl, f2.sc (by decide), ⟨by simp [upi_get, upd_get]; exact g1.1, fun i hi => by rw [f2.1 30 (by decide)]; exact g1.2 i hi⟩, g2.fr f2 (by decide), ⟨by simp [upi_get, upd_get]; rfl, fun i hi => by omega⟩, ⟨by simp [upi_get, upd_get]; exact g4.1, fun j hj i hi => by rw [f2.1 32 (by decide)]; exact g4.2 j hj i hi⟩⟩
-- ===== match, unmatch =====
theorem case_match {k : Nat} {σ : WD} (I : Ivt k σ) (a b : Int32) : Okr (f_X6_match a b σ) 3 2 (fun s => f_X7_match a b s) k σ := by
  have I0 := I
  obtain ⟨n, A, M, c, len, B, kp, H, ⟨w, hM, hlen, hv⟩, hc, hC, hR⟩ := I
  have hn := w.2.1
  have hG := hC.1
  have hGr := hR.1
  have thr1 : (¬ (∃ u, u < n ∧ a = nI u) ∨ ¬ (∃ u, u < n ∧ b = nI u)) → f_X7_match a b σ = some (0, upi σ 29 0 1) := by
    intro q
    unfold f_X7_match f_X7_match_20 f_X7_match_21 f_X7_match_69
    by_cases q1 : ∃ u, u < n ∧ a = nI u
    · obtain ⟨u, hu, rfl⟩ := q1
      rw [isN_ok w hGr hu, bv_eq, if_neg (by decide), isN_no w hGr (q.resolve_left (fun g => g ⟨u, hu, rfl⟩)), bv_eq, if_pos rfl, if_pos rfl, lt_eq, c0_0, if_neg nle1]
    · rw [isN_no w hGr q1, bv_eq, if_pos rfl, if_pos rfl, lt_eq, c0_0, if_neg nle1]
  unfold f_X6_match
  by_cases q1 : ∃ u, u < n ∧ a = nI u
  · obtain ⟨u, hu, rfl⟩ := q1
    rw [req_ok w hG hu, bx_eq]
    by_cases q2 : ∃ u, u < n ∧ b = nI u
    · obtain ⟨v, hv', rfl⟩ := q2
      rw [req_ok w hG hv', bx_eq, joined_eq hG (by omega) (by omega), bv_eq]
      have ref : ∀ s, RPt n A M len B kp H s → f_X7_match (nI u) (nI v) s = if bt (A u) v = true ∧ M u = -1 ∧ M v = -1 then f_X7_match_69 (nI u) (nI v) 0 s else some (0, upi s 29 0 2) := by
        intro s hs
        have h64 : f_X7_match_64 (nI u) (nI v) s = some (0, upi s 29 0 2) := by
          unfold f_X7_match_64 f_X7_match_69
          rw [lt_eq, c0_0, if_neg nle2]
        unfold f_X7_match f_X7_match_21
        rw [isN_ok w hs.1 hu, bv_eq, if_neg (by decide), isN_ok w hs.1 hv', bv_eq, if_neg (by decide), if_neg (by decide), gi12 (by omega), nI_clamp (by omega), hs.1.2 u (by omega), has_eq (by omega), bv_eq, gi12 (by omega), hs.2.1 u (by omega), gi12 (by omega), nI_clamp (by omega), hs.2.1 v (by omega), h64]
        by_cases g1 : bt (A u) v = true
        · rw [if_pos g1, if_neg (by decide)]
          by_cases g2 : M u = -1
          · rw [if_pos g2]
            by_cases g3 : M v = -1
            · rw [if_pos g3, if_pos ⟨g1, g2, g3⟩]
            · rw [if_neg g3, if_neg (fun r => g3 r.2.2)]
          · rw [if_neg g2, if_neg (fun r => g2 r.2.1)]
        · rw [if_neg g1, if_pos rfl, if_neg (fun r => g1 r.1)]
      unfold f_X6_requireExposed
      rw [isExposed_eq hC.2.1 (by omega), isExposed_eq hC.2.1 (by omega), bv_eq, bv_eq]
      by_cases g1 : bt (A u) v = true
      · rw [if_pos g1, if_neg (by decide)]
        by_cases g2 : M u = -1
        · rw [if_pos g2, if_neg (by decide), bx_eq]
          by_cases g3 : M v = -1
          · rw [if_pos g3, if_neg (by decide), bx_eq]
            have huv : u ≠ v := fun e => by rw [e, w.2.2.2.2 v (by omega)] at g1; cases g1
            have mj : MW n A (jnt M u v) := hM.join w huv hu hv' g2 g3 g1
            have hcl : ∃ τ, f_X6_match_42 (nI u) (nI v) σ = some (nI (szq (jnt M u v) n), τ) ∧ SameR σ τ ∧ CPt n A (jnt M u v) c len B (min (kp + 1) 4) (psh (A, M) H) τ := by
              unfold f_X6_match_42
              obtain ⟨σ1, e1, s1, p1⟩ := hC.save hv.1
              obtain ⟨σ2, e2, f2, c2⟩ := join_eq p1.2.1 (show u < 12 by omega) (show v < 12 by omega)
              have p2 := p1.mate (f2.mono (by decide)) c2
              rw [e1, bv_eq, e2, bv_eq, size_eq w mj p2.2.1, bv_eq]
              exact ⟨σ2, rfl, s1.tr (f2.sr (by decide)), p2⟩
            obtain ⟨τ, e, hs, hC'⟩ := hcl
            rw [e, ml_eq]
            refine ok_ret rfl hs hC' hR (fun s hs => ?_) ⟨w, mj, hlen, hv.push w hM⟩ (by omega)
            show ∃ υ, f_X7_match (nI u) (nI v) s = _ ∧ _
            rw [ref s hs, if_pos ⟨g1, g2, g3⟩]
            unfold f_X7_match_69
            obtain ⟨s1, e1, sc1, d1, z1, p1⟩ := (hs.c0 0).keep hv.1
            obtain ⟨s2, e2, f2, c2⟩ := pair_eq p1.2.1 (show u < 12 by omega) (show v < 12 by omega)
            have p2 := p1.mate (HM.of f2) c2
            rw [lt_eq, c0_0, if_pos le0, e1, bv_eq, e2, bv_eq, x_size_eq w p2.1 p2.2.1, bv_eq]
            exact ⟨s2, rfl, by rw [f2.1 29 (by decide), z1, c0_0], by rw [f2.2, d1]; rfl, (SameC.c0 s 0).tr (sc1.tr (f2.sc (by decide))), p2⟩
          · rw [if_neg g3, if_pos rfl, bx_er]
            exact ok_thr (b := 0) (c := 2) I0 rfl (Or.inr ⟨by decide, rfl, rfl⟩) ((ref σ hR).trans (if_neg (fun r => g3 r.2.2)))
        · rw [if_neg g2, if_pos rfl, bx_er]
          exact ok_thr (b := 0) (c := 2) I0 rfl (Or.inr ⟨by decide, rfl, rfl⟩) ((ref σ hR).trans (if_neg (fun r => g2 r.2.1)))
      · rw [if_neg g1, if_pos rfl]
        exact ok_thr (b := 0) (c := 2) I0 rfl (Or.inr ⟨by decide, rfl, rfl⟩) ((ref σ hR).trans (if_neg (fun r => g1 r.1)))
    · rw [req_no w hG q2, bx_er]
      exact ok_thr (b := 0) (c := 1) I0 rfl (Or.inl ⟨rfl, rfl⟩) (thr1 (Or.inr q2))
  · rw [req_no w hG q1, bx_er]
    exact ok_thr (b := 0) (c := 1) I0 rfl (Or.inl ⟨rfl, rfl⟩) (thr1 (Or.inl q1))
theorem case_unmatch {k : Nat} {σ : WD} (I : Ivt k σ) (a : Int32) : Okr (f_X6_unmatch a σ) 3 2 (fun s => f_X7_unmatch a s) k σ := by
  have I0 := I
  obtain ⟨n, A, M, c, len, B, kp, H, ⟨w, hM, hlen, hv⟩, hc, hC, hR⟩ := I
  have hn := w.2.1
  have hG := hC.1
  have hGr := hR.1
  unfold f_X6_unmatch
  by_cases q1 : ∃ u, u < n ∧ a = nI u
  · obtain ⟨u, hu, rfl⟩ := q1
    rw [req_ok w hG hu, bx_eq, isExposed_eq hC.2.1 (by omega), bv_eq]
    by_cases g : M u = -1
    · rw [if_pos g, if_neg (by decide)]
      refine ok_thr (b := 0) (c := 2) I0 rfl (Or.inr ⟨by decide, rfl, rfl⟩) ?_
      show f_X7_unmatch (nI u) σ = _
      unfold f_X7_unmatch f_X7_unmatch_28
      rw [isN_ok w hGr hu, bv_eq, if_neg (by decide), gi12 (by omega), nI_clamp (by omega), hR.2.1 u (by omega), if_pos g, lt_eq, c0_0, if_neg nle2]
    · rw [if_neg g, if_pos rfl]
      have mp := prt_mw w hM hu g
      have hcl : ∃ τ, f_X6_unmatch_26 (nI u) σ = some (M u, τ) ∧ SameR σ τ ∧ CPt n A (prt M u) c len B (min (kp + 1) 4) (psh (A, M) H) τ := by
        unfold f_X6_unmatch_26
        obtain ⟨σ1, e1, s1, p1⟩ := hC.save hv.1
        obtain ⟨σ2, e2, f2, c2⟩ := part_eq w hM p1.2.1 hu g
        have p2 := p1.mate (f2.mono (by decide)) c2
        rw [e1, bv_eq, gi12 (by omega), nI_clamp (by omega), p1.2.1 u (by omega), li_eq, e2, bv_eq]
        exact ⟨σ2, rfl, s1.tr (f2.sr (by decide)), p2⟩
      obtain ⟨τ, e, hs, hC'⟩ := hcl
      rw [e, ml_eq]
      refine ok_ret rfl hs hC' hR (fun s hs => ?_) ⟨w, mp, hlen, hv.push w hM⟩ (by omega)
      show ∃ υ, f_X7_unmatch (nI u) s = _ ∧ _
      unfold f_X7_unmatch f_X7_unmatch_28
      obtain ⟨s1, e1, sc1, d1, z1, p1⟩ := (hs.c0 0).keep hv.1
      obtain ⟨s2, e2, f2, c2⟩ := x_part_eq w hM p1.2.1 hu g
      have p2 := p1.mate (HM.of f2) c2
      rw [isN_ok w hs.1 hu, bv_eq, if_neg (by decide), gi12 (by omega), nI_clamp (by omega), hs.2.1 u (by omega), if_neg g, lt_eq, c0_0, if_pos le0, e1, bv_eq, gi12 (by omega), p1.2.1 u (by omega), li_eq, e2, bv_eq]
      exact ⟨s2, rfl, by rw [f2.1 29 (by decide), z1, c0_0], by rw [f2.2, d1]; rfl, (SameC.c0 s 0).tr (sc1.tr (f2.sc (by decide))), p2⟩
  · rw [req_no w hG q1, bx_er]
    refine ok_thr (b := 0) (c := 1) I0 rfl (Or.inl ⟨rfl, rfl⟩) ?_
    show f_X7_unmatch a σ = _
    unfold f_X7_unmatch f_X7_unmatch_28
    rw [isN_no w hGr q1, bv_eq, if_pos rfl, lt_eq, c0_0, if_neg nle1]
-- ===== augment, maximize =====
theorem fault_eq {n : Nat} {A M : Nat → Int32} {σ : WD} (w : GW n A) (hG : GR n A σ) (hR : RM M σ) {u : Nat} (hu : u < n) : f_X7_exposedFault (nI u) σ = some (if M u = -1 then 0 else 2) := by
  have hn := w.2.1
  unfold f_X7_exposedFault
  rw [isN_ok w hG hu, bv_eq, if_neg (by decide), gi12 (by omega), nI_clamp (by omega), hR u (by omega)]
  split <;> rfl
theorem fault_no {n : Nat} {A : Nat → Int32} {σ : WD} (w : GW n A) (hG : GR n A σ) {a : Int32} (h : ¬ ∃ u, u < n ∧ a = nI u) : f_X7_exposedFault a σ = some 1 := by
  unfold f_X7_exposedFault
  rw [isN_no w hG h, bv_eq, if_pos rfl]
theorem HM.sc {σ τ : WD} (h : HM σ τ) : SameC σ τ := h.1.sc (by decide)
theorem case_augment {k : Nat} {σ : WD} (I : Ivt k σ) (a : Int32) : Okr (f_X6_augment a σ) 3 2 (fun s => f_X7_augment a s) k σ := by
  have I0 := I
  obtain ⟨n, A, M, c, len, B, kp, H, ⟨w, hM, hlen, hv⟩, hc, hC, hR⟩ := I
  have hn := w.2.1
  have hG := hC.1
  have hGr := hR.1
  unfold f_X6_augment
  by_cases q1 : ∃ u, u < n ∧ a = nI u
  · obtain ⟨u, hu, rfl⟩ := q1
    unfold f_X6_requireExposed
    rw [req_ok w hG hu, bx_eq, isExposed_eq hC.2.1 (by omega), bv_eq]
    by_cases g : M u = -1
    · rw [if_pos g, if_neg (by decide), bx_eq]
      have ma := (aug_mw w hM hu g).1
      have hcl : ∃ τ, f_X6_augment_10 (nI u) σ = some (nI (wln n A M u), τ) ∧ SameR σ τ ∧ CPt n A (aug n A M u) c len B (min (kp + 1) 4) (psh (A, M) H) τ := by
        unfold f_X6_augment_10
        obtain ⟨σ1, e1, s1, p1⟩ := hC.save hv.1
        obtain ⟨σ2, e2, f2, c2⟩ := augmentFrom_eq w p1.1 hM p1.2.1 hu g
        rw [e1, bv_eq, e2, bn_eq]
        exact ⟨σ2, rfl, s1.tr (f2.sr (by decide)), p1.mate f2 c2⟩
      obtain ⟨τ, e, hs, hC'⟩ := hcl
      rw [e, ml_eq]
      refine ok_ret rfl hs hC' hR (fun s hs => ?_) ⟨w, ma, hlen, hv.push w hM⟩ (by omega)
      show ∃ υ, f_X7_augment (nI u) s = _ ∧ _
      unfold f_X7_augment
      obtain ⟨s1, e1, sc1, d1, z1, p1⟩ := (hs.c0 0).keep hv.1
      obtain ⟨s2, e2, f2, c2⟩ := x_augmentFrom_eq w p1.1 hM p1.2.1 hu g
      rw [fault_eq w hs.1 hs.2.1 hu, bv_eq, if_pos g, lt_eq, c0_0, if_pos le0, e1, bv_eq, e2, bn_eq]
      exact ⟨s2, rfl, by rw [f2.2 0 (by decide) (by decide), z1, c0_0], by rw [f2.1.2, d1]; rfl, (SameC.c0 s 0).tr (sc1.tr f2.sc), p1.mate f2 c2⟩
    · rw [if_neg g, if_pos rfl, bx_er]
      refine ok_thr (b := 0) (c := 2) I0 rfl (Or.inr ⟨by decide, rfl, rfl⟩) ?_
      show f_X7_augment (nI u) σ = _
      unfold f_X7_augment
      rw [fault_eq w hGr hR.2.1 hu, bv_eq, if_neg g, lt_eq, c0_0, if_neg nle2]
  · rw [req_no w hG q1, bx_er]
    refine ok_thr (b := 0) (c := 1) I0 rfl (Or.inl ⟨rfl, rfl⟩) ?_
    show f_X7_augment a σ = _
    unfold f_X7_augment
    rw [fault_no w hGr q1, bv_eq, lt_eq, c0_0, if_neg nle1]
theorem case_maximize {k : Nat} {σ : WD} (I : Ivt k σ) (l : Int32) : ∃ υ, bn (f_X6_maximize σ) (fun r σr => bn (f_X7_maximize σr) (fun r2 σ2 => if r = r2 then some (Sum.inl (l, σ2) : (Int32 × WD) ⊕ Unit) else none)) = some (.inl (l, υ)) ∧ Ivt (k + 1) υ := by
  obtain ⟨n, A, M, c, len, B, kp, H, ⟨w, hM, hlen, hv⟩, hc, hC, hR⟩ := I
  have hn := w.2.1
  obtain ⟨σ1, e1, s1, p1⟩ := hC.save hv.1
  obtain ⟨σ2, e2, f2, c2⟩ := maximize_eq w 6 0 M σ1 rfl p1.1 hM p1.2.1
  have e2' : f_X6_maximize_17 0 σ1 = some (nI (0 + (mxq n A 6 M).1), σ2) := e2
  refine ok_dir (fx := f_X6_maximize σ) (v := nI (0 + (mxq n A 6 M).1)) (τ := σ2) (by unfold f_X6_maximize; rw [e1, bv_eq, e2']) (s1.tr (f2.sr (by decide))) (p1.mate f2 c2) hR (fun s hs => ?_) ⟨w, mxq_mw w 6 M hM, hlen, hv.push w hM⟩ (by omega) l
  obtain ⟨t1, e1, sc1, d1, z1, p1⟩ := (hs.c0 0).keep hv.1
  obtain ⟨t2, e2, f2⟩ := x_lowestWithWay_eq w p1.1 hM p1.2.1
  have hx := exc_le M n
  obtain ⟨t3, e3, f3, c3⟩ := x_maximize_eq w 6 0 M t2 (by omega) (f2.gr p1.1) hM (p1.2.1.fr f2.1 (by decide))
  have e3' : f_X7_maximize_16 0 (nI (lwv n A M)) t2 = some (nI (0 + (mxq n A 6 M).1), t3) := e3
  unfold f_X7_maximize
  rw [lt_eq, e1, bv_eq, e2, bn_eq, e3']
  have f4 := f2.hm.tr f3
  exact ⟨t3, rfl, by rw [f4.2 0 (by decide) (by decide), z1, c0_0], by rw [f4.1.2, d1]; rfl, (SameC.c0 s 0).tr (sc1.tr f4.sc), p1.mate f4 c3⟩
