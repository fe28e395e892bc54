-- ===== the calls that edit =====
theorem SameC.c0 (σ : WD) (v : Int32) : SameC σ (upi σ 29 0 v) := (RTr.c0 σ v).sc
theorem bI_inj : ∀ {b on : Bool}, (if b = true then (1 : Int32) else 0) = bI on → b = on := by decide
theorem le0 : (0 : Int32) ≤ 0 := by decide
theorem nle1 : ¬ (1 : Int32) ≤ 0 := by decide
theorem nle2 : ¬ (2 : Int32) ≤ 0 := by decide
-- begin
theorem clearAll_eq (σ : WD) : ∃ τ, f_X7_clearAll σ = some τ ∧ Fr [29, 30, 31] σ τ ∧ (∀ c, c ≠ 4 → τ.1 29 c = σ.1 29 c) ∧ τ.1 29 4 = 0 ∧ ∀ i, i < 12 → τ.1 30 i = 0 ∧ τ.1 31 i = -1 := by
  unfold f_X7_clearAll f_X7_clearAll_2
  obtain ⟨s', ⟨τ, hs', hf, hr⟩, el⟩ := lp_inv (f := fun s : Int32 × WD => f_X7_clearAll_b2 s.1 s.2) (fun i s => ∃ τ, s = (nI i, τ) ∧ Fr [30, 31] σ τ ∧ ∀ j, j < i → τ.1 30 j = 0 ∧ τ.1 31 j = -1) (a := 0) (b := 12) (Nat.zero_le _) (s := (0, σ)) ⟨σ, rfl, Fr.rf _ _, fun j hj => by omega⟩ (fun i s _ hi hs => by
    obtain ⟨τ, rfl, hf, hr⟩ := hs
    dsimp only
    unfold f_X7_clearAll_b2
    rw [if_neg (show ¬ (12 : Int32) ≤ nI i from nI_ge hi (by decide)), gi12 hi, nI_clamp (by omega), lt_eq, gi12 hi, lt_eq, nI_1]
    refine ⟨_, rfl, _, rfl, (hf.upi (by decide) _ _).upi (by decide) _ _, fun j hj => ?_⟩
    simp only [upi_get, upd_get, if_true, if_neg (show ¬ (30 : Nat) = 31 by decide), if_neg (show ¬ (31 : Nat) = 30 by decide)]
    by_cases q : j = i
    · rw [if_pos q, if_pos q]; exact ⟨rfl, rfl⟩
    · rw [if_neg q, if_neg q]; exact hr j (by omega))
  rw [el, hs']
  refine ⟨upi τ 29 4 0, lp_end ?_, (hf.mono (by decide)).upi (by decide) _ _, fun c hc => ?_, by rw [upi_get, if_pos rfl, upd_get, if_pos rfl], fun i hi => ?_⟩
  · dsimp only
    unfold f_X7_clearAll_b2 f_X7_clearAll_28
    rw [if_pos (show (12 : Int32) ≤ nI 12 by decide), lt_eq, mr_eq]
  · rw [upi_get, if_pos rfl, upd_get, if_neg hc, hf.1 29 (by decide)]
  · rw [upi_get, if_neg (by decide), upi_get, if_neg (by decide)]; exact hr i hi
theorem GW.empty {n : Nat} (h1 : 2 ≤ n) (h2 : n ≤ 12) : GW n (fun _ => 0) := ⟨h1, h2, fun _ _ => Bd.zero n, fun i j _ _ => by rw [b_0, b_0], fun i _ => b_0 i⟩
theorem case_begin {k : Nat} {σ : WD} (hk : k < 512) (I : Ivt k σ) (a : Int32) : Okr (f_X6_begin a σ) 1 1 (fun s => f_X7_begin a s) k σ := by
  have I0 := I
  obtain ⟨n, A, M, c, len, B, kp, H, ⟨w, hM, hlen, hv⟩, hc, hC, hR⟩ := I
  unfold f_X6_begin
  have thr : (a < 2 ∨ 12 < a) → Okr (some (.inr 1)) 1 1 (fun s => f_X7_begin a s) k σ := by
    intro q
    refine ok_thr (b := 0) (c := 1) I0 rfl (Or.inl ⟨rfl, rfl⟩) ?_
    show f_X7_begin a σ = _
    unfold f_X7_begin f_X7_within f_X7_begin_16
    by_cases q1 : a < 2
    · rw [if_pos q1, bv_eq, if_pos rfl, lt_eq, c0_0, if_neg nle1]
    · rw [if_neg q1, if_pos (q.resolve_left q1), bv_eq, if_pos rfl, lt_eq, c0_0, if_neg nle1]
  by_cases q1 : a < 2
  · rw [if_pos q1]; exact thr (Or.inl q1)
  · rw [if_neg q1]
    by_cases q2 : a ≤ 12
    · rw [if_pos q2]
      obtain ⟨m, hm, rfl⟩ : ∃ m : Nat, m ≤ 12 ∧ a = nI m := nI_of2 (n := 12) (M := 12) (by decide) (fun q => q1 (Int32.lt_of_lt_of_le q (by decide))) q2
      have hm2 : 2 ≤ m := by
        rcases Nat.lt_or_ge m 2 with q | q
        · exact absurd (nI_lt (b := 2) q (by decide)) q1
        · exact q
      obtain ⟨h1, h2, h3, h4, h5, h6⟩ := hC
      -- the class
      have hcl : ∃ τ, f_X6_begin_21 (nI m) σ = some (nI n, τ) ∧ SameR σ τ ∧ CPt m (fun _ => 0) (fun _ => -1) (c + 1) len B 0 H τ := by
        unfold f_X6_begin_21 f_X0_clear f_X3_clear f_X1_clear
        rw [lt_eq, lt_eq, lt_eq, bv_eq, lt_eq, bv_eq, lt_eq, bv_eq, h1.1]
        obtain ⟨σ1, e1⟩ : ∃ s, s = upi (ups (upi σ 1 0 (nI m)) 2 (fillf ((upi σ 1 0 (nI m)).1 2) 12 0)) 1 2 ((ups (upi σ 1 0 (nI m)) 2 (fillf ((upi σ 1 0 (nI m)).1 2) 12 0)).1 1 2 + 1) := ⟨_, rfl⟩
        rw [← e1]
        have f1 : Fr [1, 2] σ σ1 := by rw [e1]; exact (((Fr.rf _ _).upi (by decide) _ _).ups (by decide) _).upi (by decide) _ _
        have a1 : σ1.1 1 0 = nI m := by rw [e1]; simp [upi_get, upd_get, ups_get]
        have a2 : σ1.1 1 2 = nI (c + 1) := by rw [e1]; simp [upi_get, upd_get, ups_get]; rw [h4, nI_1]
        have a3 : ∀ i, i < 12 → σ1.1 2 i = 0 := fun i hi => by rw [e1]; simp [upi_get, ups_get, fillf, hi]
        obtain ⟨σ2, e2⟩ : ∃ s, s = upi (ups σ1 4 (fillf (σ1.1 4) 12 (-1))) 7 3 0 := ⟨_, rfl⟩
        rw [← e2]
        have f2 : Fr [4, 7] σ1 σ2 := by rw [e2]; exact ((Fr.rf _ _).ups (by decide) _).upi (by decide) _ _
        have f3 : Fr [1, 2, 4, 7] σ σ2 := (f1.mono (by decide)).tr (f2.mono (by decide))
        refine ⟨σ2, rfl, f3.sr (by decide), ⟨by rw [f2.1 1 (by decide)]; exact a1, fun i hi => by rw [f2.1 2 (by decide)]; exact a3 i hi⟩, fun i hi => ?_, ?_, by rw [f2.1 1 (by decide)]; exact a2, ⟨by rw [f3.1 5 (by decide)]; exact h5.1, fun i hi => by rw [f3.1 6 (by decide)]; exact h5.2 i hi⟩, ?_⟩
        · rw [e2, upi_get, if_neg (by decide), ups_get, if_pos rfl]
          unfold fillf
          rw [if_pos hi]
        · exact h3.bump h4 (by omega) (by rw [f3.1 22 (by decide)]) (by rw [f2.1 1 (by decide)]; exact a2)
        · obtain ⟨g1, l, g2, g3, g4⟩ := h6
          refine ⟨by rw [e2, upi_get, if_pos rfl, upd_get, if_pos rfl]; rfl, l, g2, ?_, fun j hj => by omega⟩
          rw [e2, upi_get, if_pos rfl, upd_get, if_neg (by decide), ups_get, if_neg (by decide), f1.1 7 (by decide)]
          exact g3
      obtain ⟨τ, e, hs, hC'⟩ := hcl
      rw [e, ml_eq]
      refine ok_ret (H' := H) rfl hs hC' hR (fun s hs => ?_) ⟨GW.empty hm2 hm, fun i _ => Or.inl rfl, hlen, by omega, fun j hj => by omega⟩ (by omega)
      show ∃ υ, f_X7_begin (nI m) s = _ ∧ _
      unfold f_X7_begin f_X7_within f_X7_begin_16
      rw [if_neg q1, if_neg (show ¬ (12 : Int32) < nI m from nI_nlt (a := 12) hm (by decide)), bv_eq, if_neg (by decide), lt_eq, c0_0, if_pos le0, lt_eq]
      obtain ⟨υ, e2, f2, g2, k2, r2⟩ := clearAll_eq (upi (upi s 29 0 0) 29 1 (nI m))
      rw [e2, bv_eq]
      have n1 : (upi s 29 0 0).1 29 1 = nI n := by rw [upi_get, if_pos rfl, upd_get, if_neg (by decide)]; exact hs.1.1
      rw [n1]
      have f3 : Fr [29, 30, 31] s υ := (((Fr.rf _ _).upi (by decide) _ _).upi (by decide) _ _).tr f2
      refine ⟨υ, rfl, ?_, f3.2, f3.sc (by decide), ⟨?_, fun i hi => (r2 i hi).1⟩, fun i hi => (r2 i hi).2, ⟨?_, fun i hi => ?_⟩, k2, fun j hj => by omega⟩
      · rw [g2 0 (by decide)]; simp [upi_get, upd_get]
      · rw [g2 1 (by decide)]; simp [upi_get, upd_get]
      · rw [g2 6 (by decide)]; simp [upi_get, upd_get]; exact hs.2.2.1.1
      · rw [f3.1 33 (by decide)]; exact hs.2.2.1.2 i hi
    · rw [if_neg q2]; exact thr (Or.inr (i_not_le.mp q2))
-- setEdge
theorem case_setEdge {k : Nat} {σ : WD} (hk : k < 512) (I : Ivt k σ) (a b : Int32) (on : Bool) : Okr (f_X6_setEdge a b (bI on) σ) 3 1 (fun s => f_X7_setEdge a b (bI on) s) k σ := by
  have I0 := I
  obtain ⟨n, A, M, c, len, B, kp, H, ⟨w, hM, hlen, hv⟩, hc, hC, hR⟩ := I
  have hn := w.2.1
  have hG := hC.1
  have hGr := hR.1
  have thr1 : (¬ (∃ u, u < n ∧ a = nI u) ∨ ¬ (∃ u, u < n ∧ b = nI u)) → f_X7_setEdge a b (bI on) σ = some (0, upi σ 29 0 1) := by
    intro q
    unfold f_X7_setEdge f_X7_setEdge_17 f_X7_setEdge_31
    by_cases q1 : ∃ u, u < n ∧ a = nI u
    · obtain ⟨u, hu, rfl⟩ := q1
      rw [isN_ok w hGr hu, bv_eq, if_neg (by decide), isN_no w hGr (q.resolve_left (fun g => g ⟨u, hu, rfl⟩)), bv_eq, if_pos rfl, lt_eq, c0_0, if_neg nle1]
    · rw [isN_no w hGr q1, bv_eq, if_pos rfl, lt_eq, c0_0, if_neg nle1]
  unfold f_X6_setEdge
  by_cases q1 : ∃ u, u < n ∧ a = nI u
  · obtain ⟨u, hu, rfl⟩ := q1
    rw [req_ok w hG hu, bx_eq]
    by_cases q2 : ∃ u, u < n ∧ b = nI u
    · obtain ⟨v, hv', rfl⟩ := q2
      rw [req_ok w hG hv', bx_eq]
      unfold f_X6_requireDifferent
      by_cases huv : u = v
      · subst huv
        rw [if_pos rfl, bx_er]
        refine ok_thr (b := 0) (c := 2) I0 rfl (Or.inr ⟨by decide, rfl, rfl⟩) ?_
        show f_X7_setEdge (nI u) (nI u) (bI on) σ = _
        unfold f_X7_setEdge f_X7_setEdge_31
        rw [isN_ok w hGr hu, bv_eq, if_neg (by decide), bv_eq, if_neg (by decide), if_pos rfl, lt_eq, c0_0, if_neg nle2]
      · have huvI : ¬ nI u = nI v := fun q => huv (nI_inj (by omega) (by omega) q)
        rw [if_neg huvI, bx_eq]
        -- what comes of it
        obtain ⟨M', hM'⟩ : ∃ M' : Nat → Int32, M' = if on = false ∧ M u = nI v then prt M u else M := ⟨_, rfl⟩
        have hmat : M u = nI v → M u ≠ -1 ∧ mtn M u = v := fun q => ⟨by rw [q]; exact nI_ne_m1 (by omega), by unfold mtn; rw [q, nI_clamp (by omega)]⟩
        have wE := stE_gw w hu hv' huv on
        have mw' : MW n (stE A u v on) M' := by
          rw [hM']
          cases on with
          | true =>
            rw [if_neg (by simp)]
            exact hM.add w hu hv' huv
          | false =>
            unfold stE
            by_cases hb : bt (A u) v = false
            · rw [if_pos hb]
              have : ¬ M u = nI v := fun q => by
                obtain ⟨g1, g2⟩ := hmat q
                have := (hM.mat (show u < 12 by omega) g1).2.2.2.2
                rw [g2, hb] at this; cases this
              rw [if_neg (fun q => this q.2)]
              exact hM
            · rw [if_neg hb]
              have core : ∀ N : Nat → Int32, MW n A N → N u ≠ nI v → MW n (flp A u v) N := by
                intro N hN hno
                refine hN.edge (fun i hi g1 g2 => ?_)
                obtain ⟨p1, p2, p3, p4, p5⟩ := hN.mat (show i < 12 by omega) g2
                rw [flp_bt (by omega) (by omega) huv i (by omega), g1]
                have : ¬ ((i = u ∧ mtn N i = v) ∨ (i = v ∧ mtn N i = u)) := by
                  rintro (⟨r1, r2⟩ | ⟨r1, r2⟩)
                  · rw [r1, ] at p3 r2; rw [r2] at p3; exact hno p3
                  · rw [r2, r1] at p4; exact hno p4
                simp [this]
              by_cases q : M u = nI v
              · rw [if_pos ⟨rfl, q⟩]
                obtain ⟨g1, g2⟩ := hmat q
                refine core _ (prt_mw w hM hu g1) ?_
                unfold prt
                rw [g2, upd_ne _ huv, upd_same]
                exact fun r => nI_ne_m1 (by omega) r.symm
              · rw [if_neg (fun r => q r.2)]
                exact core _ hM q
        -- the class
        have hcl : ∃ τ c', c' ≤ c + 1 ∧ f_X6_setEdge_15 (nI u) (nI v) (bI on) σ = some (bI (bt (A u) v), τ) ∧ SameR σ τ ∧ CPt n (stE A u v on) M' c' len B (min (kp + 1) 4) (psh (A, M) H) τ := by
          unfold f_X6_setEdge_15
          obtain ⟨σ1, e1, s1, p1⟩ := hC.save hv.1
          rw [e1, bv_eq, joined_eq p1.1 (by omega) (by omega), bv_eq]
          obtain ⟨σ2, e2, f2, g2, m2, c', c1, c2⟩ := put_eq w p1.1 p1.2.2.1 p1.2.2.2.1 (by omega) hu hv' huv on
          have p2 := p1.graph f2 g2 m2 c2
          have fin : ∀ s0, ∃ τ, f_X6_setEdge_47 (nI u) (nI v) (bI on) s0 σ1 = some (s0, τ) ∧ SameR σ τ ∧ CPt n (stE A u v on) M' c' len B (min (kp + 1) 4) (psh (A, M) H) τ := by
            intro s0
            unfold f_X6_setEdge_47 f_X3_has
            rw [e2, bv_eq, gi12 (by omega), nI_clamp (by omega), p2.2.1 u (by omega)]
            cases on with
            | true =>
              rw [if_neg (by decide)]
              refine ⟨σ2, rfl, s1.tr (f2.sr (by decide)), ?_⟩
              rw [hM', if_neg (by simp)]; exact p2
            | false =>
              rw [if_pos (show bI false = 0 from rfl)]
              by_cases q : M u = nI v
              · obtain ⟨g1, -⟩ := hmat q
                obtain ⟨σ3, e3, f3, c3⟩ := part_eq w hM p2.2.1 hu g1
                rw [if_pos q, bv_eq, if_neg (by decide), e3, bv_eq]
                refine ⟨σ3, rfl, s1.tr ((f2.sr (by decide)).tr (f3.sr (by decide))), ?_⟩
                rw [hM', if_pos ⟨rfl, q⟩]
                exact p2.mate (f3.mono (by decide)) c3
              · rw [if_neg q, bv_eq, if_pos rfl]
                refine ⟨σ2, rfl, s1.tr (f2.sr (by decide)), ?_⟩
                rw [hM', if_neg (fun r => q r.2)]; exact p2
          cases hb : bt (A u) v
          · rw [if_pos (by decide)]
            obtain ⟨τ, h1, h2, h3⟩ := fin 0
            exact ⟨τ, c', c1, h1, h2, h3⟩
          · rw [if_neg (by decide)]
            obtain ⟨τ, h1, h2, h3⟩ := fin 1
            exact ⟨τ, c', c1, h1, h2, h3⟩
        obtain ⟨τ, c', c1, e, hs, hC'⟩ := hcl
        rw [e, ml_eq]
        refine ok_ret rfl hs hC' hR (fun s hs => ?_) ⟨wE, mw', hlen, hv.push w hM⟩ (by omega)
        show ∃ υ, f_X7_setEdge (nI u) (nI v) (bI on) s = _ ∧ _
        unfold f_X7_setEdge f_X7_setEdge_31
        rw [isN_ok w hs.1 hu, bv_eq, if_neg (by decide), isN_ok w hs.1 hv', bv_eq, if_neg (by decide), if_neg huvI, lt_eq, c0_0, if_pos le0]
        obtain ⟨s1, e1, sc1, d1, z1, p1⟩ := (hs.c0 0).keep hv.1
        rw [e1, bv_eq, gi12 (by omega), nI_clamp (by omega), p1.1.2 u (by omega), has_eq (by omega), bv_eq]
        have d1' : s1.2 = s.2 := d1
        have z1' : s1.1 29 0 = 0 := by rw [z1, c0_0]
        have sc1' : SameC s s1 := (SameC.c0 s 0).tr sc1
        -- the flip
        have hfl : ∃ s2, (if (if bt (A u) v = true then (1 : Int32) else 0) = bI on then some s1 else f_X7_flip (nI u) (nI v) s1) = some s2 ∧ Fr [30] s1 s2 ∧ RPt n (stE A u v on) M len B (min (kp + 1) 4) (psh (A, M) H) s2 := by
          unfold stE
          by_cases hb : bt (A u) v = on
          · have : (if bt (A u) v = true then (1 : Int32) else 0) = bI on := by rw [hb]; rfl
            rw [if_pos hb, if_pos this]
            exact ⟨s1, rfl, Fr.rf _ _, p1⟩
          · have : ¬ (if bt (A u) v = true then (1 : Int32) else 0) = bI on := fun q => hb (bI_inj q)
            rw [if_neg hb, if_neg this]
            obtain ⟨s2, e2, f2, g2⟩ := flip_eq w p1.1 hu hv' huv
            exact ⟨s2, e2, f2, p1.graph f2 g2⟩
        obtain ⟨s2, e2, f2, p2⟩ := hfl
        have h71 : ∃ υ, f_X7_setEdge_71 (nI u) (nI v) (bI on) (if bt (A u) v = true then 1 else 0) s2 = some (bI (bt (A u) v), υ) ∧ Fr [31] s2 υ ∧ RPt n (stE A u v on) M' len B (min (kp + 1) 4) (psh (A, M) H) υ := by
          have h90 : ∀ υ, f_X7_setEdge_90 (if bt (A u) v = true then 1 else 0) υ = some (bI (bt (A u) v), υ) := by
            intro υ
            unfold f_X7_setEdge_90 bI
            cases bt (A u) v <;> rfl
          unfold f_X7_setEdge_71
          cases on with
          | true =>
            rw [if_neg (by decide), h90]
            refine ⟨s2, rfl, Fr.rf _ _, ?_⟩
            rw [hM', if_neg (by simp)]; exact p2
          | false =>
            rw [if_pos (show bI false = 0 from rfl), gi12 (by omega), nI_clamp (by omega), p2.2.1 u (by omega)]
            by_cases q : M u = nI v
            · obtain ⟨g1, -⟩ := hmat q
              obtain ⟨s3, e3, f3, c3⟩ := x_part_eq w hM p2.2.1 hu g1
              rw [if_pos q, e3, bv_eq, h90]
              refine ⟨s3, rfl, f3, ?_⟩
              rw [hM', if_pos ⟨rfl, q⟩]
              exact p2.mate (HM.of f3) c3
            · rw [if_neg q, h90]
              refine ⟨s2, rfl, Fr.rf _ _, ?_⟩
              rw [hM', if_neg (fun r => q r.2)]; exact p2
        obtain ⟨υ, e3, f3, p3⟩ := h71
        refine ⟨υ, ?_, ?_, by rw [f3.2, f2.2]; exact d1', sc1'.tr ((f2.sc (by decide)).tr (f3.sc (by decide))), p3⟩
        · by_cases q : (if bt (A u) v = true then (1 : Int32) else 0) = bI on
          · rw [if_pos q] at e2 ⊢
            have e2 := Option.some.inj e2
            rw [e2]; exact e3
          · rw [if_neg q] at e2 ⊢
            rw [e2, bv_eq]; exact e3
        · rw [f3.1 29 (by decide), f2.1 29 (by decide)]; exact z1'
    · rw [req_no w hG q2, bx_er]
      exact ok_thr (b := 0) (c := 1) I0 rfl (Or.inl ⟨rfl, rfl⟩) (thr1 (Or.inr q2))
  · rw [req_no w hG q1, bx_er]
    exact ok_thr (b := 0) (c := 1) I0 rfl (Or.inl ⟨rfl, rfl⟩) (thr1 (Or.inl q1))
