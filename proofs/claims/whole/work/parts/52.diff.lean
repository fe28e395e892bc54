-- ===== difference: counting =====
/-- the piece of v among the differences -/
noncomputable def dpc (n : Nat) (M F : Nat → Int32) (v : Nat) : Int32 := cmp n (dgr M F) (al n) v
/-- v is the lowest node of a piece with an edge -/
noncomputable def dst (n : Nat) (M F : Nat → Int32) (v : Nat) : Bool := decide (lwn (dpc n M F v) = v) && decide (M v ≠ F v)
/-- all nodes of the piece have two mates -/
noncomputable def drg (n : Nat) (M F : Nat → Int32) (v : Nat) : Bool := (List.range n).all (fun x => !bt (dpc n M F v) x || (decide (M x ≠ -1) && decide (F x ≠ -1)))
noncomputable def dfc (n : Nat) (M F : Nat → Int32) (o : Bool) : Nat → Nat := smn (fun v => if (dst n M F v && (drg n M F v == o)) = true then 1 else 0)
theorem dfc_succ (n : Nat) (M F : Nat → Int32) (o : Bool) (t : Nat) : dfc n M F o (t + 1) = dfc n M F o t + if (dst n M F t && (drg n M F t == o)) = true then 1 else 0 := rfl
theorem drg_iff {n : Nat} {M F : Nat → Int32} {v : Nat} : drg n M F v = true ↔ ∀ x, x < n → bt (dpc n M F v) x = true → M x ≠ -1 ∧ F x ≠ -1 := by
  unfold drg
  simp only [List.all_eq_true, List.mem_range, Bool.or_eq_true, Bool.not_eq_true', Bool.and_eq_true, decide_eq_true_eq]
  constructor
  · intro h x hx hb
    rcases h x hx with q | q
    · rw [hb] at q; cases q
    · exact q
  · intro h x hx
    cases q : bt (dpc n M F v) x
    · exact Or.inl rfl
    · exact Or.inr (h x hx q)
theorem dpc_spec {n : Nat} {A M F : Nat → Int32} (w : GW n A) (hM : MW n A M) (hF : MW n A F) {v : Nat} (hv : v < n) : IsC n (dgr M F) (al n) v (dpc n M F v) := cmp_spec (dgr_gw w hM hF) (Bd.al (by have := w.2.1; omega)) hv
theorem al_iff {n : Nat} (hn : n ≤ 12) {x : Nat} : bt (al n) x = true ↔ x < n := by
  constructor
  · intro q; exact b_lt (Bd.al (by omega)) q
  · intro q; rw [b_al n (by omega) x (by omega)]; simp [q]
/-- in the piece of a node that differs all nodes differ -/
theorem dpc_diff {n : Nat} {A M F : Nat → Int32} (w : GW n A) (hM : MW n A M) (hF : MW n A F) {v x : Nat} (hv : v < n) (hd : M v ≠ F v) (hx : bt (dpc n M F v) x = true) : M x ≠ F x := by
  have hn := w.2.1
  have hC := dpc_spec w hM hF hv
  have r := (hC.2 x (b_lt hC.1 hx)).mp hx
  refine (r (fun x => x < n ∧ M x ≠ F x) ⟨hv, hd⟩ (fun u y hu hA hy => ?_)).2
  obtain ⟨r1, r2, r3, r4⟩ := dgr_sy w hM hF (show u < 12 by omega) hA
  exact ⟨r1, ((dgr_iff w hM hF (by omega) u).mp r4).1⟩
theorem dpc_one {n : Nat} {A M F : Nat → Int32} (w : GW n A) (hM : MW n A M) (hF : MW n A F) {v : Nat} (hv : v < n) : pcn (dpc n M F v) ≤ 1 ↔ M v = F v := by
  have hn := w.2.1
  have hC := dpc_spec w hM hF hv
  have hself : bt (dpc n M F v) v = true := (hC.2 v hv).mpr (RC.here _ _ _)
  constructor
  · intro hp
    apply Classical.byContradiction
    intro hd
    have hy : ∃ y, bt (dgr M F v) y = true := by
      by_cases q : M v = -1
      · have q2 : F v ≠ -1 := fun g => hd (by rw [q, g])
        exact ⟨mtn F v, (dgr_iff w hM hF (by omega) _).mpr ⟨hd, Or.inr ⟨q2, rfl⟩⟩⟩
      · exact ⟨mtn M v, (dgr_iff w hM hF (by omega) _).mpr ⟨hd, Or.inl ⟨q, rfl⟩⟩⟩
    obtain ⟨y, hy⟩ := hy
    obtain ⟨r1, r2, r3, r4⟩ := dgr_sy w hM hF (show v < 12 by omega) hy
    have hyC : bt (dpc n M F v) y = true := (hC.2 y r1).mpr (RC.go (RC.here _ _ _) hy ((al_iff hn).mpr r1))
    have c1 := pcn_cl (show v < 12 by omega) hself
    have c2 := pcn_cl (x := cl (dpc n M F v) v) (show y < 12 by omega) ((m_cl (by omega)).mpr ⟨hyC, fun e => r3 e.symm⟩)
    omega
  · intro hd
    have e : dpc n M F v = sg v := s_ext (fun x => by
      constructor
      · intro q
        have r := (hC.2 x (b_lt hC.1 q)).mp q
        have : x = v := r (fun x => x = v) rfl (fun u y hu hA _ => by
          rw [hu] at hA
          exact absurd hd ((dgr_iff w hM hF (show v < 12 by omega) y).mp hA).1)
        rw [this, b_sg (by omega) (by omega)]; simp
      · intro q
        rw [b_sg (by omega) (lt32 q)] at q
        simp only [decide_eq_true_eq] at q
        rw [q]; exact hself)
    rw [e, pcn_sg v (by omega)]
    exact Nat.le_refl _
theorem pcn_dgr {n : Nat} {A M F : Nat → Int32} (w : GW n A) (hM : MW n A M) (hF : MW n A F) {x : Nat} (hx : x < n) (hd : M x ≠ F x) : 2 ≤ pcn (dgr M F x) ↔ M x ≠ -1 ∧ F x ≠ -1 := by
  have hn := w.2.1
  unfold dgr
  rw [if_neg hd]
  by_cases q : M x = -1
  · rw [if_pos q]
    by_cases q2 : F x = -1
    · exact absurd (by rw [q, q2]) hd
    · have := (hF.mat (show x < 12 by omega) q2).2.1
      have e : (0 : Int32) ||| sg (mtn F x) = sg (mtn F x) := s_ext (fun i => by rw [m_or, b_0]; simp)
      rw [if_neg q2, e, pcn_sg _ (by omega)]
      exact ⟨fun g => by omega, fun g => absurd q g.1⟩
  · have m1 := (hM.mat (show x < 12 by omega) q).2.1
    rw [if_neg q]
    by_cases q2 : F x = -1
    · rw [if_pos q2, Int32.or_zero, pcn_sg _ (by omega)]
      exact ⟨fun g => by omega, fun g => absurd q2 g.2⟩
    · have m2 := (hF.mat (show x < 12 by omega) q2).2.1
      have hne : mtn F x ≠ mtn M x := fun e => hd (by rw [mtn_eq w hM (by omega) q, mtn_eq w hF (by omega) q2, e])
      rw [if_neg q2, pcn_add (by omega) (by rw [b_sg (by omega) (by omega)]; simp [hne]), pcn_sg _ (by omega)]
      exact ⟨fun _ => ⟨q, q2⟩, fun _ => Nat.le_refl _⟩
theorem hasNoEnd_eq {n : Nat} {A M F : Nat → Int32} {σ : WD} (w : GW n A) (hM : MW n A M) (hF : MW n A F) (hG : GC n (dgr M F) (sw σ)) {v : Nat} (hv : v < n) (hd : M v ≠ F v) : f_X0_hasNoEnd_d (dpc n M F v) σ = some (if drg n M F v = true then 1 else 0) := by
  have hn := w.2.1
  have wd := dgr_gw w hM hF
  have g1 : σ.1 27 0 = nI n := hG.1
  have g2 : ∀ i, i < 12 → σ.1 28 i = dgr M F i := fun i hi => hG.2 i hi
  unfold f_X0_hasNoEnd_d f_X0_hasNoEnd_d_2
  have stp : ∀ x, x < n → f_X0_hasNoEnd_d_b2 (dpc n M F v) (nI x) σ = if bt (dpc n M F v) x = true → M x ≠ -1 ∧ F x ≠ -1 then some (.inl (nI (x + 1))) else some (.inr 0) := by
    intro x hx
    unfold f_X0_hasNoEnd_d_b2
    rw [g1, if_neg (nI_ge hx (by omega)), nI_1]
    by_cases hb : bt (dpc n M F v) x = true
    · rw [if_neg (fun q => by rw [tb_zero (by omega), hb] at q; cases q), gi12 (by omega), nI_clamp (by omega), g2 x (by omega), bitCount_eq (wd.bd (by omega)), bv_eq]
      have := pcn_dgr w hM hF hx (dpc_diff w hM hF hv hd hb)
      have hle := pcn_le hn (wd.2.2.1 x (by omega))
      by_cases q : 2 ≤ pcn (dgr M F x)
      · rw [if_pos (show (2 : Int32) ≤ nI _ from nI_le q (by omega)), if_pos (fun _ => this.mp q)]
      · rw [if_neg (show ¬ (2 : Int32) ≤ nI (pcn (dgr M F x)) from nI_ge (a := pcn (dgr M F x)) (b := 2) (by omega) (by decide)), if_neg (fun g => q (this.mpr (g hb)))]
    · rw [if_pos ((tb_zero (by omega)).mpr (by simpa using hb)), if_pos (fun g => absurd g hb)]
  rcases first_not (fun x => bt (dpc n M F v) x = true → M x ≠ -1 ∧ F x ≠ -1) n with hall | ⟨k, k1, k2, k3⟩
  · rw [if_pos (drg_iff.mpr hall)]
    refine lp_for (fun i => nI i) (a := 0) (b := n) (Nat.zero_le _) (fun i _ hi => ?_) ?_
    · rw [stp i hi, if_pos (hall i hi)]
    · show f_X0_hasNoEnd_d_b2 _ _ _ = _
      unfold f_X0_hasNoEnd_d_b2
      rw [g1, if_pos (nI_le (Nat.le_refl n) (by omega))]
  · rw [if_neg (fun q => k2 (drg_iff.mp q k k1))]
    refine lp_for (fun i => nI i) (a := 0) (b := k) (Nat.zero_le _) (fun i _ hi => ?_) ?_
    · rw [stp i (by omega), if_pos (k3 i hi)]
    · rw [stp k k1, if_neg k2]
/-- what a call of difference leaves -/
def DQ (n : Nat) (A : Nat → Int32) (σ τ : WD) : Prop := Fr [22, 23, 24, 26, 27, 28] σ τ ∧ Mo n A τ ∧ GC n A τ
theorem Mo.fr {n : Nat} {A : Nat → Int32} {σ τ : WD} {K : List Nat} (h : Mo n A σ) (hf : Fr K σ τ) (h1 : 1 ∉ K) (h2 : 22 ∉ K) (h3 : 23 ∉ K) (h4 : 24 ∉ K) (h5 : 26 ∉ K) : Mo n A τ := by
  have e1 := hf.1 1 h1
  have e2 := hf.1 22 h2
  have e3 := hf.1 23 h3
  have e4 := hf.1 24 h4
  have e5 := hf.1 26 h5
  unfold Mo Ld MV Kn at *
  rw [e1, e2, e3, e4, e5]
  exact h
theorem difference_eq {n : Nat} {A M : Nat → Int32} {σ : WD} (w : GW n A) (hG : GC n A σ) (hMo : Mo n A σ) (hM : MW n A M) (hC : CM M σ) (l1 : Int32) : ∃ τ, f_X6_difference_20 l1 σ = some (nI (dfc n M (fm n A) (decide (l1 = 0)) n), τ) ∧ DQ n A σ τ := by
  have hn := w.2.1
  have hF := fm_mw w
  have hal : Bd n (al n) := Bd.al (by omega)
  have wd := dgr_gw w hM hF
  unfold f_X6_difference_20
  obtain ⟨σ1, e1, f1, m1, g1, c1⟩ := first_eq w hG hMo
  have hC1 := hC.fr f1 (by decide)
  obtain ⟨σ2, e2, f2, d2⟩ := draw_eq w g1 hM hC1 hF c1
  have g2 := g1.fr f2 (by decide) (by decide)
  rw [e1, bv_eq, e2, bv_eq]
  refine ⟨σ2, ?_, (f1.mono (by decide)).tr (f2.mono (by decide)), m1.fr f2 (by decide) (by decide) (by decide) (by decide) (by decide), g2⟩
  unfold f_X6_difference_38
  refine lp_for (fun i => (nI (dfc n M (fm n A) true i), nI (dfc n M (fm n A) false i), nI i)) (a := 0) (b := n) (Nat.zero_le _) (fun v _ hv => ?_) ?_
  · show f_X6_difference_b38 _ (nI (dfc n M (fm n A) true v)) (nI (dfc n M (fm n A) false v)) (nI v) _ = _
    have hC := dpc_spec w hM hF hv
    have hne : dpc n M (fm n A) v ≠ 0 := cmp_ne0 wd hal hv
    have hp : f_X0_pieceOf_d (nI v) (al n) σ2 = some (dpc n M (fm n A) v) := by rw [pieceOf_sw]; exact pieceOf_cmp wd d2 hal hv
    obtain ⟨lw1, lw2, lw3⟩ := lwn_spec (hC.1.mono hn) hne
    unfold f_X6_difference_b38 f_X6_difference_83
    rw [g2.1, if_neg (nI_ge hv (by omega)), g2.al, bv_eq, hp, bv_eq, numTZ_eq (hC.1.mono hn) hne, bv_eq, dfc_succ, dfc_succ, nI_1]
    have hpl := pcn_le hn hC.1
    by_cases hl : lwn (dpc n M (fm n A) v) = v
    · rw [if_pos (by rw [hl]), if_neg (by decide), bitCount_eq (hC.1.mono hn), bv_eq]
      by_cases hd : M v = fm n A v
      · rw [if_pos (show nI _ ≤ (1 : Int32) from nI_le ((dpc_one w hM hF hv).mpr hd) (by decide)), if_neg (by unfold dst; simp [hd]), if_neg (by unfold dst; simp [hd])]
        rfl
      · rw [if_neg (show ¬ nI (pcn (dpc n M (fm n A) v)) ≤ (1 : Int32) from nI_ge (a := 1) (b := pcn (dpc n M (fm n A) v)) (Nat.lt_of_not_le (fun q => hd ((dpc_one w hM hF hv).mp q))) (by omega)), hasNoEnd_eq w hM hF d2 hv hd, bv_eq]
        unfold f_X6_difference_121
        have hds : dst n M (fm n A) v = true := by unfold dst; simp [hl, hd]
        rw [hds]
        cases hr : drg n M (fm n A) v
        · rw [if_pos (by decide), if_pos (by decide), if_neg (by decide), if_pos (by decide), nI_1, nI_1, Int32.add_zero]
          rfl
        · rw [if_neg (by decide), if_neg (by decide), if_pos (by decide), if_neg (by decide), nI_1, nI_1, Int32.add_zero]
          rfl
    · rw [if_neg (fun q => hl (nI_inj (by omega) (by omega) q)), if_pos rfl, if_neg (by unfold dst; simp [hl]), if_neg (by unfold dst; simp [hl])]
      rfl
  · show f_X6_difference_b38 _ _ _ _ _ = _
    unfold f_X6_difference_b38 f_X6_difference_142
    rw [g2.1, if_pos (nI_le (Nat.le_refl n) (by omega))]
    by_cases q : l1 = 0
    · rw [if_pos q, mr_eq, decide_eq_true q]
    · rw [if_neg q, mr_eq, decide_eq_false q]
-- the reference
theorem x_joined_eq {n : Nat} {A M F : Nat → Int32} {σ : WD} (w : GW n A) (hG : GR n A σ) (hM : MW n A M) (hF : MW n A F) (hC : RM M σ) (hC2 : ∀ i, i < n → σ.1 36 i = F i) {v : Nat} (hv : v < n) : f_X7_joined (nI v) σ = some (dpc n M F v) := by
  have hn := w.2.1
  have wd := dgr_gw w hM hF
  have hW : Bd n (al n) := Bd.al (by omega)
  unfold f_X7_joined f_X7_joined_6
  rw [li_eq, sg_eq]
  have inner : ∀ S, Bd n S → f_X7_joined_16 S S 0 σ = some (.inl (pas (dgr M F) (al n) S n, S)) := by
    intro S hS
    unfold f_X7_joined_16
    refine lp_for (fun i => (pas (dgr M F) (al n) S i, nI i)) (a := 0) (b := n) (Nat.zero_le _) (fun i _ hi => ?_) ?_
    · show f_X7_joined_b16 _ _ _ _ = _
      have eD : dgr M F i &&& al n = dgr M F i := s_ext (fun x => by
        rw [m_an, al_iff hn]
        exact ⟨fun q => q.1, fun q => ⟨q, b_lt (wd.2.2.1 i (by omega)) q⟩⟩)
      unfold f_X7_joined_b16 f_X7_differs f_X7_joined_68 f_X7_joined_95
      rw [hG.1, if_neg (nI_ge hi (by omega)), has_eq (by omega), bv_eq, pas_succ, gi12 (by omega), gi12 (by omega), nI_clamp (by omega), hC i (by omega), hC2 i hi, nI_1, eD]
      by_cases hb : bt (pas (dgr M F) (al n) S i) i = true
      · rw [if_pos hb, if_pos hb, if_neg (by decide)]
        unfold dgr
        by_cases hd : M i = F i
        · rw [if_pos hd, bv_eq, if_pos rfl, if_pos hd, Int32.or_zero]
        · rw [if_neg hd, bv_eq, if_neg (by decide), gi12 (by omega), if_neg hd]
          by_cases q : M i = -1
          · rw [if_pos q, if_pos q, gi12 (by omega)]
            by_cases q2 : F i = -1
            · exact absurd (by rw [q, q2]) hd
            · rw [if_neg q2, if_neg q2, gi12 (by omega), mtn_eq w hF (by omega) q2, sg_eq, Int32.or_zero]
              have e : (0 : Int32) ||| sg (mtn F i) = sg (mtn F i) := s_ext (fun i => by rw [m_or, b_0]; simp)
              rw [e]
          · rw [if_neg q, if_neg q, gi12 (by omega), gi12 (by omega), mtn_eq w hM (by omega) q, sg_eq]
            by_cases q2 : F i = -1
            · rw [if_pos q2, if_pos q2, Int32.or_zero, Int32.or_zero]
            · rw [if_neg q2, if_neg q2, gi12 (by omega), mtn_eq w hF (by omega) q2, sg_eq, Int32.or_assoc]
      · rw [if_neg hb, if_neg hb, if_pos rfl]
    · show f_X7_joined_b16 _ _ _ _ = _
      unfold f_X7_joined_b16
      rw [hG.1, if_pos (nI_le (Nat.le_refl n) (by omega))]
  have key : ∀ d S B, 12 - pcn S < d → Bd n S → bt S v = true → (∀ i, bt S i = true → RC (dgr M F) (al n) v i) → (S = B → pas (dgr M F) (al n) S n = S) → ∃ R, lp (fun s : Int32 × Int32 => f_X7_joined_b6 s.1 s.2 σ) (S, B) = some R ∧ IsC n (dgr M F) (al n) v R := by
    intro d
    induction d with
    | zero => intro S B h; omega
    | succ d ih =>
      intro S B hd hS hvS hr hB
      have fin : pas (dgr M F) (al n) S n = S → IsC n (dgr M F) (al n) v S := fun hp => ⟨hS, fun i hi => ⟨hr i, fun q => RC.closed hvS (fun u x hu hA hx => pas_fix hp (b_lt hS hu) hu hA hx) q⟩⟩
      by_cases e : S = B
      · refine ⟨S, lp_end ?_, fin (hB e)⟩
        dsimp only
        unfold f_X7_joined_b6
        rw [if_pos e]
      · have go : lp (fun s : Int32 × Int32 => f_X7_joined_b6 s.1 s.2 σ) (S, B) = lp (fun s : Int32 × Int32 => f_X7_joined_b6 s.1 s.2 σ) (pas (dgr M F) (al n) S n, S) := by
          refine lp_go ?_
          dsimp only
          unfold f_X7_joined_b6
          rw [if_neg e, inner S hS]
        rw [go]
        by_cases e2 : pas (dgr M F) (al n) S n = S
        · refine ⟨S, lp_end ?_, fin e2⟩
          dsimp only
          unfold f_X7_joined_b6
          rw [if_pos e2, e2]
        · have hg : pcn S < pcn (pas (dgr M F) (al n) S n) := pcn_grow ((pas_bd (A := dgr M F) hW hS n).mono hn) (fun i => pas_up (a := 0) (Nat.zero_le n) i) e2
          have hle := pcn_le (n := 12) (Nat.le_refl _) ((pas_bd (A := dgr M F) hW hS n).mono hn)
          exact ih _ _ (by omega) (pas_bd hW hS n) (pas_up (Nat.zero_le n) v hvS) (pas_rc hr n) (fun q => absurd q e2)
  obtain ⟨R, e, h⟩ := key 13 (sg v) 0 (by omega) (Bd.sg hv (by omega)) (by rw [b_sg (by omega) (by omega)]; simp) (fun i hi => by
    rw [b_sg (by omega) (lt32 hi)] at hi
    simp only [decide_eq_true_eq] at hi
    subst hi; exact RC.here _ _ _) (fun q => by
    exfalso
    have : bt (sg v) v = true := by rw [b_sg (by omega) (by omega)]; simp
    rw [q, b_0] at this
    cases this)
  rw [e, h.uniq (dpc_spec w hM hF hv)]
theorem x_isRing_eq {n : Nat} {A M F : Nat → Int32} {σ : WD} (w : GW n A) (hG : GR n A σ) (hC : RM M σ) (hC2 : ∀ i, i < n → σ.1 36 i = F i) (v : Nat) : f_X7_isRing (dpc n M F v) σ = some (if drg n M F v = true then 1 else 0) := by
  have hn := w.2.1
  unfold f_X7_isRing f_X7_isRing_4
  have hlp := lp_for (f := fun s : Int32 × Int32 => f_X7_isRing_b4 (dpc n M F v) s.1 s.2 σ) (r := if drg n M F v = true then (1 : Int32) else 0) (fun i => ((if (List.range i).all (fun x => !bt (dpc n M F v) x || (decide (M x ≠ -1) && decide (F x ≠ -1))) = true then (1 : Int32) else 0), nI i)) (a := 0) (b := n) (Nat.zero_le _) (fun i _ hi => by
    show f_X7_isRing_b4 _ _ _ σ = _
    unfold f_X7_isRing_b4
    rw [hG.1, if_neg (nI_ge hi (by omega)), has_eq (by omega), bv_eq, gi12 (by omega), gi12 (by omega), nI_clamp (by omega), hC i (by omega), hC2 i hi, nI_1, List.range_succ, List.all_append]
    cases (List.range i).all (fun x => !bt (dpc n M F v) x || (decide (M x ≠ -1) && decide (F x ≠ -1)))
    · simp
    · cases hb : bt (dpc n M F v) i
      · simp [hb]
      · by_cases q : M i = -1
        · simp [hb, q]
        · by_cases q2 : F i = -1
          · simp [hb, q, q2]
          · simp [hb, q, q2]) (by
    show f_X7_isRing_b4 _ _ _ σ = _
    unfold f_X7_isRing_b4
    rw [hG.1, if_pos (nI_le (Nat.le_refl n) (by omega))]
    show gb (if drg n M F v = true then (1 : Int32) else 0) (some (Sum.inr (if drg n M F v = true then (1 : Int32) else 0))) = _
    cases drg n M F v
    · rfl
    · rfl)
  exact hlp
theorem x_difference_eq {n : Nat} {A M F : Nat → Int32} {σ : WD} (w : GW n A) (hG : GR n A σ) (hM : MW n A M) (hF : MW n A F) (hC : RM M σ) (hC2 : ∀ i, i < n → σ.1 36 i = F i) (l1 : Int32) : f_X7_differenceNow l1 σ = some (nI (dfc n M F (decide (l1 = 0)) n)) := by
  have hn := w.2.1
  have wd := dgr_gw w hM hF
  have hal : Bd n (al n) := Bd.al (by omega)
  unfold f_X7_differenceNow f_X7_differenceNow_10
  rw [hG.al, bv_eq]
  -- what is left
  obtain ⟨s', ⟨L, hs', hL⟩, el⟩ := lp_inv (f := fun s : Int32 × Int32 × Int32 => f_X7_differenceNow_b10 l1 s.1 s.2.1 s.2.2 σ) (fun k s => ∃ L, s = (L, nI (dfc n M F (decide (l1 = 0)) k), nI k) ∧ ∀ x, bt L x = true ↔ x < n ∧ ∀ u, u < k → dst n M F u = true → ¬ bt (dpc n M F u) x = true) (a := 0) (b := n) (Nat.zero_le _) (s := (al n, 0, 0)) ⟨al n, rfl, fun x => by
    rw [al_iff hn]
    exact ⟨fun q => ⟨q, fun u hu => by omega⟩, fun q => q.1⟩⟩ (fun v s _ hv hs => by
    obtain ⟨L, rfl, hL⟩ := hs
    have hCv := dpc_spec w hM hF hv
    have hself : bt (dpc n M F v) v = true := (hCv.2 v hv).mpr (RC.here _ _ _)
    have hne : dpc n M F v ≠ 0 := cmp_ne0 wd hal hv
    obtain ⟨lw1, lw2, lw3⟩ := lwn_spec (hCv.1.mono hn) hne
    have key : bt L v = true ∧ M v ≠ F v ↔ dst n M F v = true := by
      unfold dst
      simp only [Bool.and_eq_true, decide_eq_true_eq]
      constructor
      · rintro ⟨q1, q2⟩
        refine ⟨?_, q2⟩
        obtain ⟨u, hu⟩ : ∃ u, u = lwn (dpc n M F v) := ⟨_, rfl⟩
        rw [← hu] at lw1 lw2 lw3 ⊢
        have hun := b_lt hCv.1 lw2
        have hle : u ≤ v := by
          rcases Nat.lt_or_ge v u with g | g
          · rw [lw3 v g] at hself; cases hself
          · exact g
        rcases Nat.eq_or_lt_of_le hle with g | g
        · exact g
        · exfalso
          have ruv := (hCv.2 u hun).mp lw2
          have rvu := (RC.sym wd hal ((al_iff hn).mpr hv) ruv).2
          have hCu := dpc_spec w hM hF hun
          have same : dpc n M F u = dpc n M F v := s_ext (fun x => by
            constructor
            · intro q
              have hx := b_lt hCu.1 q
              exact (hCv.2 x hx).mpr (ruv.tr ((hCu.2 x hx).mp q))
            · intro q
              have hx := b_lt hCv.1 q
              exact (hCu.2 x hx).mpr (rvu.tr ((hCv.2 x hx).mp q)))
          have hdu : dst n M F u = true := by
            unfold dst
            simp only [Bool.and_eq_true, decide_eq_true_eq]
            exact ⟨by rw [same]; exact hu.symm, dpc_diff w hM hF hv q2 lw2⟩
          exact ((hL v).mp q1).2 u g hdu (by rw [same]; exact hself)
      · rintro ⟨q1, q2⟩
        refine ⟨(hL v).mpr ⟨hv, fun u hu hdu hb => ?_⟩, q2⟩
        have hCu := dpc_spec w hM hF (show u < n by omega)
        have ruv := (hCu.2 v hv).mp hb
        have rvu := (RC.sym wd hal ((al_iff hn).mpr (show u < n by omega)) ruv).2
        have := (hCv.2 u (by omega)).mpr rvu
        rw [lw3 u (by omega)] at this; cases this
    have skip : ¬ dst n M F v = true → ∀ x, bt L x = true ↔ x < n ∧ ∀ u, u < v + 1 → dst n M F u = true → ¬ bt (dpc n M F u) x = true := fun hno x => by
      rw [hL x]
      refine ⟨fun q => ⟨q.1, fun u hu hd => ?_⟩, fun q => ⟨q.1, fun u hu => q.2 u (by omega)⟩⟩
      by_cases e : u = v
      · rw [e] at hd; exact absurd hd hno
      · exact q.2 u (by omega) hd
    have hdf : f_X7_differs (nI v) σ = some (if M v = F v then 0 else 1) := by
      unfold f_X7_differs
      rw [gi12 (by omega), gi12 (by omega), nI_clamp (by omega), hC v (by omega), hC2 v hv]
      split <;> rfl
    dsimp only
    unfold f_X7_differenceNow_b10
    rw [hG.1, if_neg (nI_ge hv (by omega)), has_eq (by omega), bv_eq, nI_1, hdf, bv_eq, dfc_succ]
    by_cases hb : bt L v = true
    · rw [if_pos hb, if_neg (by decide)]
      by_cases hd : M v = F v
      · have hno : ¬ dst n M F v = true := fun q => (key.mpr q).2 hd
        rw [if_pos hd, if_pos rfl, if_neg (by simp [hno])]
        exact ⟨_, rfl, L, rfl, skip hno⟩
      · have hyes : dst n M F v = true := key.mp ⟨hb, hd⟩
        rw [if_neg hd, if_neg (by decide), x_joined_eq w hG hM hF hC hC2 hv, bv_eq, dif_eq, li_eq, x_isRing_eq w hG hC hC2, bv_eq]
        unfold f_X7_differenceNow_68
        have hL' : ∀ x, bt (dif L (dpc n M F v)) x = true ↔ x < n ∧ ∀ u, u < v + 1 → dst n M F u = true → ¬ bt (dpc n M F u) x = true := fun x => by
          rw [m_dif, hL x]
          constructor
          · rintro ⟨⟨q1, q2⟩, q3⟩
            refine ⟨q1, fun u hu hdu => ?_⟩
            by_cases e : u = v
            · rw [e, q3]; decide
            · exact q2 u (by omega) hdu
          · rintro ⟨q1, q2⟩
            exact ⟨⟨q1, fun u hu => q2 u (by omega)⟩, by simpa using q2 v (by omega) hyes⟩
        refine ⟨(dif L (dpc n M F v), nI (dfc n M F (decide (l1 = 0)) v + if (dst n M F v && (drg n M F v == decide (l1 = 0))) = true then 1 else 0), nI (v + 1)), ?_, dif L (dpc n M F v), rfl, hL'⟩
        rw [hyes, Bool.true_and]
        by_cases q : l1 = 0
        · rw [if_pos q, decide_eq_true q]
          cases drg n M F v
          · rw [if_neg (by decide), if_neg (by decide), nI_1, Int32.add_zero]; rfl
          · rw [if_pos (by decide), if_pos (by decide), nI_1, nI_1]
        · rw [if_neg q, decide_eq_false q]
          cases drg n M F v
          · rw [if_pos (by decide), if_pos (by decide), nI_1, nI_1]
          · rw [if_neg (by decide), if_neg (by decide), nI_1, Int32.add_zero]; rfl
    · have hno : ¬ dst n M F v = true := fun q => hb (key.mpr q).1
      rw [if_neg hb, if_pos rfl, if_neg (by simp [hno])]
      exact ⟨_, rfl, L, rfl, skip hno⟩)
  have el' : lp (fun s : Int32 × Int32 × Int32 => f_X7_differenceNow_b10 l1 s.1 s.2.1 s.2.2 σ) (al n, 0, 0) = lp (fun s : Int32 × Int32 × Int32 => f_X7_differenceNow_b10 l1 s.1 s.2.1 s.2.2 σ) s' := el
  rw [el', hs']
  refine lp_end ?_
  dsimp only
  unfold f_X7_differenceNow_b10
  rw [hG.1, if_pos (nI_le (Nat.le_refl n) (by omega))]
