-- ===== the first maximum matching is a matching; difference =====
theorem ff_mw {n : Nat} {A : Nat → Int32} (w : GW n A) : ∀ v, v ≤ n → MW n A (ff n A v).2
  | 0, _ => fun i _ => Or.inl rfl
  | v + 1, hv => by
    have hn := w.2.1
    have ih := ff_mw w v (by omega)
    have hm := ff_m1 hn A v (by omega)
    rw [ff_succ]
    by_cases h1 : bt (ff n A v).1 v = true
    · rw [if_pos h1]
      by_cases h2 : lmw n A (ff n A v).1 v < n
      · rw [if_pos h2]
        obtain ⟨l1, l2, l3, l4⟩ := lmw_lt h2
        have l5 := ((m_cl (by omega)).mp l2).1
        exact ih.join w (by omega) (by omega) h2 (hm v (by omega) h1) (hm _ h2 l5) l3
      · rw [if_neg h2]; exact ih
    · rw [if_neg h1]; exact ih
theorem fm_mw {n : Nat} {A : Nat → Int32} (w : GW n A) : MW n A (fm n A) := ff_mw w n (Nat.le_refl n)
/-- the edges that are in just one of two matchings -/
def dgr (M F : Nat → Int32) (x : Nat) : Int32 := if M x = F x then 0 else (if M x = -1 then 0 else sg (mtn M x)) ||| (if F x = -1 then 0 else sg (mtn F x))
theorem dgr_iff {n : Nat} {A M F : Nat → Int32} (w : GW n A) (hM : MW n A M) (hF : MW n A F) {x : Nat} (hx : x < 12) (y : Nat) : bt (dgr M F x) y = true ↔ M x ≠ F x ∧ ((M x ≠ -1 ∧ y = mtn M x) ∨ (F x ≠ -1 ∧ y = mtn F x)) := by
  have hn := w.2.1
  have one : ∀ N : Nat → Int32, MW n A N → (bt (if N x = -1 then 0 else sg (mtn N x)) y = true ↔ N x ≠ -1 ∧ y = mtn N x) := by
    intro N hN
    by_cases q : N x = -1
    · rw [if_pos q, b_0]
      exact ⟨fun g => by (cases g), fun g => absurd q g.1⟩
    · have := (hN.mat hx q).2.1
      rw [if_neg q]
      constructor
      · intro g
        rw [b_sg (by omega) (lt32 g)] at g
        simp only [decide_eq_true_eq] at g
        exact ⟨q, g⟩
      · rintro ⟨-, g⟩
        rw [g, b_sg (by omega) (by omega)]; simp
  unfold dgr
  by_cases e : M x = F x
  · rw [if_pos e, b_0]
    exact ⟨fun g => by (cases g), fun g => absurd e g.1⟩
  · rw [if_neg e, m_or, one M hM, one F hF]
    exact ⟨fun g => ⟨e, g⟩, fun g => g.2⟩
theorem mtn_eq {n : Nat} {A M : Nat → Int32} (w : GW n A) (hM : MW n A M) {x : Nat} (hx : x < 12) (q : M x ≠ -1) : M x = nI (mtn M x) := (hM.mat hx q).2.2.1
theorem dgr_sy {n : Nat} {A M F : Nat → Int32} (w : GW n A) (hM : MW n A M) (hF : MW n A F) {x y : Nat} (hx : x < 12) (h : bt (dgr M F x) y = true) : y < n ∧ x < n ∧ x ≠ y ∧ bt (dgr M F y) x = true := by
  have hn := w.2.1
  rw [dgr_iff w hM hF hx] at h
  obtain ⟨h1, h2⟩ := h
  have one : ∀ N K : Nat → Int32, MW n A N → MW n A K → N x ≠ K x → N x ≠ -1 → y = mtn N x → y < n ∧ x < n ∧ x ≠ y ∧ N y ≠ K y ∧ N y ≠ -1 ∧ x = mtn N y := by
    intro N K hN hK g1 g2 g3
    obtain ⟨a, b, c, d, e⟩ := hN.mat hx g2
    obtain ⟨b1, b2⟩ := hN.back w hx g2
    have b3 := hN.ne w hx g2
    rw [← g3] at b b1 b2 b3 d c
    refine ⟨b, a, fun q => b3 q.symm, fun q => ?_, b1, b2.symm⟩
    have k1 : K y ≠ -1 := by rw [← q]; exact b1
    obtain ⟨a', b', c', d', e'⟩ := hK.mat (show y < 12 by omega) k1
    have k2 : mtn K y = x := by
      show (K y).toNatClampNeg = x
      rw [← q]; exact b2
    rw [k2] at d'
    rw [c, d'] at g1
    exact g1 rfl
  rcases h2 with ⟨g2, g3⟩ | ⟨g2, g3⟩
  · obtain ⟨r1, r2, r3, r4, r5, r6⟩ := one M F hM hF h1 g2 g3
    exact ⟨r1, r2, r3, (dgr_iff w hM hF (by omega) x).mpr ⟨r4, Or.inl ⟨r5, r6⟩⟩⟩
  · obtain ⟨r1, r2, r3, r4, r5, r6⟩ := one F M hF hM (fun q => h1 q.symm) g2 g3
    exact ⟨r1, r2, r3, (dgr_iff w hM hF (by omega) x).mpr ⟨fun q => r4 q.symm, Or.inr ⟨r5, r6⟩⟩⟩
theorem dgr_gw {n : Nat} {A M F : Nat → Int32} (w : GW n A) (hM : MW n A M) (hF : MW n A F) : GW n (dgr M F) := by
  have hn := w.2.1
  refine ⟨w.1, hn, fun i hi j h1 h2 => ?_, fun i j hi hj => ?_, fun i hi => ?_⟩
  · cases q : bt (dgr M F i) j
    · rfl
    · have := (dgr_sy w hM hF hi q).1; omega
  · cases q : bt (dgr M F i) j
    · cases q2 : bt (dgr M F j) i
      · rfl
      · rw [(dgr_sy w hM hF hj q2).2.2.2] at q; cases q
    · rw [(dgr_sy w hM hF hi q).2.2.2]
  · cases q : bt (dgr M F i) i
    · rfl
    · exact absurd rfl (dgr_sy w hM hF hi q).2.2.1
/-- the world in which the graph of the differences stands for the graph -/
def sw (σ : WD) : WD := (fun c => if c = 1 then σ.1 27 else if c = 2 then σ.1 28 else σ.1 c, σ.2)
theorem pieceOf_sw (a b : Int32) (σ : WD) : f_X0_pieceOf_d a b σ = f_X0_pieceOf a b (sw σ) := rfl
theorem joined_sw (a b : Int32) (σ : WD) : f_X0_joined_d a b σ = f_X0_joined a b (sw σ) := rfl
theorem put_d_eq {σ : WD} {a b : Nat} (ha : a < 12) (hb : b < 12) (hab : a ≠ b) (hs : bt (σ.1 28 a) b = bt (σ.1 28 b) a) : ∃ τ, f_X0_put_d (nI a) (nI b) 1 σ = some τ ∧ Fr [27, 28] σ τ ∧ τ.1 27 0 = σ.1 27 0 ∧ ∀ x, x < 12 → ∀ y, bt (τ.1 28 x) y = true ↔ bt (σ.1 28 x) y = true ∨ (x = a ∧ y = b) ∨ (x = b ∧ y = a) := by
  unfold f_X0_put_d f_X0_joined_d
  rw [gi12 ha, nI_clamp (by omega), tb_eq (by omega)]
  by_cases hj : bt (σ.1 28 a) b = true
  · rw [if_pos hj, if_neg (by decide), bv_eq, if_pos rfl]
    refine ⟨σ, rfl, Fr.rf _ _, rfl, fun x hx y => ⟨Or.inl, ?_⟩⟩
    rintro (g | ⟨g1, g2⟩ | ⟨g1, g2⟩)
    · exact g
    · rw [g1, g2]; exact hj
    · rw [g1, g2, ← hs]; exact hj
  · have hj' : bt (σ.1 28 a) b = false := by simpa using hj
    rw [if_neg hj, if_pos rfl, bv_eq, if_neg (by decide), gi12 ha, gi12 ha, lt_eq, gi12 hb, gi12 hb, nI_clamp (by omega), lt_eq, lt_eq, sg_eq, sg_eq]
    refine ⟨_, rfl, (((Fr.rf _ _).upi (by decide) _ _).upi (by decide) _ _).upi (by decide) _ _, ?_, fun x hx y => ?_⟩
    · simp [upi_get, upd_get]
    · simp only [upi_get, upd_get, if_neg (show ¬ (28 : Nat) = 27 by decide), if_true, if_neg (fun q : b = a => hab q.symm)]
      rcases Nat.lt_or_ge y 32 with hy | hy
      · by_cases e1 : x = b
        · subst e1
          rw [if_pos rfl, b_xor, b_sg (by omega) hy]
          by_cases e2 : y = a
          · subst e2
            rw [← hs, hj']; simp [hab]
          · simp [e2, show ¬ x = a from fun q => hab q.symm]
        · rw [if_neg e1]
          by_cases e2 : x = a
          · subst e2
            rw [if_pos rfl, b_xor, b_sg (by omega) hy]
            by_cases e3 : y = b
            · subst e3
              rw [hj']; simp
            · simp [e3, e1]
          · rw [if_neg e2]; simp [e1, e2]
      · rw [b_big hy, b_big hy]
        have : ¬ ((x = a ∧ y = b) ∨ (x = b ∧ y = a)) := fun q => by omega
        simp [this]
/-- the differences are drawn -/
def DD (n : Nat) (M F : Nat → Int32) (k : Nat) (σ : WD) : Prop := σ.1 27 0 = nI n ∧ ∀ x, x < 12 → ∀ y, bt (σ.1 28 x) y = true ↔ bt (dgr M F x) y = true ∧ (x < k ∨ y < k)
theorem draw_eq {n : Nat} {A M F : Nat → Int32} {σ : WD} (w : GW n A) (hG : GC n A σ) (hM : MW n A M) (hC : CM M σ) (hF : MW n A F) (hC2 : ∀ i, i < 12 → σ.1 26 i = F i) : ∃ τ, f_X6_drawDifferences σ = some τ ∧ Fr [27, 28] σ τ ∧ GC n (dgr M F) (sw τ) := by
  have hn := w.2.1
  unfold f_X6_drawDifferences f_X0_clear_d
  rw [lt_eq, lt_eq, lt_eq, bv_eq, hG.1]
  obtain ⟨σ1, hσ1⟩ : ∃ s, s = upi (ups (upi σ 27 0 (nI n)) 28 (fillf ((upi σ 27 0 (nI n)).1 28) 12 0)) 27 2 ((ups (upi σ 27 0 (nI n)) 28 (fillf ((upi σ 27 0 (nI n)).1 28) 12 0)).1 27 2 + 1) := ⟨_, rfl⟩
  rw [← hσ1]
  have f1 : Fr [27, 28] σ σ1 := by rw [hσ1]; exact (((Fr.rf _ _).upi (by decide) _ _).ups (by decide) _).upi (by decide) _ _
  have d1 : DD n M F 0 σ1 := by
    refine ⟨by rw [hσ1]; simp [upi_get, ups_get, upd_get], fun x hx y => ?_⟩
    have : σ1.1 28 x = 0 := by rw [hσ1]; simp [upi_get, ups_get, fillf, hx]
    rw [this, b_0]
    exact ⟨fun g => by (cases g), fun g => by omega⟩
  unfold f_X6_drawDifferences_16
  -- one edge
  have edge : ∀ k b τ, k < n → Fr [27, 28] σ τ → τ.1 27 0 = nI n → (∀ x, x < 12 → ∀ y, x < 12 → y < 12 → bt (τ.1 28 x) y = bt (τ.1 28 y) x) → bt (dgr M F k) b = true → ∃ τ2, f_X0_put_d (nI k) (nI b) 1 τ = some τ2 ∧ Fr [27, 28] σ τ2 ∧ τ2.1 27 0 = nI n ∧ (∀ x, x < 12 → ∀ y, x < 12 → y < 12 → bt (τ2.1 28 x) y = bt (τ2.1 28 y) x) ∧ ∀ x, x < 12 → ∀ y, bt (τ2.1 28 x) y = true ↔ bt (τ.1 28 x) y = true ∨ (x = k ∧ y = b) ∨ (x = b ∧ y = k) := by
    intro k b τ hk hf h27 hsy hb
    obtain ⟨r1, r2, r3, r4⟩ := dgr_sy w hM hF (show k < 12 by omega) hb
    obtain ⟨τ2, e2, f2, g2, b2⟩ := put_d_eq (σ := τ) (a := k) (b := b) (by omega) (by omega) r3 (hsy k (by omega) b (by omega) (by omega))
    refine ⟨τ2, e2, hf.tr f2, by rw [g2]; exact h27, fun x hx y _ hy => ?_, b2⟩
    have i1 := b2 x hx y
    have i2 := b2 y hy x
    rw [hsy x hx y hx hy] at i1
    have i3 : bt (τ2.1 28 x) y = true ↔ bt (τ2.1 28 y) x = true := by
      rw [i1, i2]
      constructor
      · rintro (g | ⟨g1, g2⟩ | ⟨g1, g2⟩)
        · exact Or.inl g
        · exact Or.inr (Or.inr ⟨g2, g1⟩)
        · exact Or.inr (Or.inl ⟨g2, g1⟩)
      · rintro (g | ⟨g1, g2⟩ | ⟨g1, g2⟩)
        · exact Or.inl g
        · exact Or.inr (Or.inr ⟨g2, g1⟩)
        · exact Or.inr (Or.inl ⟨g2, g1⟩)
    cases q : bt (τ2.1 28 x) y <;> cases q2 : bt (τ2.1 28 y) x <;> simp_all
  have dsy : ∀ k τ, DD n M F k τ → ∀ x, x < 12 → ∀ y, x < 12 → y < 12 → bt (τ.1 28 x) y = bt (τ.1 28 y) x := by
    intro k τ hd x hx y _ hy
    have i1 := hd.2 x hx y
    have i2 := hd.2 y hy x
    have i3 : bt (τ.1 28 x) y = true ↔ bt (τ.1 28 y) x = true := by
      rw [i1, i2]
      constructor
      · rintro ⟨g1, g2⟩; exact ⟨(dgr_sy w hM hF hx g1).2.2.2, g2.symm⟩
      · rintro ⟨g1, g2⟩; exact ⟨(dgr_sy w hM hF hy g1).2.2.2, g2.symm⟩
    cases q : bt (τ.1 28 x) y <;> cases q2 : bt (τ.1 28 y) x <;> simp_all
  obtain ⟨s', ⟨τ, hs', hf, hd⟩, el⟩ := lp_inv (f := fun s : Int32 × WD => f_X6_drawDifferences_b16 s.1 s.2) (fun k s => ∃ τ, s = (nI k, τ) ∧ Fr [27, 28] σ τ ∧ DD n M F k τ) (a := 0) (b := n) (Nat.zero_le _) (s := (0, σ1)) ⟨σ1, rfl, f1, d1⟩ (fun k s _ hk hs => by
    obtain ⟨τ, rfl, hf, hd⟩ := hs
    have hGt := hG.fr hf (by decide) (by decide)
    have m4 : τ.1 4 k = M k := hC.fr hf (by decide) k (by omega)
    have m26 : τ.1 26 k = F k := by rw [hf.1 26 (by decide)]; exact hC2 k (by omega)
    dsimp only
    unfold f_X6_drawDifferences_b16 f_X6_drawDifferences_66
    rw [hGt.1, if_neg (nI_ge hk (by omega)), gi12 (by omega), nI_clamp (by omega), m4, li_eq, gi12 (by omega), m26, li_eq, nI_1]
    -- what must stand then
    have fin : ∀ τ2, Fr [27, 28] σ τ2 → τ2.1 27 0 = nI n → (∀ x, x < 12 → ∀ y, bt (τ2.1 28 x) y = true ↔ bt (τ.1 28 x) y = true ∨ (x = k ∧ bt (dgr M F k) y = true) ∨ (y = k ∧ bt (dgr M F k) x = true)) → ∃ s', some (Sum.inl (nI (k + 1), τ2) : (Int32 × WD) ⊕ WD) = some (Sum.inl s') ∧ ∃ τ, s' = (nI (k + 1), τ) ∧ Fr [27, 28] σ τ ∧ DD n M F (k + 1) τ := by
      intro τ2 g1 g2 g3
      refine ⟨_, rfl, τ2, rfl, g1, g2, fun x hx y => ?_⟩
      rw [g3 x hx y, hd.2 x hx y]
      constructor
      · rintro (⟨q1, q2⟩ | ⟨q1, q2⟩ | ⟨q1, q2⟩)
        · exact ⟨q1, by omega⟩
        · rw [q1]; exact ⟨q2, by omega⟩
        · rw [q1]; exact ⟨(dgr_sy w hM hF (by omega) q2).2.2.2, by omega⟩
      · rintro ⟨q1, q2⟩
        by_cases q3 : x = k
        · rw [q3] at q1; exact Or.inr (Or.inl ⟨q3, q1⟩)
        · by_cases q4 : y = k
          · rw [q4] at q1; exact Or.inr (Or.inr ⟨q4, (dgr_sy w hM hF hx q1).2.2.2⟩)
          · exact Or.inl ⟨q1, by omega⟩
    have dk := fun y => dgr_iff w hM hF (show k < 12 by omega) y
    by_cases hMF : M k = F k
    · -- no difference
      have hno : ∀ y, ¬ bt (dgr M F k) y = true := fun y q => ((dk y).mp q).1 hMF
      have e0 : (if M k = -1 then (if F k = -1 then some (Sum.inl (nI (k + 1), τ) : (Int32 × WD) ⊕ WD) else if M k = F k then some (Sum.inl (nI (k + 1), τ)) else bv (f_X0_put_d (nI k) (F k) 1 τ) (fun σ86 => some (.inl (nI (k + 1), σ86)))) else if M k = F k then (if F k = -1 then some (Sum.inl (nI (k + 1), τ)) else if M k = F k then some (Sum.inl (nI (k + 1), τ)) else bv (f_X0_put_d (nI k) (F k) 1 τ) (fun σ86 => some (.inl (nI (k + 1), σ86)))) else bv (f_X0_put_d (nI k) (M k) 1 τ) (fun σ63 => if F k = -1 then some (Sum.inl (nI (k + 1), σ63)) else if M k = F k then some (Sum.inl (nI (k + 1), σ63)) else bv (f_X0_put_d (nI k) (F k) 1 σ63) (fun σ86 => some (.inl (nI (k + 1), σ86))))) = some (Sum.inl (nI (k + 1), τ)) := by
        rw [if_pos hMF]
        repeat' split
        all_goals rfl
      rw [e0]
      refine fin τ hf hd.1 (fun x hx y => ⟨Or.inl, ?_⟩)
      rintro (g | ⟨-, g⟩ | ⟨-, g⟩)
      · exact g
      · exact absurd g (hno _)
      · exact absurd g (hno _)
    · -- the mate now, if there is one
      have first : ∃ τ1, (if M k = -1 then some τ else f_X0_put_d (nI k) (M k) 1 τ) = some τ1 ∧ Fr [27, 28] σ τ1 ∧ τ1.1 27 0 = nI n ∧ (∀ x, x < 12 → ∀ y, x < 12 → y < 12 → bt (τ1.1 28 x) y = bt (τ1.1 28 y) x) ∧ ∀ x, x < 12 → ∀ y, bt (τ1.1 28 x) y = true ↔ bt (τ.1 28 x) y = true ∨ (M k ≠ -1 ∧ ((x = k ∧ y = mtn M k) ∨ (x = mtn M k ∧ y = k))) := by
        by_cases q : M k = -1
        · rw [if_pos q]
          refine ⟨τ, rfl, hf, hd.1, dsy k τ hd, fun x hx y => ⟨Or.inl, ?_⟩⟩
          rintro (g | ⟨g, -⟩)
          · exact g
          · exact absurd q g
        · rw [if_neg q]
          obtain ⟨τ2, e2, f2, g2, s2, b2⟩ := edge k (mtn M k) τ hk hf hd.1 (dsy k τ hd) ((dk _).mpr ⟨hMF, Or.inl ⟨q, rfl⟩⟩)
          rw [← mtn_eq w hM (by omega) q] at e2
          refine ⟨τ2, e2, f2, g2, s2, fun x hx y => ?_⟩
          rw [b2 x hx y]
          exact ⟨fun g => g.elim Or.inl (fun g => Or.inr ⟨q, g⟩), fun g => g.elim Or.inl (fun g => Or.inr g.2)⟩
      obtain ⟨τ1, e1, f1, g1, s1, b1⟩ := first
      have second : ∃ τ2, (if F k = -1 then some (Sum.inl (nI (k + 1), τ1) : (Int32 × WD) ⊕ WD) else if M k = F k then some (Sum.inl (nI (k + 1), τ1)) else bv (f_X0_put_d (nI k) (F k) 1 τ1) (fun σ86 => some (.inl (nI (k + 1), σ86)))) = some (Sum.inl (nI (k + 1), τ2)) ∧ Fr [27, 28] σ τ2 ∧ τ2.1 27 0 = nI n ∧ ∀ x, x < 12 → ∀ y, bt (τ2.1 28 x) y = true ↔ bt (τ1.1 28 x) y = true ∨ (F k ≠ -1 ∧ ((x = k ∧ y = mtn F k) ∨ (x = mtn F k ∧ y = k))) := by
        by_cases q : F k = -1
        · rw [if_pos q]
          refine ⟨τ1, rfl, f1, g1, fun x hx y => ⟨Or.inl, ?_⟩⟩
          rintro (g | ⟨g, -⟩)
          · exact g
          · exact absurd q g
        · rw [if_neg q, if_neg hMF]
          obtain ⟨τ2, e2, f2, g2, s2, b2⟩ := edge k (mtn F k) τ1 hk f1 g1 s1 ((dk _).mpr ⟨hMF, Or.inr ⟨q, rfl⟩⟩)
          rw [← mtn_eq w hF (by omega) q] at e2
          refine ⟨τ2, by rw [e2, bv_eq], f2, g2, fun x hx y => ?_⟩
          rw [b2 x hx y]
          exact ⟨fun g => g.elim Or.inl (fun g => Or.inr ⟨q, g⟩), fun g => g.elim Or.inl (fun g => Or.inr g.2)⟩
      obtain ⟨τ2, e2, f2, g2, b2⟩ := second
      have e3 : (if M k = -1 then (if F k = -1 then some (Sum.inl (nI (k + 1), τ) : (Int32 × WD) ⊕ WD) else if M k = F k then some (Sum.inl (nI (k + 1), τ)) else bv (f_X0_put_d (nI k) (F k) 1 τ) (fun σ86 => some (.inl (nI (k + 1), σ86)))) else if M k = F k then (if F k = -1 then some (Sum.inl (nI (k + 1), τ)) else if M k = F k then some (Sum.inl (nI (k + 1), τ)) else bv (f_X0_put_d (nI k) (F k) 1 τ) (fun σ86 => some (.inl (nI (k + 1), σ86)))) else bv (f_X0_put_d (nI k) (M k) 1 τ) (fun σ63 => if F k = -1 then some (Sum.inl (nI (k + 1), σ63)) else if M k = F k then some (Sum.inl (nI (k + 1), σ63)) else bv (f_X0_put_d (nI k) (F k) 1 σ63) (fun σ86 => some (.inl (nI (k + 1), σ86))))) = some (Sum.inl (nI (k + 1), τ2)) := by
        by_cases q : M k = -1
        · rw [if_pos q] at e1
          have e1 := Option.some.inj e1
          rw [if_pos q, e1]; exact e2
        · rw [if_neg q] at e1
          rw [if_neg q, if_neg hMF, e1, bv_eq]; exact e2
      rw [e3]
      refine fin τ2 f2 g2 (fun x hx y => ?_)
      rw [b2 x hx y, b1 x hx y, dk y, dk x]
      constructor
      · rintro ((g | ⟨g1, ⟨g2, g3⟩ | ⟨g2, g3⟩⟩) | ⟨g1, ⟨g2, g3⟩ | ⟨g2, g3⟩⟩)
        · exact Or.inl g
        · exact Or.inr (Or.inl ⟨g2, hMF, Or.inl ⟨g1, g3⟩⟩)
        · exact Or.inr (Or.inr ⟨g3, hMF, Or.inl ⟨g1, g2⟩⟩)
        · exact Or.inr (Or.inl ⟨g2, hMF, Or.inr ⟨g1, g3⟩⟩)
        · exact Or.inr (Or.inr ⟨g3, hMF, Or.inr ⟨g1, g2⟩⟩)
      · rintro (g | ⟨g1, -, ⟨g2, g3⟩ | ⟨g2, g3⟩⟩ | ⟨g1, -, ⟨g2, g3⟩ | ⟨g2, g3⟩⟩)
        · exact Or.inl (Or.inl g)
        · exact Or.inl (Or.inr ⟨g2, Or.inl ⟨g1, g3⟩⟩)
        · exact Or.inr ⟨g2, Or.inl ⟨g1, g3⟩⟩
        · exact Or.inl (Or.inr ⟨g2, Or.inr ⟨g3, g1⟩⟩)
        · exact Or.inr ⟨g2, Or.inr ⟨g3, g1⟩⟩)
  rw [el, hs']
  refine ⟨τ, lp_end ?_, hf, hd.1, fun i hi => ?_⟩
  · dsimp only
    unfold f_X6_drawDifferences_b16
    rw [(hG.fr hf (by decide) (by decide)).1, if_pos (nI_le (Nat.le_refl n) (by omega))]
  · show τ.1 28 i = dgr M F i
    refine s_ext (fun y => ?_)
    rw [hd.2 i hi y]
    exact ⟨fun g => g.1, fun g => ⟨g, Or.inl (dgr_sy w hM hF hi g).2.1⟩⟩
