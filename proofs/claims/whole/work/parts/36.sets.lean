-- ===== the reference's tables: laySets =====
theorem ix_nat {x : Int32} (h : Bd 12 x) : ix x = x.toBitVec.toNat := by
  have e : x = nI x.toBitVec.toNat := Int32.toBitVec_inj.mp (by show _ = BitVec.ofNat 32 _; simp)
  have hlt : x.toBitVec.toNat < 4096 := by
    obtain ⟨k, hk, rfl⟩ := bd_nat h
    show (BitVec.ofNat 32 k).toNat < 4096
    rw [BitVec.toNat_ofNat]
    omega
  show x.toNatClampNeg = _
  rw [e, nI_clamp (by omega)]
  rw [← e]
theorem ix_and_le {x : Int32} (h : Bd 12 x) (y : Int32) : ix (x &&& y) ≤ ix x := by
  rw [ix_nat h, ix_nat (h.and_left y), Int32.toBitVec_and, BitVec.toNat_and]
  exact Nat.and_le_left
theorem ix_cl_lt {x : Int32} {v : Nat} (h : Bd 12 x) (hv : v < 32) (hb : bt x v = true) : ix (cl x v) < ix x := by
  rcases Nat.lt_or_ge (ix (cl x v)) (ix x) with h1 | h1
  · exact h1
  · have h2 : ix (cl x v) ≤ ix x := ix_and_le h _
    have := ix_inj (h.cl v) h (by omega)
    have q := b_cl (x := x) hv hv
    rw [this, hb] at q
    simp at q
theorem bd_pow {n k : Nat} (hk : k < 2 ^ n) : Bd n (nI k) := by
  intro i h1 h2
  show (BitVec.ofNat 32 k).getLsbD i = false
  rw [BitVec.getLsbD_ofNat]
  have : k.testBit i = false := Nat.testBit_lt_two_pow (Nat.lt_of_lt_of_le hk (Nat.pow_le_pow_right (by decide) h1))
  simp [this]
theorem ix_al : ∀ n, n < 13 → ix (al n) + 1 = 2 ^ n := by decide +kernel
theorem al_nI {n : Nat} (hn : n < 13) : al n = nI (2 ^ n - 1) := by
  have h := bd_nn ((Bd.al hn).mono (show n ≤ 12 by omega))
  have h2 := ix_al n hn
  have h3 : (al n).toNatClampNeg = 2 ^ n - 1 := by show ix (al n) = _; omega
  rw [h3] at h
  exact h.symm
theorem pow_le {n : Nat} (hn : n < 13) : 2 ^ n ≤ 4096 := Nat.pow_le_pow_right (n := 2) (by decide) (show n ≤ 12 by omega)
theorem ix_lt_pow {n : Nat} (hn : n < 13) {S : Int32} (h : Bd n S) : ix S < 2 ^ n := by
  have e : S = al n &&& S := by
    apply b_ext
    intro i hi
    rw [b_and, b_al n hn i hi]
    rcases Nat.lt_or_ge i n with h1 | h1
    · simp [h1]
    · simp [h i h1 hi]
  have := ix_and_le ((Bd.al hn).mono (show n ≤ 12 by omega)) S
  rw [← e] at this
  have := ix_al n hn
  omega
/-- only the row of one set was written -/
def WR (σ τ : WD) (j : Nat) (p : Nat × Nat) : Prop := Fr [34, 35] σ τ ∧ (∀ i, i ≠ j → τ.1 34 i = σ.1 34 i ∧ τ.1 35 i = σ.1 35 i) ∧ τ.1 34 j = nI p.1 ∧ τ.1 35 j = nI p.2
theorem note_new {σ : WD} {S : Int32} (hS : Bd 12 S) {a c : Nat} (ha : a < 1000) (h : σ.1 34 (ix S) = -1) : ∃ τ, f_X7_note S (nI a) (nI c) σ = some τ ∧ WR σ τ (ix S) (a, c) := by
  unfold f_X7_note f_X7_note_24 f_X7_note_46
  have hne : ¬ nI a ≤ (-1 : Int32) := by
    intro q
    rw [Int32.le_iff_toInt_le, nI_toInt (by omega)] at q
    have e : (-1 : Int32).toInt = -1 := by decide
    omega
  have h2 : (upi (upi σ 34 (ix S) (nI a)) 35 (ix S) 0).1 34 (ix S) = nI a := by simp [upi_get, upd_get]
  have h3 : (upi (upi σ 34 (ix S) (nI a)) 35 (ix S) 0).1 35 (ix S) = 0 := by simp [upi_get, upd_get]
  rw [gi_bd hS, h, if_neg hne, gi_bd hS, lt_eq, gi_bd hS, lt_eq, gi_bd hS, gi_bd hS, h2, if_pos rfl, h3, gi_bd hS, lt_eq]
  refine ⟨_, rfl, (((Fr.rf _ _).upi (by decide) _ _).upi (by decide) _ _).upi (by decide) _ _, fun i hi => ?_, ?_, ?_⟩
  · simp [upi_get, upd_get, hi]
  · simp [upi_get, upd_get]
  · simp [upi_get, upd_get]
theorem note_cmb {σ : WD} {S : Int32} (hS : Bd 12 S) {g : Nat × Nat} {a c : Nat} (ha : a < 1000) (hg : g.1 < 1000) (h : σ.1 34 (ix S) = nI g.1) (h' : σ.1 35 (ix S) = nI g.2) : ∃ τ, f_X7_note S (nI a) (nI c) σ = some τ ∧ WR σ τ (ix S) (cmb g (a, c)) := by
  unfold f_X7_note f_X7_note_24 f_X7_note_46 cmb
  rw [gi_bd hS, h]
  by_cases hle : a ≤ g.1
  · rw [if_pos ((nI_le_iff (by omega) (by omega)).mpr hle), gi_bd hS, gi_bd hS, h', if_neg (show ¬ g.1 < a by omega)]
    by_cases he : a = g.1
    · rw [if_pos (by rw [he]), if_pos he.symm, gi_bd hS, lt_eq]
      refine ⟨_, rfl, (Fr.rf _ _).upi (by decide) _ _, fun i hi => ?_, ?_, ?_⟩
      · simp [upi_get, upd_get, hi]
      · simp [upi_get, h]
      · simp [upi_get, upd_get, nI_add]
    · rw [if_neg (fun q => he (nI_inj (by omega) (by omega) q)), if_neg (fun q => he q.symm), gi_bd hS, lt_eq]
      refine ⟨_, rfl, (Fr.rf _ _).upi (by decide) _ _, fun i hi => ?_, ?_, ?_⟩
      · simp [upi_get, upd_get, hi]
      · simp [upi_get, h]
      · simp [upi_get, upd_get]
  · have h2 : (upi (upi σ 34 (ix S) (nI a)) 35 (ix S) 0).1 34 (ix S) = nI a := by simp [upi_get, upd_get]
    have h3 : (upi (upi σ 34 (ix S) (nI a)) 35 (ix S) 0).1 35 (ix S) = 0 := by simp [upi_get, upd_get]
    rw [if_neg (fun q => hle ((nI_le_iff (by omega) (by omega)).mp q)), gi_bd hS, lt_eq, gi_bd hS, lt_eq, gi_bd hS, gi_bd hS, h2, if_pos rfl, h3, gi_bd hS, lt_eq, if_pos (show g.1 < a by omega)]
    refine ⟨_, rfl, (((Fr.rf _ _).upi (by decide) _ _).upi (by decide) _ _).upi (by decide) _ _, fun i hi => ?_, ?_, ?_⟩
    · simp [upi_get, upd_get, hi]
    · simp [upi_get, upd_get]
    · simp [upi_get, upd_get]
/-- the tables are right for the sets below k -/
def LU (n : Nat) (A : Nat → Int32) (k : Nat) (σ : WD) : Prop := ∀ S, Bd n S → ix S < k → σ.1 34 (ix S) = nI (DS n A S).1 ∧ σ.1 35 (ix S) = nI (DS n A S).2
def LR (n : Nat) (A : Nat → Int32) (σ : WD) : Prop := ∀ S, Bd n S → σ.1 34 (ix S) = nI (DS n A S).1 ∧ σ.1 35 (ix S) = nI (DS n A S).2
theorem WR.tr {σ τ υ : WD} {j : Nat} {p q : Nat × Nat} (h : WR σ τ j p) (h2 : WR τ υ j q) : WR σ υ j q := ⟨h.1.tr h2.1, fun i hi => ⟨(h2.2.1 i hi).1.trans (h.2.1 i hi).1, (h2.2.1 i hi).2.trans (h.2.1 i hi).2⟩, h2.2.2⟩
theorem laySets_eq {n : Nat} {A : Nat → Int32} {σ : WD} (w : GW n A) (hG : GR n A σ) : ∃ τ, f_X7_laySets σ = some τ ∧ Fr [34, 35] σ τ ∧ LR n A τ := by
  have hn := w.2.1
  have hp2 := pow_le (show n < 13 by omega)
  have hpos : 0 < 2 ^ n := Nat.pow_pos (by decide)
  unfold f_X7_laySets
  have g0 : ∀ {γ : Type} (k : Option γ), gi 0 4096 k = k := fun k => gi_in (i := 0) (by decide) (by decide) k
  rw [g0, lt_eq, g0, lt_eq]
  unfold f_X7_laySets_16
  obtain ⟨s', ⟨τ, hs', hf, hls⟩, el⟩ := lp_inv (f := fun s : Int32 × WD => f_X7_laySets_b16 s.1 s.2)
    (fun k s => ∃ τ, s = (nI k, τ) ∧ Fr [34, 35] σ τ ∧ LU n A k τ) (a := 1) (b := 2 ^ n) (by omega) (s := (1, upi (upi σ 34 0 0) 35 0 1)) ⟨_, rfl, ((Fr.rf _ _).upi (by decide) _ _).upi (by decide) _ _, fun S hS hk => by
      have h0 : ix S = 0 := by omega
      have hS0 : S = 0 := ix_inj (hS.mono hn) (Bd.zero 12) (by rw [h0]; rfl)
      rw [h0, hS0, DS_empty (fun i _ => b_0 i)]
      simp [upi_get, upd_get]; exact ⟨rfl, rfl⟩⟩ (fun k s hk1 hk2 hs => by
      obtain ⟨τ, rfl, hf, hls⟩ := hs
      have hGt := hG.fr hf (by decide) (by decide)
      dsimp only
      unfold f_X7_laySets_b16
      rw [hGt.al, bv_eq, al_nI (by omega), if_neg (nI_nlt (by omega) (by omega))]
      have hSn : Bd n (nI k) := bd_pow hk2
      have hS : Bd 12 (nI k) := hSn.mono hn
      have hix : ix (nI k) = k := nI_clamp (by omega)
      have hne : nI k ≠ 0 := nI_ne0 (by omega) (by omega)
      obtain ⟨l1, l2, l3⟩ := lwn_spec hS hne
      obtain ⟨v, hv⟩ : ∃ v, v = lwn (nI k) := ⟨_, rfl⟩
      rw [← hv] at l1 l2 l3
      have hvn : v < n := by
        rcases Nat.lt_or_ge v n with h | h
        · exact h
        · rw [hSn v h (by omega)] at l2; cases l2
      have hR : Bd n (cl (nI k) v) := hSn.cl v
      have hRk : ix (cl (nI k) v) < k := by have := ix_cl_lt hS (by omega) l2; rw [hix] at this; exact this
      -- the first row
      have h40 : ∃ τ2, f_X7_laySets_40 (nI k) (nI v) τ = some (.inl (nI (k + 1), τ2)) ∧ Fr [34, 35] τ τ2 ∧ LU n A (k + 1) τ2 := by
        unfold f_X7_laySets_40
        rw [cl_eq, li_eq, gi_bd hS, lt_eq, gi_bd (hR.mono hn), gi_bd (hR.mono hn)]
        obtain ⟨τ0, hτ0⟩ : ∃ t, t = upi τ 34 (nI k).toNatClampNeg (-1) := ⟨_, rfl⟩
        rw [← hτ0]
        have f0 : Fr [34, 35] τ τ0 := by rw [hτ0]; exact (Fr.rf _ _).upi (by decide) _ _
        have a0 : τ0.1 34 (ix (nI k)) = -1 := by rw [hτ0]; simp [upi_get, upd_get]
        have b0 : ∀ i, i ≠ k → τ0.1 34 i = τ.1 34 i ∧ τ0.1 35 i = τ.1 35 i := by
          intro i hi
          rw [hτ0]
          have : (nI k).toNatClampNeg = k := hix
          simp [upi_get, upd_get, this, hi]
        have c0 : ∀ T, Bd n T → ix T < k → τ0.1 34 (ix T) = nI (DS n A T).1 ∧ τ0.1 35 (ix T) = nI (DS n A T).2 := fun T hT hk => by
          rw [(b0 _ (by omega)).1, (b0 _ (by omega)).2]; exact hls T hT hk
        have d1 := c0 _ hR hRk
        have e1 : τ0.1 34 (cl (nI k) v).toNatClampNeg = nI (DS n A (cl (nI k) v)).1 := d1.1
        have e2 : τ0.1 35 (cl (nI k) v).toNatClampNeg = nI (DS n A (cl (nI k) v)).2 := d1.2
        have hD := DS_le n A (cl (nI k) v)
        obtain ⟨τ1, n1, w1⟩ := note_new hS (a := (DS n A (cl (nI k) v)).1) (c := (DS n A (cl (nI k) v)).2) (by omega) a0
        rw [e1, e2, n1, bv_eq, nI_1]
        unfold f_X7_laySets_77
        obtain ⟨s2, ⟨τ2, hs2, w2⟩, el2⟩ := lp_inv (f := fun s : Int32 × WD => f_X7_laySets_b77 (nI k) (nI v) (cl (nI k) v) s.1 s.2)
          (fun t s => ∃ τ, s = (nI (v + 1 + t), τ) ∧ WR τ0 τ (ix (nI k)) (mf (DS n A) (A v) (cl (nI k) v) v t)) (a := 0) (b := n - 1 - v) (Nat.zero_le _) (s := (nI (v + 1), τ1)) ⟨τ1, rfl, w1⟩ (fun t s _ ht hs => by
            obtain ⟨τ', rfl, w'⟩ := hs
            have hG' := hGt.fr (f0.tr w'.1) (by decide) (by decide)
            dsimp only
            unfold f_X7_laySets_b77
            rw [hG'.1, if_neg (nI_ge (show v + 1 + t < n by omega) (by omega)), gi12 (by omega), nI_clamp (by omega), hG'.2 v (by omega), has_eq (by omega), bv_eq, b_and]
            by_cases hw : (bt (cl (nI k) v) (v + 1 + t) && bt (A v) (v + 1 + t)) = true
            · have hT : Bd n (cl (cl (nI k) v) (v + 1 + t)) := hR.cl _
              have hTk : ix (cl (cl (nI k) v) (v + 1 + t)) < k := by
                have := ix_and_le (hR.mono hn) (sg (v + 1 + t) ^^^ (-1))
                exact Nat.lt_of_le_of_lt this hRk
              have r1 : τ'.1 34 (cl (cl (nI k) v) (v + 1 + t)).toNatClampNeg = nI (DS n A (cl (cl (nI k) v) (v + 1 + t))).1 := by
                rw [(w'.2.1 _ (by rw [hix]; exact Nat.ne_of_lt hTk)).1]; exact (c0 _ hT hTk).1
              have r2 : τ'.1 35 (cl (cl (nI k) v) (v + 1 + t)).toNatClampNeg = nI (DS n A (cl (cl (nI k) v) (v + 1 + t))).2 := by
                rw [(w'.2.1 _ (by rw [hix]; exact Nat.ne_of_lt hTk)).2]; exact (c0 _ hT hTk).2
              rw [if_pos hw, if_neg (by decide), cl_eq, gi_bd (hT.mono hn), gi_bd (hT.mono hn), r1, r2, nI_1]
              have hDT := DS_le n A (cl (cl (nI k) v) (v + 1 + t))
              have hm := mf_le (DS_le n A) (A v) (cl (nI k) v) v t
              obtain ⟨τ3, n3, w3⟩ := note_cmb hS (g := mf (DS n A) (A v) (cl (nI k) v) v t) (a := (DS n A (cl (cl (nI k) v) (v + 1 + t))).1 + 1) (c := (DS n A (cl (cl (nI k) v) (v + 1 + t))).2) (by omega) (by omega) w'.2.2.1 w'.2.2.2
              rw [n3, bv_eq, nI_1]
              refine ⟨_, rfl, τ3, rfl, ?_⟩
              rw [mf_succ, if_pos hw]
              exact w'.tr w3
            · rw [if_neg hw, if_pos rfl, nI_1]
              refine ⟨_, rfl, τ', rfl, ?_⟩
              rw [mf_succ, if_neg hw]
              exact w')
        rw [el2, hs2]
        have hG2 := hGt.fr (f0.tr w2.1) (by decide) (by decide)
        refine ⟨τ2, lp_end ?_, f0.tr w2.1, fun T hT hk => ?_⟩
        · dsimp only
          unfold f_X7_laySets_b77
          rw [hG2.1, if_pos (nI_le (show n ≤ v + 1 + (n - 1 - v) by omega) (by omega)), nI_1]
        · by_cases e : ix T = k
          · have hTk : T = nI k := ix_inj (hT.mono hn) hS (by rw [e, hix])
            rw [hTk, DS_step (by omega) hvn l2 l3]
            exact w2.2.2
          · rw [(w2.2.1 _ (by rw [hix]; exact e)).1, (w2.2.1 _ (by rw [hix]; exact e)).2]
            exact c0 T hT (by omega)
      obtain ⟨τ2, e40, f40, s40⟩ := h40
      refine ⟨(nI (k + 1), τ2), ?_, τ2, rfl, hf.tr f40, s40⟩
      unfold f_X7_laySets_26
      refine lp_for (fun i => nI i) (a := 0) (b := v) (Nat.zero_le _) (fun i _ hi => ?_) ?_
      · show f_X7_laySets_b26 _ _ _ = _
        unfold f_X7_laySets_b26
        rw [has_eq (by omega), bv_eq, l3 i hi, if_pos (by decide), nI_1]
      · show f_X7_laySets_b26 _ _ _ = _
        unfold f_X7_laySets_b26
        rw [has_eq (by omega), bv_eq, l2, if_neg (by decide), e40, mr_eq])
  have el' : lp (fun s : Int32 × WD => f_X7_laySets_b16 s.1 s.2) (1, upi (upi σ 34 (0 : Int32).toNatClampNeg 0) 35 (0 : Int32).toNatClampNeg 1) = lp (fun s : Int32 × WD => f_X7_laySets_b16 s.1 s.2) s' := el
  rw [el', hs']
  refine ⟨τ, lp_end ?_, hf, fun S hS => hls S hS (ix_lt_pow (by omega) hS)⟩
  dsimp only
  unfold f_X7_laySets_b16
  rw [(hG.fr hf (by decide) (by decide)).al, bv_eq, al_nI (by omega), if_pos (nI_lt (by omega) (by omega))]
