-- ===== Maxima.findOut and what rests on it =====
theorem lp_inv {S R : Type} {f : S → Option (S ⊕ R)} (P : Nat → S → Prop) {a b : Nat} (hab : a ≤ b) {s : S} (h0 : P a s) (hs : ∀ i s, a ≤ i → i < b → P i s → ∃ s', f s = some (.inl s') ∧ P (i + 1) s') : ∃ s', P b s' ∧ lp f s = lp f s' := by
  obtain ⟨m, rfl⟩ : ∃ m, b = a + m := ⟨b - a, by omega⟩
  clear hab
  induction m with
  | zero => exact ⟨s, h0, rfl⟩
  | succ m ih =>
    obtain ⟨s1, h1, e1⟩ := ih (fun i s h1 h2 => hs i s h1 (by omega))
    obtain ⟨s2, h2, h3⟩ := hs (a + m) s1 (by omega) (by omega) h1
    exact ⟨s2, h3, by rw [e1, lp_go h2]⟩
abbrev ix (S : Int32) : Nat := S.toNatClampNeg
theorem ix_inj {S T : Int32} (hS : Bd 12 S) (hT : Bd 12 T) (h : ix S = ix T) : S = T := by
  have h : S.toNatClampNeg = T.toNatClampNeg := h
  rw [← bd_nn hS, ← bd_nn hT, h]
/-- what the memo holds is right -/
def MV (n : Nat) (A : Nat → Int32) (σ : WD) : Prop := ∀ S, Bd n S → σ.1 24 (ix S) ≠ 0 → σ.1 23 (ix S) = nI (DS n A S).1 ∧ σ.1 24 (ix S) = nI (DS n A S).2
def Kn (σ : WD) (S : Int32) : Prop := σ.1 24 (ix S) ≠ 0
def PF (n : Nat) (A : Nat → Int32) (σ τ : WD) : Prop := Fr [23, 24] σ τ ∧ MV n A τ ∧ ∀ T, Bd n T → Kn σ T → Kn τ T
theorem PF.rf {n : Nat} {A : Nat → Int32} {σ : WD} (h : MV n A σ) : PF n A σ σ := ⟨Fr.rf _ _, h, fun _ _ h => h⟩
theorem PF.tr {n : Nat} {A : Nat → Int32} {σ τ υ : WD} (h : PF n A σ τ) (h2 : PF n A τ υ) : PF n A σ υ := ⟨h.1.tr h2.1, h2.2.1, fun T hT hk => h2.2.2 T hT (h.2.2 T hT hk)⟩
theorem GC.fr {n : Nat} {A : Nat → Int32} {σ τ : WD} {K : List Nat} (h : GC n A σ) (hf : Fr K σ τ) (h1 : 1 ∉ K) (h2 : 2 ∉ K) : GC n A τ := ⟨by rw [hf.1 1 h1]; exact h.1, fun i hi => by rw [hf.1 2 h2]; exact h.2 i hi⟩
theorem GR.fr {n : Nat} {A : Nat → Int32} {σ τ : WD} {K : List Nat} (h : GR n A σ) (hf : Fr K σ τ) (h1 : 29 ∉ K) (h2 : 30 ∉ K) : GR n A τ := ⟨by rw [hf.1 29 h1]; exact h.1, fun i hi => by rw [hf.1 30 h2]; exact h.2 i hi⟩
theorem DS_ne0 {n : Nat} (hn : n ≤ 12) (A : Nat → Int32) (S : Int32) : nI (DS n A S).2 ≠ 0 := nI_ne0 (DS_pos n A S) (Nat.lt_of_le_of_lt (DS_lt hn A S) (by decide))
/-- a set's row is written -/
theorem PF.put {n : Nat} {A : Nat → Int32} {σ : WD} {S : Int32} (hn : n ≤ 12) (h : MV n A σ) (hS : Bd n S) : PF n A σ (upi (upi σ 23 (ix S) (nI (DS n A S).1)) 24 (ix S) (nI (DS n A S).2)) ∧ Kn (upi (upi σ 23 (ix S) (nI (DS n A S).1)) 24 (ix S) (nI (DS n A S).2)) S := by
  have hk : Kn (upi (upi σ 23 (ix S) (nI (DS n A S).1)) 24 (ix S) (nI (DS n A S).2)) S := by
    unfold Kn
    rw [upi_get, if_pos rfl, upd_get, if_pos rfl]
    exact DS_ne0 hn A S
  refine ⟨⟨((Fr.rf _ _).upi (by decide) _ _).upi (by decide) _ _, fun T hT hk => ?_, fun T hT hk => ?_⟩, hk⟩
  · by_cases e : ix T = ix S
    · have := ix_inj (hT.mono hn) (hS.mono hn) e
      subst this
      simp [upi_get, upd_get]
    · simp only [upi_get, upd_get, if_neg e, if_true, if_false, show ¬ (23 : Nat) = 24 by decide, show ¬ (24 : Nat) = 23 by decide] at hk ⊢
      exact h T hT hk
  · by_cases e : ix T = ix S
    · have := ix_inj (hT.mono hn) (hS.mono hn) e
      subst this
      assumption
    · unfold Kn at hk ⊢
      simp only [upi_get, upd_get, if_neg e, if_true, if_false, show ¬ (24 : Nat) = 23 by decide]
      exact hk
theorem cmb_int {g c a w : Nat} (hg : g < 1000) (ha : a < 1000) {γ : Type} (K : Int32 → Int32 → Option γ) : (if nI a + 1 ≤ nI g then (if nI a + 1 = nI g then K (nI g) (nI c + nI w) else K (nI g) (nI c + 0)) else (if nI a + 1 = nI a + 1 then K (nI a + 1) (0 + nI w) else K (nI a + 1) (0 + 0))) = K (nI (cmb (g, c) (a + 1, w)).1) (nI (cmb (g, c) (a + 1, w)).2) := by
  have e1 : nI a + 1 = nI (a + 1) := nI_1 a
  rw [e1]
  unfold cmb
  by_cases h : a + 1 ≤ g
  · rw [if_pos ((nI_le_iff (by omega) (by omega)).mpr h)]
    by_cases h2 : a + 1 = g
    · subst h2
      simp [nI_add]
    · rw [if_neg (fun q => h2 ((nI_eq (by omega) (by omega)).mp q)), if_neg (show ¬ g < a + 1 by omega), if_neg (show ¬ g = a + 1 by omega)]
      simp
  · rw [if_neg (fun q => h ((nI_le_iff (by omega) (by omega)).mp q)), if_pos (show g < a + 1 by omega)]
    simp
theorem mf_succ (D : Int32 → Nat × Nat) (a R : Int32) (v t : Nat) : mf D a R v (t + 1) = if (bt R (v + 1 + t) && bt a (v + 1 + t)) = true then cmb (mf D a R v t) (shf (D (cl R (v + 1 + t)))) else mf D a R v t := rfl
theorem findOut_eq {n : Nat} {A : Nat → Int32} (w : GW n A) : ∀ (d v0 : Nat) (S : Int32) (σ : WD), GC n A σ → MV n A σ → Bd n S → (∀ i, i < v0 → bt S i = false) → v0 ≤ n → n - v0 < d → ∃ τ, f_X4_findOut d S (nI v0) σ = some τ ∧ PF n A σ τ ∧ Kn τ S := by
  have hn := w.2.1
  intro d
  induction d with
  | zero => intro v0 S σ _ _ _ _ _ h; omega
  | succ d ih =>
    intro v0 S σ hG hM hS hlow hv0 hd
    have hS12 : Bd 12 S := hS.mono hn
    show ∃ τ, f_X4_findOut_0 (f_X4_findOut d) S (nI v0) σ = some τ ∧ _
    unfold f_X4_findOut_0
    rw [gi_bd hS12]
    by_cases hk : σ.1 24 (ix S) = 0
    · rw [if_pos hk]
      -- the lowest node
      obtain ⟨v, hv1, hv2, hv3, hv4⟩ : ∃ v, v0 ≤ v ∧ v ≤ n ∧ (∀ i, i < v → bt S i = false) ∧ (v < n → bt S v = true) := by
        by_cases h0 : S = 0
        · exact ⟨n, hv0, Nat.le_refl n, fun i _ => by rw [h0]; exact b_0 i, fun h => absurd h (Nat.lt_irrefl n)⟩
        · obtain ⟨l1, l2, l3⟩ := lwn_spec hS12 h0
          refine ⟨lwn S, ?_, ?_, l3, fun _ => l2⟩
          · rcases Nat.lt_or_ge (lwn S) v0 with h | h
            · rw [hlow _ h] at l2; cases l2
            · exact h
          · rcases Nat.lt_or_ge n (lwn S) with h | h
            · rw [hS (lwn S) (by omega) (by omega)] at l2; cases l2
            · exact h
      have e12 : f_X4_findOut_12 (f_X4_findOut d) S (nI v0) σ = f_X4_findOut_12 (f_X4_findOut d) S (nI v) σ := by
        unfold f_X4_findOut_12
        refine lp_up (fun i => nI i) hv1 (fun i h1 h2 => ?_)
        show f_X4_findOut_b12 _ _ _ _ = _
        unfold f_X4_findOut_b12
        rw [hG.1, if_neg (nI_ge (by omega) (by omega)), if_pos ((tb_zero (by omega)).mpr (hv3 i h2)), nI_1]
      rw [e12]
      suffices h37 : ∃ τ, f_X4_findOut_37 (f_X4_findOut d) S (nI v) σ = some τ ∧ PF n A σ τ ∧ Kn τ S by
        obtain ⟨τ, e, h⟩ := h37
        refine ⟨τ, ?_, h⟩
        unfold f_X4_findOut_12
        refine lp_end ?_
        show f_X4_findOut_b12 _ _ _ _ = _
        unfold f_X4_findOut_b12
        rw [hG.1, e]
        by_cases hvn : v < n
        · rw [if_neg (nI_ge hvn (by omega)), if_neg (fun q => by rw [(tb_zero (by omega)).mp q] at hv4; exact absurd (hv4 hvn) (by decide)), mr_eq]
        · rw [if_pos (nI_le (by omega) (by omega)), mr_eq]
      unfold f_X4_findOut_37
      rw [hG.1]
      by_cases hvn : v < n
      · rw [if_pos (nI_lt hvn (by omega)), cl_eq, li_eq, nI_1]
        have hb := hv4 hvn
        have hR : Bd n (cl S v) := hS.cl v
        have hRlow : ∀ i, i < v + 1 → bt (cl S v) i = false := fun i hi => by
          rw [b_cl (by omega) (by omega)]
          by_cases e : i = v
          · simp [e]
          · simp [hv3 i (by omega)]
        obtain ⟨σ1, e1, p1, k1⟩ := ih (v + 1) (cl S v) σ hG hM hR hRlow (by omega) (by omega)
        have hG1 := hG.fr p1.1 (by decide) (by decide)
        rw [e1, bv_eq, gi_bd (hR.mono hn), li_eq, gi_bd (hR.mono hn), li_eq, gi12 (by omega), li_eq, nI_clamp (by omega), hG1.2 v (by omega), (p1.2.1 _ hR k1).1, (p1.2.1 _ hR k1).2]
        unfold f_X4_findOut_118
        obtain ⟨s', ⟨τ, hs', hp, -⟩, el⟩ := lp_inv (f := fun s : Int32 × Int32 × Int32 × WD => f_X4_findOut_b118 (f_X4_findOut d) S (nI v) (cl S v) s.1 s.2.1 (cl S v &&& A v) s.2.2.1 s.2.2.2)
          (fun t s => ∃ τ, s = (nI (mf (DS n A) (A v) (cl S v) v t).1, nI (mf (DS n A) (A v) (cl S v) v t).2, nI (v + 1 + t), τ) ∧ PF n A σ1 τ ∧ GC n A τ) (a := 0) (b := n - 1 - v) (Nat.zero_le _) (s := (nI (DS n A (cl S v)).1, nI (DS n A (cl S v)).2, nI (v + 1), σ1)) ⟨σ1, rfl, PF.rf p1.2.1, hG1⟩ (fun t s _ ht hs => by
            obtain ⟨τ, rfl, hp, hGt⟩ := hs
            dsimp only
            unfold f_X4_findOut_b118
            rw [hGt.1, if_neg (nI_ge (show v + 1 + t < n by omega) (by omega))]
            have hD1 : (mf (DS n A) (A v) (cl S v) v t).1 < 1000 := Nat.lt_of_le_of_lt (mf_le (DS_le n A) _ _ _ _) (by omega)
            by_cases hw : (bt (cl S v) (v + 1 + t) && bt (A v) (v + 1 + t)) = true
            · rw [if_neg (fun q => by rw [tb_zero (by omega), b_and, hw] at q; cases q), cl_eq, li_eq, nI_1]
              have hRw : Bd n (cl (cl S v) (v + 1 + t)) := hR.cl _
              obtain ⟨τ2, e2, p2, k2⟩ := ih (v + 1) (cl (cl S v) (v + 1 + t)) τ hGt hp.2.1 hRw (fun i hi => by rw [b_cl (by omega) (by omega), hRlow i hi]; rfl) (by omega) (by omega)
              have hG2 := hGt.fr p2.1 (by decide) (by decide)
              have hD2 : (DS n A (cl (cl S v) (v + 1 + t))).1 < 1000 := Nat.lt_of_le_of_lt (DS_le n A _) (by omega)
              rw [e2, bv_eq, gi_bd (hRw.mono hn), gi_bd (hRw.mono hn), li_eq]
              unfold f_X4_findOut_191
              rw [gi_bd (hRw.mono hn), gi_bd (hRw.mono hn), gi_bd (hRw.mono hn), gi_bd (hRw.mono hn), (p2.2.1 _ hRw k2).1, (p2.2.1 _ hRw k2).2, li_eq, li_eq]
              rw [cmb_int hD1 hD2 (fun a b => some (Sum.inl (a, b, nI (v + 1 + t) + 1, τ2)))]
              refine ⟨_, rfl, τ2, ?_, hp.tr p2, hG2⟩
              rw [nI_1, mf_succ, if_pos hw]
              rfl
            · rw [if_pos (by rw [tb_zero (by omega), b_and]; simpa using hw)]
              refine ⟨_, rfl, τ, ?_, hp, hGt⟩
              rw [nI_1, mf_succ, if_neg hw]
              rfl)
        rw [el]
        have hGt : GC n A τ := hG1.fr hp.1 (by decide) (by decide)
        obtain ⟨q1, q2⟩ := PF.put hn hp.2.1 hS
        refine ⟨_, lp_end ?_, p1.tr (hp.tr q1), q2⟩
        rw [hs']
        dsimp only
        unfold f_X4_findOut_b118 f_X4_findOut_227
        rw [hGt.1, if_pos (nI_le (show n ≤ v + 1 + (n - 1 - v) by omega) (by omega)), gi_bd hS12, lt_eq, gi_bd hS12, lt_eq, ← DS_step (by omega) hvn hb hv3, mr_eq]
      · rw [if_neg (nI_nlt (by omega) (by omega)), gi_bd hS12, lt_eq, gi_bd hS12, lt_eq]
        have hE : DS n A S = (0, 1) := DS_empty (fun i hi => hv3 i (by omega))
        have := PF.put hn hM hS
        rw [hE] at this
        exact ⟨_, rfl, this.1, this.2⟩
    · rw [if_neg hk]
      exact ⟨σ, rfl, PF.rf hM, hk⟩
