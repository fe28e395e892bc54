-- ===== Maxima: exposable, isCritical, edgesHadBy, first =====
theorem fr_spec (p : Nat → Bool) : ∀ n, ((List.range n).find? p).getD n ≤ n ∧ (∀ i, i < ((List.range n).find? p).getD n → p i = false) ∧ (((List.range n).find? p).getD n < n → p (((List.range n).find? p).getD n) = true)
  | 0 => ⟨Nat.le_refl _, fun i hi => by simp at hi, fun h => absurd h (by simp)⟩
  | n + 1 => by
    have ih := fr_spec p n
    rw [List.range_succ, List.find?_append]
    cases hf : (List.range n).find? p with
    | some k =>
      rw [hf] at ih
      have hk : k < n := List.mem_range.mp (List.mem_of_find?_eq_some hf)
      simp only [Option.getD_some, Option.some_or] at ih ⊢
      exact ⟨by omega, ih.2.1, fun _ => ih.2.2 hk⟩
    | none =>
      rw [hf] at ih
      simp only [Option.getD_none, Option.none_or] at ih ⊢
      by_cases hp : p n = true
      · simp only [List.find?_cons_of_pos hp, Option.getD_some]
        exact ⟨by omega, ih.2.1, fun _ => hp⟩
      · rw [List.find?_cons_of_neg (by simpa using hp)]
        simp only [List.find?_nil, Option.getD_none]
        refine ⟨Nat.le_refl _, fun i hi => ?_, fun h => absurd h (by omega)⟩
        by_cases e : i = n
        · rw [e]; simpa using hp
        · exact ih.2.1 i (by omega)
/-- a rule holds for all, or there is a first that breaks it -/
theorem first_not (P : Nat → Prop) : ∀ n, (∀ i, i < n → P i) ∨ ∃ k, k < n ∧ ¬ P k ∧ ∀ i, i < k → P i
  | 0 => Or.inl (fun i hi => absurd hi (by omega))
  | n + 1 => by
    rcases first_not P n with h | ⟨k, h1, h2, h3⟩
    · by_cases hp : P n
      · left
        intro i hi
        by_cases e : i = n
        · rw [e]; exact hp
        · exact h i (by omega)
      · exact Or.inr ⟨n, by omega, hp, h⟩
    · exact Or.inr ⟨k, by omega, h2, h3⟩
/-- the nodes that some maximum matching leaves exposed -/
def exs (n : Nat) (A : Nat → Int32) : Nat → Int32
  | 0 => 0
  | t + 1 => if (DS n A (cl (al n) t)).1 = (DS n A (al n)).1 then exs n A t ||| sg t else exs n A t
theorem exs_bt {n : Nat} {A : Nat → Int32} : ∀ {t : Nat}, t ≤ 32 → ∀ i, i < 32 → bt (exs n A t) i = decide (i < t ∧ (DS n A (cl (al n) i)).1 = (DS n A (al n)).1)
  | 0, _, i, hi => by rw [exs, b_0]; simp
  | t + 1, ht, i, hi => by
    have ih := exs_bt (n := n) (A := A) (t := t) (by omega) i hi
    unfold exs
    by_cases e : i = t
    · subst e
      split
      · rename_i h; rw [b_or, b_sg (by omega) hi]; simp [h]
      · rename_i h; rw [ih]; simp [h]
    · split
      · rw [b_or, b_sg (by omega) hi, ih]; simp [e, show (i < t + 1) = (i < t) from propext (by omega)]
      · rw [ih]; simp [show (i < t + 1) = (i < t) from propext (by omega)]
theorem exposable_eq {n : Nat} {A : Nat → Int32} {σ : WD} (w : GW n A) (hG : GC n A σ) (hM : Mo n A σ) : ∃ τ, f_X4_exposable σ = some (exs n A n, τ) ∧ LQ n A σ τ := by
  have hn := w.2.1
  have hal : Bd n (al n) := Bd.al (by omega)
  obtain ⟨τ, e, h⟩ := learn_lq w hG hM
  refine ⟨τ, ?_, h⟩
  unfold f_X4_exposable
  rw [e, bv_eq, h.2.2.al, bv_eq]
  unfold f_X4_exposable_16
  refine lp_for (fun i => (exs n A i, nI i)) (a := 0) (b := n) (Nat.zero_le _) (fun i _ hi => ?_) ?_
  · show f_X4_exposable_b16 _ _ _ _ = _
    unfold f_X4_exposable_b16
    obtain ⟨a1, a2⟩ := h.2.1.2.1 _ hal h.2.1.2.2.1
    obtain ⟨b1, b2⟩ := h.2.1.2.1 _ (hal.cl i) (h.2.1.2.2.2.1 i hi)
    rw [h.2.2.1, if_neg (nI_ge hi (by omega)), cl_eq, gi_bd ((hal.cl i).mono hn), gi_bd (hal.mono hn), a1, b1, li_eq, nI_1, sg_eq]
    have l1 := DS_le n A (al n)
    have l2 := DS_le n A (cl (al n) i)
    show _ = some (Sum.inl ((if (DS n A (cl (al n) i)).1 = (DS n A (al n)).1 then exs n A i ||| sg i else exs n A i), nI (i + 1)))
    by_cases hh : (DS n A (cl (al n) i)).1 = (DS n A (al n)).1
    · rw [if_pos (by rw [hh]), if_pos hh]
    · rw [if_neg (fun q => hh (nI_inj (by omega) (by omega) q)), if_neg hh]
  · show f_X4_exposable_b16 _ _ _ _ = _
    unfold f_X4_exposable_b16
    rw [h.2.2.1, if_pos (nI_le (Nat.le_refl n) (by omega))]
/-- leaving out any node leaves a perfect matching -/
def crq (n : Nat) (A : Nat → Int32) : Bool := (List.range n).all (fun i => decide ((2 : Int32) * nI (DS n A (cl (al n) i)).1 = nI n - 1))
theorem crq_iff {n : Nat} {A : Nat → Int32} : crq n A = true ↔ ∀ i, i < n → (2 : Int32) * nI (DS n A (cl (al n) i)).1 = nI n - 1 := by
  unfold crq; simp
theorem isCritical_eq {n : Nat} {A : Nat → Int32} {σ : WD} (w : GW n A) (hG : GC n A σ) (hM : Mo n A σ) : ∃ τ, f_X4_isCritical σ = some (if crq n A = true then 1 else 0, τ) ∧ LQ n A σ τ := by
  have hn := w.2.1
  have hal : Bd n (al n) := Bd.al (by omega)
  obtain ⟨τ, e, h⟩ := learn_lq w hG hM
  refine ⟨τ, ?_, h⟩
  unfold f_X4_isCritical
  rw [e, bv_eq, h.2.2.al, bv_eq]
  unfold f_X4_isCritical_14
  have stp : ∀ i, i < n → f_X4_isCritical_b14 (al n) (nI i) τ = if (2 : Int32) * nI (DS n A (cl (al n) i)).1 = nI n - 1 then some (.inl (nI (i + 1))) else some (.inr (0, τ)) := by
    intro i hi
    unfold f_X4_isCritical_b14
    obtain ⟨b1, b2⟩ := h.2.1.2.1 _ (hal.cl i) (h.2.1.2.2.2.1 i hi)
    rw [h.2.2.1, if_neg (nI_ge hi (by omega)), cl_eq, gi_bd ((hal.cl i).mono hn), b1, nI_1]
  rcases first_not (fun i => (2 : Int32) * nI (DS n A (cl (al n) i)).1 = nI n - 1) n with hh | ⟨k, h1, h2, h3⟩
  · rw [if_pos (crq_iff.mpr hh)]
    refine lp_for (fun i => nI i) (a := 0) (b := n) (Nat.zero_le _) (fun i _ hi => ?_) ?_
    · show f_X4_isCritical_b14 _ _ _ = _
      rw [stp i hi, if_pos (hh i hi)]
    · show f_X4_isCritical_b14 _ _ _ = _
      unfold f_X4_isCritical_b14
      rw [h.2.2.1, if_pos (nI_le (Nat.le_refl n) (by omega))]
  · rw [if_neg (fun q => h2 (crq_iff.mp q k h1))]
    refine lp_for (fun i => nI i) (a := 0) (b := k) (Nat.zero_le _) (fun i _ hi => ?_) ?_
    · show f_X4_isCritical_b14 _ _ _ = _
      rw [stp i (by omega), if_pos (h3 i hi)]
    · show f_X4_isCritical_b14 _ _ _ = _
      rw [stp k h1, if_neg h2]
/-- what a call of Maxima leaves, when it may not have looked -/
def MZ (n : Nat) (A : Nat → Int32) (σ τ : WD) : Prop := Fr [22, 23, 24] σ τ ∧ Mo n A τ ∧ GC n A τ
theorem MZ.rf {n : Nat} {A : Nat → Int32} {σ : WD} (hG : GC n A σ) (hM : Mo n A σ) : MZ n A σ σ := ⟨Fr.rf _ _, hM, hG⟩
theorem MZ.tr {n : Nat} {A : Nat → Int32} {σ τ υ : WD} (h : MZ n A σ τ) (h2 : MZ n A τ υ) : MZ n A σ υ := ⟨h.1.tr h2.1, h2.2.1, h2.2.2⟩
theorem LQ.mz {n : Nat} {A : Nat → Int32} {σ τ : WD} (h : LQ n A σ τ) : MZ n A σ τ := ⟨h.1, h.2.1.mo, h.2.2⟩
/-- how many of the first t nodes behind u are joined with it by an edge that c maximum matchings have -/
def ehi (n : Nat) (A : Nat → Int32) (c : Int32) (u : Nat) : Nat → Nat
  | 0 => 0
  | t + 1 => ehi n A c u t + if bt (A u) (u + 1 + t) = true ∧ nI (hvq n A u (u + 1 + t)) = c then 1 else 0
theorem edgesHadBy_eq {n : Nat} {A : Nat → Int32} {σ : WD} (w : GW n A) (hG : GC n A σ) (hM : Mo n A σ) (c : Int32) : ∃ τ, f_X4_edgesHadBy c σ = some (nI (smn (fun u => ehi n A c u (n - 1 - u)) n), τ) ∧ MZ n A σ τ := by
  have hn := w.2.1
  unfold f_X4_edgesHadBy f_X4_edgesHadBy_4
  obtain ⟨s', ⟨τ, hs', hp⟩, el⟩ := lp_inv (f := fun s : Int32 × Int32 × WD => f_X4_edgesHadBy_b4 c s.1 s.2.1 s.2.2)
    (fun u s => ∃ τ, s = (nI (smn (fun u => ehi n A c u (n - 1 - u)) u), nI u, τ) ∧ MZ n A σ τ) (a := 0) (b := n) (Nat.zero_le _) (s := (0, 0, σ)) ⟨σ, rfl, MZ.rf hG hM⟩ (fun u s _ hu hs => by
      obtain ⟨τ, rfl, hp⟩ := hs
      dsimp only
      unfold f_X4_edgesHadBy_b4 f_X4_edgesHadBy_20
      rw [hp.2.2.1, if_neg (nI_ge hu (by omega)), nI_1]
      obtain ⟨s2, ⟨τ2, hs2, hp2⟩, el2⟩ := lp_inv (f := fun s : Int32 × Int32 × WD => f_X4_edgesHadBy_b20 c s.1 (nI u) s.2.1 s.2.2)
        (fun t s => ∃ τ, s = (nI (smn (fun u => ehi n A c u (n - 1 - u)) u + ehi n A c u t), nI (u + 1 + t), τ) ∧ MZ n A σ τ) (a := 0) (b := n - 1 - u) (Nat.zero_le _) (s := (nI (smn (fun u => ehi n A c u (n - 1 - u)) u), nI (u + 1), τ)) ⟨τ, rfl, hp⟩ (fun t s _ ht hs => by
          obtain ⟨τ, rfl, hp⟩ := hs
          dsimp only
          unfold f_X4_edgesHadBy_b20
          rw [hp.2.2.1, if_neg (nI_ge (show u + 1 + t < n by omega) (by omega)), joined_eq hp.2.2 (by omega) (by omega), bv_eq]
          by_cases hb : bt (A u) (u + 1 + t) = true
          · rw [if_pos hb, if_neg (by decide)]
            obtain ⟨τ2, e2, h2⟩ := having_eq w hp.2.2 hp.2.1 (u := u) (v := u + 1 + t) (by omega) (by omega)
            rw [e2, bn_eq]
            by_cases hc : nI (hvq n A u (u + 1 + t)) = c
            · rw [if_pos hc]
              refine ⟨_, rfl, τ2, ?_, hp.tr h2⟩
              rw [ehi, if_pos ⟨hb, hc⟩, nI_1, nI_1]; rfl
            · rw [if_neg hc]
              refine ⟨_, rfl, τ2, ?_, hp.tr h2⟩
              rw [ehi, if_neg (fun q => hc q.2), nI_1]; rfl
          · rw [if_neg hb, if_pos rfl]
            refine ⟨_, rfl, τ, ?_, hp⟩
            rw [ehi, if_neg (fun q => hb q.1), nI_1]; rfl)
      rw [el2]
      refine ⟨_, lp_end (r := Sum.inl (nI (smn (fun u => ehi n A c u (n - 1 - u)) (u + 1)), nI (u + 1), τ2)) ?_, τ2, rfl, hp2⟩
      rw [hs2]
      dsimp only
      unfold f_X4_edgesHadBy_b20
      rw [hp2.2.2.1, if_pos (nI_le (show n ≤ u + 1 + (n - 1 - u) by omega) (by omega)), nI_1]
      rfl)
  rw [el]
  refine ⟨τ, lp_end ?_, hp⟩
  rw [hs']
  dsimp only
  unfold f_X4_edgesHadBy_b4
  rw [hp.2.2.1, if_pos (nI_le (Nat.le_refl n) (by omega))]
def lmp (n : Nat) (A : Nat → Int32) (L : Int32) (v w : Nat) : Bool := decide (v < w) && (bt (cl L v) w && bt (A v) w) && decide ((DS n A (cl (cl L v) w)).1 + 1 = (DS n A L).1)
theorem lmw_spec (n : Nat) (A : Nat → Int32) (L : Int32) (v : Nat) : lmw n A L v ≤ n ∧ (∀ i, i < lmw n A L v → lmp n A L v i = false) ∧ (lmw n A L v < n → lmp n A L v (lmw n A L v) = true) := fr_spec (lmp n A L v) n
theorem lmw_lt {n : Nat} {A : Nat → Int32} {L : Int32} {v : Nat} (h : lmw n A L v < n) : v < lmw n A L v ∧ bt (cl L v) (lmw n A L v) = true ∧ bt (A v) (lmw n A L v) = true ∧ (DS n A (cl (cl L v) (lmw n A L v))).1 + 1 = (DS n A L).1 := by
  have := (lmw_spec n A L v).2.2 h
  unfold lmp at this
  simp only [Bool.and_eq_true, decide_eq_true_eq] at this
  exact ⟨this.1.1, this.1.2.1, this.1.2.2, this.2⟩
theorem leastMate_eq {n : Nat} {A : Nat → Int32} {σ : WD} {L : Int32} {v : Nat} (w : GW n A) (hG : GC n A σ) (hM : MV n A σ) (hL : Bd n L) (hv : v < n) (hlow : ∀ i, i < v → bt L i = false) : ∃ τ, f_X4_leastMate (nI v) L σ = some (if lmw n A L v < n then nI (lmw n A L v) else -1, τ) ∧ PF n A σ τ := by
  have hn := w.2.1
  unfold f_X4_leastMate
  obtain ⟨σ1, e1, p1, k1⟩ := findOut_eq w 14 v L σ hG hM hL hlow (by omega) (by omega)
  have hG1 := hG.fr p1.1 (by decide) (by decide)
  rw [e1, bv_eq, gi12 (by omega), nI_clamp (by omega), hG1.2 v (by omega), li_eq, nI_1]
  unfold f_X4_leastMate_23
  obtain ⟨m1, m2, m3⟩ := lmw_spec n A L v
  have hk : v + 1 ≤ lmw n A L v := by
    rcases Nat.lt_or_ge (lmw n A L v) n with h | h
    · exact (lmw_lt h).1
    · omega
  have low1 : ∀ i, i < v + 1 → bt (cl L v) i = false := fun i hi => by
    rw [b_cl (by omega) (by omega)]
    by_cases e : i = v
    · simp [e]
    · simp [hlow i (by omega)]
  -- one try
  have stp : ∀ (i : Nat) (τ : WD), v < i → i < n → PF n A σ1 τ → ∃ τ2, PF n A σ1 τ2 ∧ f_X4_leastMate_b23 (nI v) L (A v &&& L) (nI i) τ = if lmp n A L v i = true then some (.inr (nI i, τ2)) else some (.inl (nI (i + 1), τ2)) := by
    intro i τ hvi hi hp
    have hGt := hG1.fr hp.1 (by decide) (by decide)
    have hb : bt (A v &&& L) i = (bt (cl L v) i && bt (A v) i) := by
      rw [b_and, b_cl (by omega) (by omega)]
      simp [show i ≠ v by omega, Bool.and_comm]
    unfold f_X4_leastMate_b23
    rw [hGt.1, if_neg (nI_ge hi (by omega))]
    by_cases hw : (bt (cl L v) i && bt (A v) i) = true
    · rw [if_neg (fun q => by rw [tb_zero (by omega), hb, hw] at q; cases q), cl_eq, cl_eq, li_eq, nI_1]
      have hT : Bd n (cl (cl L v) i) := (hL.cl v).cl i
      obtain ⟨τ2, e2, p2, k2⟩ := findOut_eq w 14 (v + 1) (cl (cl L v) i) τ hGt hp.2.1 hT (fun j hj => by rw [b_cl (by omega) (by omega), low1 j hj]; rfl) (by omega) (by omega)
      have kL := p2.2.2 L hL (hp.2.2 L hL k1)
      rw [e2, bv_eq, gi_bd (hT.mono hn), gi_bd (hL.mono hn), (p2.2.1 _ hT k2).1, (p2.2.1 _ hL kL).1, nI_1, nI_1]
      refine ⟨τ2, hp.tr p2, ?_⟩
      have l1 := DS_le n A L
      have l2 := DS_le n A (cl (cl L v) i)
      unfold lmp
      by_cases hh : (DS n A (cl (cl L v) i)).1 + 1 = (DS n A L).1
      · rw [if_pos (by rw [hh]), if_pos (by simp [hvi, hw, hh])]
      · rw [if_neg (fun q => hh (nI_inj (by omega) (by omega) q)), if_neg (by simp [hh])]
    · rw [if_pos (by rw [tb_zero (by omega), hb]; simpa using hw), nI_1]
      refine ⟨τ, hp, ?_⟩
      unfold lmp
      rw [if_neg (fun q => by simp only [Bool.and_eq_true] at q hw; exact hw q.1.2)]
  obtain ⟨s', ⟨τ, hs', hp⟩, el⟩ := lp_inv (f := fun s : Int32 × WD => f_X4_leastMate_b23 (nI v) L (A v &&& L) s.1 s.2)
    (fun i s => ∃ τ, s = (nI i, τ) ∧ PF n A σ1 τ) (a := v + 1) (b := lmw n A L v) hk (s := (nI (v + 1), σ1)) ⟨σ1, rfl, PF.rf p1.2.1⟩ (fun i s hi1 hi2 hs => by
      obtain ⟨τ, rfl, hp⟩ := hs
      dsimp only
      obtain ⟨τ2, hp2, e2⟩ := stp i τ (by omega) (by omega) hp
      rw [e2, if_neg (by rw [m2 i hi2]; decide)]
      exact ⟨_, rfl, τ2, rfl, hp2⟩)
  rw [el, hs']
  by_cases hlt : lmw n A L v < n
  · obtain ⟨τ2, hp2, e2⟩ := stp (lmw n A L v) τ (by omega) hlt hp
    rw [if_pos hlt]
    refine ⟨τ2, lp_end ?_, p1.tr hp2⟩
    dsimp only
    rw [e2, if_pos (m3 hlt)]
  · rw [if_neg hlt]
    refine ⟨τ, lp_end ?_, p1.tr hp⟩
    dsimp only
    unfold f_X4_leastMate_b23
    rw [(hG1.fr hp.1 (by decide) (by decide)).1, if_pos (nI_le (by omega) (by omega))]
theorem ff_succ (n : Nat) (A : Nat → Int32) (v : Nat) : ff n A (v + 1) = if bt (ff n A v).1 v = true then (if lmw n A (ff n A v).1 v < n then (cl (cl (ff n A v).1 v) (lmw n A (ff n A v).1 v), upd (upd (ff n A v).2 v (nI (lmw n A (ff n A v).1 v))) (lmw n A (ff n A v).1 v) (nI v)) else (cl (ff n A v).1 v, (ff n A v).2)) else ff n A v := rfl
theorem ff_bd {n : Nat} (hn : n ≤ 12) (A : Nat → Int32) : ∀ v, Bd n (ff n A v).1
  | 0 => Bd.al (by omega)
  | v + 1 => by
    have ih := ff_bd hn A v
    rw [ff_succ]
    split
    · split
      · exact (ih.cl _).cl _
      · exact ih.cl _
    · exact ih
theorem ff_low {n : Nat} (hn : n ≤ 12) (A : Nat → Int32) : ∀ v, v ≤ n → ∀ i, i < v → bt (ff n A v).1 i = false
  | 0, _, i, hi => by omega
  | v + 1, hv, i, hi => by
    have ih := ff_low hn A v (by omega)
    have h0 : bt (cl (ff n A v).1 v) i = false := by
      rw [b_cl (by omega) (by omega)]
      by_cases e : i = v
      · simp [e]
      · simp [ih i (by omega)]
    rw [ff_succ]
    split
    · split
      · rename_i h; rw [b_cl (by omega) (by omega), h0]; rfl
      · exact h0
    · rename_i h
      by_cases e : i = v
      · rw [e]; simpa using h
      · exact ih i (by omega)
theorem findFirst_eq {n : Nat} {A : Nat → Int32} {σ : WD} (w : GW n A) (hG : GC n A σ) (hL : Ld n A σ) : ∃ τ, f_X4_findFirst σ = some τ ∧ Fr [23, 24, 26] σ τ ∧ MV n A τ ∧ (∀ T, Bd n T → Kn σ T → Kn τ T) ∧ ∀ i, i < 12 → τ.1 26 i = fm n A i := by
  have hn := w.2.1
  unfold f_X4_findFirst f_X3_clear_f
  rw [lt_eq, bv_eq]
  obtain ⟨σ0, hσ0⟩ : ∃ s, s = ups σ 26 (fillf (σ.1 26) 12 (-1)) := ⟨_, rfl⟩
  rw [← hσ0]
  have hf0 : Fr [23, 24, 26] σ σ0 := by rw [hσ0]; exact (Fr.rf _ _).ups (by decide) _
  have g23 : σ0.1 23 = σ.1 23 := by rw [hσ0]; rfl
  have g24 : σ0.1 24 = σ.1 24 := by rw [hσ0]; rfl
  have hG0 := hG.fr hf0 (by decide) (by decide)
  have hM0 : MV n A σ0 := fun S hS hk => by rw [g24] at hk; rw [g23, g24]; exact hL.2.1 S hS hk
  rw [hG0.al, bv_eq]
  unfold f_X4_findFirst_17
  obtain ⟨s', ⟨τ, hs', hf, hm, hkn, h26⟩, el⟩ := lp_inv (f := fun s : Int32 × Int32 × WD => f_X4_findFirst_b17 s.1 s.2.1 s.2.2)
    (fun v s => ∃ τ, s = ((ff n A v).1, nI v, τ) ∧ Fr [23, 24, 26] σ τ ∧ MV n A τ ∧ (∀ T, Bd n T → Kn σ T → Kn τ T) ∧ ∀ i, i < 12 → τ.1 26 i = (ff n A v).2 i) (a := 0) (b := n) (Nat.zero_le _) (s := (al n, 0, σ0)) ⟨σ0, rfl, hf0, hM0, fun T hT hk => by unfold Kn; rw [g24]; exact hk, fun i hi => by rw [hσ0, ups_get, if_pos rfl]; unfold fillf; rw [if_pos hi]; rfl⟩ (fun v s _ hv hs => by
      obtain ⟨τ, rfl, hf, hm, hkn, h26⟩ := hs
      have hGt := hG.fr hf (by decide) (by decide)
      have hbd := ff_bd hn A v
      dsimp only
      unfold f_X4_findFirst_b17
      rw [hGt.1, if_neg (nI_ge hv (by omega))]
      by_cases hb : bt (ff n A v).1 v = true
      · rw [if_neg (fun q => by rw [tb_zero (by omega), hb] at q; cases q)]
        obtain ⟨τ2, e2, p2⟩ := leastMate_eq w hGt hm hbd hv (ff_low hn A v (by omega))
        rw [e2, bn_eq, cl_eq, li_eq, nI_1]
        have c26 : τ2.1 26 = τ.1 26 := p2.1.1 26 (by decide)
        have hf2 : Fr [23, 24, 26] σ τ2 := hf.tr (p2.1.mono (by decide))
        by_cases hlt : lmw n A (ff n A v).1 v < n
        · obtain ⟨j1, j2, j3, j4⟩ := lmw_lt hlt
          rw [if_pos hlt, if_neg (nI_ne_m1 (by omega))]
          unfold f_X3_join_f
          rw [gi12 (by omega), nI_clamp (by omega), lt_eq, gi12 (by omega), nI_clamp (by omega), lt_eq, bv_eq, cl_eq, li_eq]
          refine ⟨_, rfl, upi (upi τ2 26 v (nI (lmw n A (ff n A v).1 v))) 26 (lmw n A (ff n A v).1 v) (nI v), by rw [ff_succ, if_pos hb, if_pos hlt], (hf2.upi (by decide) _ _).upi (by decide) _ _, fun S hS hk => p2.2.1 S hS hk, fun T hT hk => p2.2.2 T hT (hkn T hT hk), fun i hi => ?_⟩
          rw [ff_succ, if_pos hb, if_pos hlt]
          simp only [upi_get, if_true, upd_get]
          rw [c26, h26 i hi]
        · rw [if_neg hlt, if_pos rfl]
          refine ⟨_, rfl, τ2, by rw [ff_succ, if_pos hb, if_neg hlt], hf2, p2.2.1, fun T hT hk => p2.2.2 T hT (hkn T hT hk), fun i hi => ?_⟩
          rw [ff_succ, if_pos hb, if_neg hlt, c26]
          exact h26 i hi
      · rw [if_pos (by rw [tb_zero (by omega)]; simpa using hb), nI_1]
        refine ⟨_, rfl, τ, by rw [ff_succ, if_neg hb], hf, hm, hkn, fun i hi => by rw [ff_succ, if_neg hb]; exact h26 i hi⟩)
  rw [el, hs']
  refine ⟨τ, lp_end ?_, hf, hm, hkn, h26⟩
  dsimp only
  unfold f_X4_findFirst_b17
  rw [(hG.fr hf (by decide) (by decide)).1, if_pos (nI_le (Nat.le_refl n) (by omega))]
/-- after first: the first maximum matching stands at cell 26 -/
def FQ (n : Nat) (A : Nat → Int32) (σ τ : WD) : Prop := Fr [22, 23, 24, 26] σ τ ∧ Mo n A τ ∧ GC n A τ ∧ ∀ i, i < 12 → τ.1 26 i = fm n A i
theorem first_eq {n : Nat} {A : Nat → Int32} {σ : WD} (w : GW n A) (hG : GC n A σ) (hM : Mo n A σ) : ∃ τ, f_X4_first σ = some τ ∧ FQ n A σ τ := by
  have hn := w.2.1
  obtain ⟨σ1, e, h⟩ := learn_lq w hG hM
  unfold f_X4_first f_X4_first_20
  rw [e, bv_eq]
  by_cases hk : σ1.1 22 4 = 0
  · obtain ⟨σ2, e2, f2, m2, k2, h26⟩ := findFirst_eq w h.2.2 h.2.1
    rw [if_pos hk, e2, bv_eq, lt_eq]
    refine ⟨_, rfl, (h.1.mono (by decide)).tr ((f2.mono (by decide)).upi (by decide) _ _), ?_, ?_, ?_⟩
    · have c22 : σ2.1 22 = σ1.1 22 := f2.1 22 (by decide)
      have c1 : σ2.1 1 = σ1.1 1 := f2.1 1 (by decide)
      refine Ld.mo ⟨?_, fun S hS hkn => m2 S hS hkn, k2 _ (Bd.al (by omega)) h.2.1.2.2.1, fun i hi => k2 _ ((Bd.al (by omega)).cl i) (h.2.1.2.2.2.1 i hi), Or.inr h26⟩
      show (upi σ2 22 4 1).1 22 5 = (upi σ2 22 4 1).1 1 2
      simp only [upi_get, upd_get, if_true, show ¬ (1 : Nat) = 22 by decide, show ¬ (5 : Nat) = 4 by decide, if_false]
      rw [c22, c1]; exact h.2.1.1
    · exact h.2.2.fr ((f2.mono (K2 := [22, 23, 24, 26]) (by decide)).upi (by decide) _ _) (by decide) (by decide)
    · exact h26
  · rw [if_neg hk]
    refine ⟨σ1, rfl, h.1.mono (by decide), h.2.1.mo, h.2.2, ?_⟩
    rcases h.2.1.2.2.2.2 with q | q
    · exact absurd q hk
    · exact q
