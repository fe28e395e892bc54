-- ===== the reference: layFirst, exposing, using, partOf, isCritical, edgesIn =====
theorem ff_m1 {n : Nat} (hn : n ≤ 12) (A : Nat → Int32) : ∀ v, v ≤ n → ∀ i, i < n → bt (ff n A v).1 i = true → (ff n A v).2 i = -1
  | 0, _, i, hi, hb => rfl
  | v + 1, hv, i, hi, hb => by
    have ih := ff_m1 hn A v (by omega) i hi
    rw [ff_succ] at hb ⊢
    by_cases h1 : bt (ff n A v).1 v = true
    · rw [if_pos h1] at hb ⊢
      by_cases h2 : lmw n A (ff n A v).1 v < n
      · rw [if_pos h2] at hb ⊢
        dsimp only at hb ⊢
        rw [b_cl (by omega) (by omega), b_cl (by omega) (by omega)] at hb
        simp only [Bool.and_eq_true, decide_eq_true_eq, ne_eq] at hb
        rw [upd_get, if_neg hb.2, upd_get, if_neg hb.1.2]
        exact ih hb.1.1
      · rw [if_neg h2] at hb ⊢
        dsimp only at hb ⊢
        rw [b_cl (by omega) (by omega)] at hb
        simp only [Bool.and_eq_true] at hb
        exact ih hb.1
    · rw [if_neg h1] at hb ⊢
      exact ih hb
theorem LR.fr {n : Nat} {A : Nat → Int32} {σ τ : WD} {K : List Nat} (h : LR n A σ) (hf : Fr K σ τ) (h1 : 34 ∉ K) (h2 : 35 ∉ K) : LR n A τ := fun S hS => by rw [hf.1 34 h1, hf.1 35 h2]; exact h S hS
theorem layFirst_eq {n : Nat} {A : Nat → Int32} {σ : WD} (w : GW n A) (hG : GR n A σ) (hR : LR n A σ) : ∃ τ, f_X7_layFirst σ = some τ ∧ Fr [36] σ τ ∧ ∀ i, i < n → τ.1 36 i = fm n A i := by
  have hn := w.2.1
  unfold f_X7_layFirst
  rw [hG.al, bv_eq]
  unfold f_X7_layFirst_7
  obtain ⟨s', ⟨τ, hs', hf, h36⟩, el⟩ := lp_inv (f := fun s : Int32 × Int32 × WD => f_X7_layFirst_b7 s.1 s.2.1 s.2.2)
    (fun v s => ∃ τ, s = ((ff n A v).1, nI v, τ) ∧ Fr [36] σ τ ∧ ∀ i, i < n → bt (ff n A v).1 i = false → τ.1 36 i = (ff n A v).2 i) (a := 0) (b := n) (Nat.zero_le _) (s := (al n, 0, σ)) ⟨σ, rfl, Fr.rf _ _, fun i hi hb => by
      have hb' : bt (al n) i = false := hb
      rw [b_al n (by omega) i (by omega)] at hb'; simp [hi] at hb'⟩ (fun v s _ hv hs => by
      obtain ⟨τ, rfl, hf, h36⟩ := hs
      have hGt := hG.fr hf (by decide) (by decide)
      have hRt := hR.fr hf (by decide) (by decide)
      have hbd := ff_bd hn A v
      dsimp only
      unfold f_X7_layFirst_b7
      rw [hGt.1, if_neg (nI_ge hv (by omega)), has_eq (by omega), bv_eq]
      by_cases hb : bt (ff n A v).1 v = true
      · rw [if_pos hb, if_neg (by decide), cl_eq, li_eq, nI_1]
        obtain ⟨L, hL⟩ : ∃ L, L = (ff n A v).1 := ⟨_, rfl⟩
        rw [← hL] at hb hbd h36 ⊢
        obtain ⟨m1, m2, m3⟩ := lmw_spec n A L v
        have hk : v + 1 ≤ lmw n A L v := by
          rcases Nat.lt_or_ge (lmw n A L v) n with h | h
          · exact (lmw_lt h).1
          · omega
        have stp : ∀ i, v < i → i < n → f_X7_layFirst_b36 L (nI v) (cl L v) (nI i) τ = if lmp n A L v i = true then mr (f_X7_layFirst_91 (nI v) (cl L v) (nI i) τ) else some (.inl (nI (i + 1))) := by
          intro i h1 h2
          unfold f_X7_layFirst_b36
          rw [hGt.1, if_neg (nI_ge h2 (by omega)), gi12 (by omega), nI_clamp (by omega), hGt.2 v (by omega), has_eq (by omega), bv_eq, b_and]
          unfold lmp
          by_cases hw : (bt (cl L v) i && bt (A v) i) = true
          · have hT : Bd n (cl (cl L v) i) := (hbd.cl v).cl i
            have r1 : τ.1 34 (cl (cl L v) i).toNatClampNeg = nI (DS n A (cl (cl L v) i)).1 := (hRt _ hT).1
            have r2 : τ.1 34 L.toNatClampNeg = nI (DS n A L).1 := (hRt _ hbd).1
            rw [if_pos hw, if_neg (by decide), cl_eq, gi_bd (hT.mono hn), gi_bd (hbd.mono hn), r1, r2, nI_1, nI_1]
            have l1 := DS_le n A L
            have l2 := DS_le n A (cl (cl L v) i)
            by_cases hh : (DS n A (cl (cl L v) i)).1 + 1 = (DS n A L).1
            · rw [if_pos (by rw [hh]), if_pos (by simp [h1, hw, hh])]
            · rw [if_neg (fun q => hh (nI_inj (by omega) (by omega) q)), if_neg (by simp [hh])]
          · rw [if_neg hw, if_pos rfl, nI_1, if_neg (fun q => by simp only [Bool.and_eq_true] at q hw; exact hw q.1.2)]
        have e36 : f_X7_layFirst_36 L (nI v) (cl L v) (nI (v + 1)) τ = f_X7_layFirst_91 (nI v) (cl L v) (nI (lmw n A L v)) τ ∨ f_X7_layFirst_91 (nI v) (cl L v) (nI (lmw n A L v)) τ = none := by
          cases h91 : f_X7_layFirst_91 (nI v) (cl L v) (nI (lmw n A L v)) τ with
          | none => exact Or.inr rfl
          | some r =>
            left
            unfold f_X7_layFirst_36
            refine lp_for (fun i => nI i) (a := v + 1) (b := lmw n A L v) hk (fun i h1 h2 => ?_) ?_
            · show f_X7_layFirst_b36 _ _ _ _ _ = _
              rw [stp i (by omega) (by omega), if_neg (by rw [m2 i h2]; decide)]
            · show f_X7_layFirst_b36 _ _ _ _ _ = _
              rcases Nat.lt_or_ge (lmw n A L v) n with h | h
              · rw [stp _ (by omega) h, if_pos (m3 h), h91, mr_eq]
              · unfold f_X7_layFirst_b36
                rw [hGt.1, if_pos (nI_le h (by omega)), h91, mr_eq]
        have f1 : ∀ x, Fr [36] σ (upi τ 36 v x) := fun x => hf.upi (by decide) _ _
        have hfs := ff_succ n A v
        rw [← hL, if_pos hb] at hfs
        by_cases hlt : lmw n A L v < n
        · rw [if_pos hlt] at hfs
          have h91 : f_X7_layFirst_91 (nI v) (cl L v) (nI (lmw n A L v)) τ = some (.inl (cl (cl L v) (lmw n A L v), nI (v + 1), upi (upi τ 36 v (nI (lmw n A L v))) 36 (lmw n A L v) (nI v))) := by
            unfold f_X7_layFirst_91 f_X7_layFirst_111
            rw [hGt.1, if_neg (nI_ge hlt (by omega)), gi12 (by omega), nI_clamp (by omega), lt_eq, (hGt.fr ((Fr.rf [36] τ).upi (by decide) _ _) (by decide) (by decide)).1, if_neg (nI_ge hlt (by omega)), gi12 (by omega), nI_clamp (by omega), lt_eq, cl_eq, li_eq, nI_1]
          rcases e36 with e | e
          · rw [e, h91]
            refine ⟨_, rfl, _, by rw [hfs], (f1 _).upi (by decide) _ _, fun i hi hbi => ?_⟩
            rw [hfs] at hbi ⊢
            dsimp only at hbi ⊢
            simp only [upi_get, if_true, upd_get]
            by_cases q1 : i = lmw n A L v
            · rw [if_pos q1, if_pos q1]
            · rw [if_neg q1, if_neg q1]
              by_cases q2 : i = v
              · rw [if_pos q2, if_pos q2]
              · rw [if_neg q2, if_neg q2]
                refine h36 i hi ?_
                rw [b_cl (by omega) (by omega), b_cl (by omega) (by omega)] at hbi
                simpa [q1, q2] using hbi
          · rw [h91] at e; cases e
        · rw [if_neg hlt] at hfs
          have h91 : f_X7_layFirst_91 (nI v) (cl L v) (nI (lmw n A L v)) τ = some (.inl (cl L v, nI (v + 1), upi τ 36 v (-1))) := by
            unfold f_X7_layFirst_91 f_X7_layFirst_111
            rw [hGt.1, if_pos (nI_le (by omega) (by omega)), gi12 (by omega), nI_clamp (by omega), lt_eq, (hGt.fr ((Fr.rf [36] τ).upi (by decide) _ _) (by decide) (by decide)).1, if_pos (nI_le (by omega) (by omega)), nI_1]
          rcases e36 with e | e
          · rw [e, h91]
            refine ⟨_, rfl, _, by rw [hfs], f1 _, fun i hi hbi => ?_⟩
            rw [hfs] at hbi ⊢
            dsimp only at hbi ⊢
            simp only [upi_get, if_true, upd_get]
            by_cases q2 : i = v
            · rw [if_pos q2, q2]
              exact (ff_m1 hn A v (by omega) v hv (by rw [← hL]; exact hb)).symm
            · rw [if_neg q2]
              refine h36 i hi ?_
              rw [b_cl (by omega) (by omega)] at hbi
              simpa [q2] using hbi
          · rw [h91] at e; cases e
      · rw [if_neg hb, if_pos rfl, nI_1]
        refine ⟨_, rfl, τ, by rw [ff_succ, if_neg hb], hf, fun i hi hbi => ?_⟩
        rw [ff_succ, if_neg hb] at hbi ⊢
        exact h36 i hi hbi)
  rw [el, hs']
  refine ⟨τ, lp_end ?_, hf, fun i hi => h36 i hi (ff_low hn A n (Nat.le_refl n) i hi)⟩
  dsimp only
  unfold f_X7_layFirst_b7
  rw [(hG.fr hf (by decide) (by decide)).1, if_pos (nI_le (Nat.le_refl n) (by omega))]
theorem x_exposing_eq {n : Nat} {A : Nat → Int32} {σ : WD} (w : GW n A) (hG : GR n A σ) (hR : LR n A σ) (v : Nat) : f_X7_exposing (nI v) σ = some (nI (exq n A v)) := by
  have hn := w.2.1
  have hal : Bd n (al n) := Bd.al (by omega)
  have hT : Bd n (cl (al n) v) := hal.cl v
  unfold f_X7_exposing
  rw [hG.al, bv_eq, cl_eq, li_eq, gi_bd (hT.mono hn), bv_eq, gi_bd (hal.mono hn), gi_bd (hT.mono hn), (hR _ hT).1, (hR _ hT).2, (hR _ hal).1]
  unfold exq
  have l1 := DS_le n A (al n)
  have l2 := DS_le n A (cl (al n) v)
  by_cases hh : (DS n A (cl (al n) v)).1 = (DS n A (al n)).1
  · rw [if_pos (by rw [hh]), if_pos hh]
  · rw [if_neg (fun q => hh (nI_inj (by omega) (by omega) q)), if_neg hh]; rfl
theorem x_using_eq {n : Nat} {A : Nat → Int32} {σ : WD} (w : GW n A) (hG : GR n A σ) (hR : LR n A σ) {u v : Nat} (hu : u < n) (hv : v < n) : f_X7_using (nI u) (nI v) σ = some (nI (hvq n A u v)) := by
  have hn := w.2.1
  have hal : Bd n (al n) := Bd.al (by omega)
  have hT : Bd n (cl (cl (al n) u) v) := (hal.cl u).cl v
  have h0 : f_X7_using_22 (nI u) (nI v) σ = some 0 := by
    unfold f_X7_using_22 f_X7_using_23
    rw [hG.al, bv_eq, li_eq, if_pos rfl]
  unfold f_X7_using
  by_cases e : u = v
  · subst e
    rw [if_pos rfl, h0]
    unfold hvq
    rw [if_neg (fun q => by rw [w.2.2.2.2 u (by omega)] at q; cases q.1)]; rfl
  · rw [if_neg (fun q => e (nI_inj (by omega) (by omega) q)), gi12 (by omega), nI_clamp (by omega), hG.2 u (by omega), has_eq (by omega), bv_eq]
    unfold hvq
    by_cases hb : bt (A u) v = true
    · rw [if_pos hb, if_neg (by decide)]
      unfold f_X7_using_23
      rw [hG.al, bv_eq, cl_eq, cl_eq, li_eq, if_neg (by decide), gi_bd (hT.mono hn), bv_eq, gi_bd (hal.mono hn), gi_bd (hT.mono hn), (hR _ hT).1, (hR _ hT).2, (hR _ hal).1, nI_1]
      have l1 := DS_le n A (al n)
      have l2 := DS_le n A (cl (cl (al n) u) v)
      by_cases hh : (DS n A (cl (cl (al n) u) v)).1 + 1 = (DS n A (al n)).1
      · rw [if_pos (by rw [hh]), if_pos ⟨hb, hh⟩]
      · rw [if_neg (fun q => hh (nI_inj (by omega) (by omega) q)), if_neg (fun q => hh q.2)]; rfl
    · rw [if_neg hb, if_pos rfl, if_neg (fun q => hb q.1)]
      exact h0
theorem x_isCritical_eq {n : Nat} {A : Nat → Int32} {σ : WD} (w : GW n A) (hG : GR n A σ) (hR : LR n A σ) : f_X7_isCritical σ = some (if crq n A = true then 1 else 0) := by
  have hn := w.2.1
  have hal : Bd n (al n) := Bd.al (by omega)
  unfold f_X7_isCritical f_X7_isCritical_4
  have hlp := lp_for (f := fun s : Int32 × Int32 => f_X7_isCritical_b4 s.1 s.2 σ) (r := if crq n A = true then (1 : Int32) else 0) (fun i => ((if (List.range i).all (fun i => decide ((2 : Int32) * nI (DS n A (cl (al n) i)).1 = nI n - 1)) = true then (1 : Int32) else 0), nI i)) (a := 0) (b := n) (Nat.zero_le _) (fun i _ hi => by
    show f_X7_isCritical_b4 _ _ σ = _
    unfold f_X7_isCritical_b4
    have hT : Bd n (cl (al n) i) := hal.cl i
    rw [hG.1, if_neg (nI_ge hi (by omega)), hG.al, bv_eq, cl_eq, gi_bd (hT.mono hn), (hR _ hT).1, nI_1, List.range_succ, List.all_append]
    cases (List.range i).all (fun i => decide ((2 : Int32) * nI (DS n A (cl (al n) i)).1 = nI n - 1))
    · simp
    · by_cases hh : (2 : Int32) * nI (DS n A (cl (al n) i)).1 = nI n - 1
      · simp [hh]
      · simp [hh]) (by
    show f_X7_isCritical_b4 _ _ σ = _
    unfold f_X7_isCritical_b4
    rw [hG.1, if_pos (nI_le (Nat.le_refl n) (by omega))]
    show gb (if crq n A = true then (1 : Int32) else 0) (some (Sum.inr (if crq n A = true then (1 : Int32) else 0))) = _
    cases crq n A
    · rfl
    · rfl)
  exact hlp
theorem x_edgesIn_eq {n : Nat} {A : Nat → Int32} {σ : WD} (w : GW n A) (hG : GR n A σ) (hR : LR n A σ) (c : Int32) : f_X7_edgesIn c σ = some (nI (smn (fun u => ehi n A c u (n - 1 - u)) n)) := by
  have hn := w.2.1
  unfold f_X7_edgesIn f_X7_edgesIn_4
  refine lp_for (fun u => (nI (smn (fun u => ehi n A c u (n - 1 - u)) u), nI u)) (a := 0) (b := n) (Nat.zero_le _) (fun u _ hu => ?_) ?_
  · show f_X7_edgesIn_b4 _ _ _ _ = _
    unfold f_X7_edgesIn_b4 f_X7_edgesIn_17
    rw [hG.1, if_neg (nI_ge hu (by omega)), nI_1]
    refine lp_for (fun t => (nI (smn (fun u => ehi n A c u (n - 1 - u)) u + ehi n A c u t), nI (u + 1 + t))) (a := 0) (b := n - 1 - u) (Nat.zero_le _) (fun t _ ht => ?_) ?_
    · show f_X7_edgesIn_b17 _ _ _ _ _ = _
      unfold f_X7_edgesIn_b17
      rw [hG.1, if_neg (nI_ge (show u + 1 + t < n by omega) (by omega)), gi12 (by omega), nI_clamp (by omega), hG.2 u (by omega), has_eq (by omega), bv_eq, ehi]
      by_cases hb : bt (A u) (u + 1 + t) = true
      · rw [if_pos hb, if_neg (by decide), x_using_eq w hG hR hu (by omega), bv_eq]
        by_cases hc : nI (hvq n A u (u + 1 + t)) = c
        · rw [if_pos hc, if_pos ⟨hb, hc⟩, nI_1, nI_1]; rfl
        · rw [if_neg hc, if_neg (fun q => hc q.2), nI_1]; simp; rfl
      · rw [if_neg hb, if_pos rfl, if_neg (fun q => hb q.1), nI_1]; simp; rfl
    · show f_X7_edgesIn_b17 _ _ _ _ _ = _
      unfold f_X7_edgesIn_b17
      rw [hG.1, if_pos (nI_le (show n ≤ u + 1 + (n - 1 - u) by omega) (by omega)), nI_1]
      rfl
  · show f_X7_edgesIn_b4 _ _ _ _ = _
    unfold f_X7_edgesIn_b4
    rw [hG.1, if_pos (nI_le (Nat.le_refl n) (by omega))]
-- ===== the three parts =====
theorem exq_ne {n : Nat} {A : Nat → Int32} {v : Nat} : exq n A v ≠ 0 ↔ (DS n A (cl (al n) v)).1 = (DS n A (al n)).1 := by
  unfold exq
  have := DS_pos n A (cl (al n) v)
  constructor
  · intro h
    by_cases q : (DS n A (cl (al n) v)).1 = (DS n A (al n)).1
    · exact q
    · rw [if_neg q] at h; exact absurd rfl h
  · intro h; rw [if_pos h]; omega
theorem exq_lt {n : Nat} (hn : n ≤ 12) (A : Nat → Int32) (v : Nat) : exq n A v ≤ 140152 := by
  unfold exq
  split
  · exact DS_lt hn A _
  · omega
theorem exs_iff {n : Nat} {A : Nat → Int32} {v : Nat} (hn : n ≤ 12) (hv : v < n) : bt (exs n A n) v = true ↔ exq n A v ≠ 0 := by
  rw [exs_bt (by omega) v (by omega), exq_ne]
  simp [hv]
/-- has a neighbour that some maximum matching leaves exposed -/
def nbx (n : Nat) (A : Nat → Int32) (v : Nat) : Nat → Bool
  | 0 => false
  | t + 1 => nbx n A v t || (bt (A v) t && decide (exq n A t ≠ 0))
theorem nbx_succ (n : Nat) (A : Nat → Int32) (v t : Nat) : nbx n A v (t + 1) = (nbx n A v t || (bt (A v) t && decide (exq n A t ≠ 0))) := rfl
def ptq (n : Nat) (A : Nat → Int32) (v : Nat) : Int32 := if exq n A v ≠ 0 then 0 else if nbx n A v n = true then 1 else 2
theorem x_partOf_eq {n : Nat} {A : Nat → Int32} {σ : WD} (w : GW n A) (hG : GR n A σ) (hR : LR n A σ) {v : Nat} (hv : v < n) : f_X7_partOf (nI v) σ = some (ptq n A v) := by
  have hn := w.2.1
  have h0 : ∀ u, nI (exq n A u) ≤ 0 ↔ exq n A u = 0 := fun u => by
    have := exq_lt hn A u
    have q := nI_le_iff (a := exq n A u) (b := 0) (by omega) (by omega)
    rw [show nI 0 = (0 : Int32) from rfl] at q
    rw [q]; omega
  unfold f_X7_partOf ptq
  rw [x_exposing_eq w hG hR, bv_eq]
  by_cases he : exq n A v = 0
  · rw [if_pos ((h0 v).mpr he), if_neg (fun q => q he)]
    unfold f_X7_partOf_14
    have hlp := lp_for (f := fun s : Int32 × Int32 => f_X7_partOf_b14 (nI v) s.1 s.2 σ) (r := if nbx n A v n = true then (1 : Int32) else 2) (fun i => ((if nbx n A v i = true then (1 : Int32) else 0), nI i)) (a := 0) (b := n) (Nat.zero_le _) (fun i _ hi => by
      show f_X7_partOf_b14 _ _ _ σ = _
      unfold f_X7_partOf_b14
      rw [hG.1, if_neg (nI_ge hi (by omega)), gi12 (by omega), nI_clamp (by omega), hG.2 v (by omega), has_eq (by omega), bv_eq, x_exposing_eq w hG hR, bv_eq, nI_1]
      rw [nbx_succ]
      cases nbx n A v i
      · cases bt (A v) i
        · simp
        · by_cases q : exq n A i = 0
          · rw [if_pos ((h0 i).mpr q)]; simp [q]
          · rw [if_neg (fun z => q ((h0 i).mp z))]; simp [q]
      · simp) (by
      show f_X7_partOf_b14 _ _ _ σ = _
      unfold f_X7_partOf_b14 f_X7_partOf_59
      rw [hG.1, if_pos (nI_le (Nat.le_refl n) (by omega))]
      dsimp only
      cases nbx n A v n
      · rfl
      · rfl)
    exact hlp
  · rw [if_neg (fun q => he ((h0 v).mp q)), if_pos he]
theorem nbx_iff {n : Nat} {A : Nat → Int32} {v : Nat} : ∀ {t : Nat}, nbx n A v t = true ↔ ∃ u, u < t ∧ bt (A v) u = true ∧ exq n A u ≠ 0
  | 0 => by simp [nbx]
  | t + 1 => by
    rw [nbx_succ, Bool.or_eq_true, nbx_iff (t := t)]
    simp only [Bool.and_eq_true, decide_eq_true_eq]
    constructor
    · rintro (⟨u, h1, h2⟩ | h)
      · exact ⟨u, by omega, h2⟩
      · exact ⟨t, by omega, h⟩
    · rintro ⟨u, h1, h2⟩
      by_cases e : u = t
      · subst e; exact Or.inr h2
      · exact Or.inl ⟨u, by omega, h2⟩
theorem partOf_eq {n : Nat} {A : Nat → Int32} {σ : WD} (w : GW n A) (hG : GC n A σ) (hM : Mo n A σ) {v : Nat} (hv : v < n) : ∃ τ, f_X6_partOf (nI v) σ = some (ptq n A v, τ) ∧ LQ n A σ τ := by
  have hn := w.2.1
  obtain ⟨τ, e, h⟩ := exposable_eq w hG hM
  refine ⟨τ, ?_, h⟩
  unfold f_X6_partOf ptq
  rw [e, bn_eq]
  by_cases he : exq n A v = 0
  · have hb : bt (exs n A n) v = false := by
      cases hb : bt (exs n A n) v
      · rfl
      · exact absurd he ((exs_iff hn hv).mp hb)
    rw [if_pos ((tb_zero (by omega)).mpr hb), gi12 (by omega), nI_clamp (by omega), h.2.2.2 v (by omega)]
    by_cases hx : nbx n A v n = true
    · obtain ⟨u, h1, h2, h3⟩ := nbx_iff.mp hx
      have h4 := (exs_iff hn h1).mpr h3
      rw [if_neg (fun q => by
        have := congrArg (fun x => bt x u) q
        simp only [b_and, h4, h2, b_0] at this
        cases this), if_neg (fun q => q he), if_pos hx]
    · rw [if_neg (show ¬ exq n A v ≠ 0 from fun q => q he), if_neg hx, if_pos]
      apply b_ext
      intro i hi
      rw [b_and, b_0]
      rcases Nat.lt_or_ge i n with h1 | h1
      · cases h2 : bt (exs n A n) i
        · rfl
        · cases h3 : bt (A v) i
          · rfl
          · exact absurd (nbx_iff.mpr ⟨i, h1, h3, (exs_iff hn h1).mp h2⟩) hx
      · rw [w.2.2.1 v (by omega) i h1 hi]; simp
  · rw [if_neg (fun q => by rw [tb_zero (by omega)] at q; rw [(exs_iff hn hv).mpr he] at q; cases q), if_pos he]
