-- ===== the reference: layFirst, exposing, using, partOf, isCritical, edgesIn =====
theorem ff_m1 {n : Nat} (hn : n ≤ 12) (A : Nat → Int32) : ∀ v, v ≤ n → ∀ i, i < n → bt (ff n A v).1 i = true → (ff n A v).2 i = -1
  | 0, _, i, hi, hb => rfl
  | v + 1, hv, i, hi, hb => by
    have ih := ff_m1 hn A v (by omega) i hi
    rw [ff_succ] at hb ⊢
    by_cases h1 : bt (ff n A v).1 v = true
    · rw [if_pos h1] at hb ⊢
      by_cases h2 : lmw n A (ff n A v).1 v < n
      · rw [if_pos h2] at hb ⊢
        dsimp only at hb ⊢
        rw [b_cl (by omega) (by omega), b_cl (by omega) (by omega)] at hb
        simp only [Bool.and_eq_true, decide_eq_true_eq, ne_eq] at hb
        rw [upd_get, if_neg hb.2, upd_get, if_neg hb.1.2]
        exact ih hb.1.1
      · rw [if_neg h2] at hb ⊢
        dsimp only at hb ⊢
        rw [b_cl (by omega) (by omega)] at hb
        simp only [Bool.and_eq_true] at hb
        exact ih hb.1
    · rw [if_neg h1] at hb ⊢
      exact ih hb
theorem LR.fr {n : Nat} {A : Nat → Int32} {σ τ : WD} {K : List Nat} (h : LR n A σ) (hf : Fr K σ τ) (h1 : 34 ∉ K) (h2 : 35 ∉ K) : LR n A τ := fun S hS => by rw [hf.1 34 h1, hf.1 35 h2]; exact h S hS
theorem layFirst_eq {n : Nat} {A : Nat → Int32} {σ : WD} (w : GW n A) (hG : GR n A σ) (hR : LR n A σ) : ∃ τ, f_X7_layFirst σ = some τ ∧ Fr [36] σ τ ∧ ∀ i, i < n → τ.1 36 i = fm n A i := by
  have hn := w.2.1
  unfold f_X7_layFirst
  rw [hG.al, bv_eq]
  unfold f_X7_layFirst_7
  obtain ⟨s', ⟨τ, hs', hf, h36⟩, el⟩ := lp_inv (f := fun s : Int32 × Int32 × WD => f_X7_layFirst_b7 s.1 s.2.1 s.2.2)
    (fun v s => ∃ τ, s = ((ff n A v).1, nI v, τ) ∧ Fr [36] σ τ ∧ ∀ i, i < n → bt (ff n A v).1 i = false → τ.1 36 i = (ff n A v).2 i) (a := 0) (b := n) (Nat.zero_le _) (s := (al n, 0, σ)) ⟨σ, rfl, Fr.rf _ _, fun i hi hb => by
      have hb' : bt (al n) i = false := hb
      rw [b_al n (by omega) i (by omega)] at hb'; simp [hi] at hb'⟩ (fun v s _ hv hs => by
      obtain ⟨τ, rfl, hf, h36⟩ := hs
      have hGt := hG.fr hf (by decide) (by decide)
      have hRt := hR.fr hf (by decide) (by decide)
      have hbd := ff_bd hn A v
      dsimp only
      unfold f_X7_layFirst_b7
      rw [hGt.1, if_neg (nI_ge hv (by omega)), has_eq (by omega), bv_eq]
      by_cases hb : bt (ff n A v).1 v = true
      · rw [if_pos hb, if_neg (by decide), cl_eq, li_eq, nI_1]
        obtain ⟨L, hL⟩ : ∃ L, L = (ff n A v).1 := ⟨_, rfl⟩
        rw [← hL] at hb hbd h36 ⊢
        obtain ⟨m1, m2, m3⟩ := lmw_spec n A L v
        have hk : v + 1 ≤ lmw n A L v := by
          rcases Nat.lt_or_ge (lmw n A L v) n with h | h
          · exact (lmw_lt h).1
          · omega
        have stp : ∀ i, v < i → i < n → f_X7_layFirst_b36 L (nI v) (cl L v) (nI i) τ = if lmp n A L v i = true then mr (f_X7_layFirst_91 (nI v) (cl L v) (nI i) τ) else some (.inl (nI (i + 1))) := by
          intro i h1 h2
          unfold f_X7_layFirst_b36
          rw [hGt.1, if_neg (nI_ge h2 (by omega)), gi12 (by omega), nI_clamp (by omega), hGt.2 v (by omega), has_eq (by omega), bv_eq, b_and]
          unfold lmp
          by_cases hw : (bt (cl L v) i && bt (A v) i) = true
          · have hT : Bd n (cl (cl L v) i) := (hbd.cl v).cl i
            have r1 : τ.1 34 (cl (cl L v) i).toNatClampNeg = nI (DS n A (cl (cl L v) i)).1 := (hRt _ hT).1
            have r2 : τ.1 34 L.toNatClampNeg = nI (DS n A L).1 := (hRt _ hbd).1
            rw [if_pos hw, if_neg (by decide), cl_eq, gi_bd (hT.mono hn), gi_bd (hbd.mono hn), r1, r2, nI_1, nI_1]
            have l1 := DS_le n A L
            have l2 := DS_le n A (cl (cl L v) i)
            by_cases hh : (DS n A (cl (cl L v) i)).1 + 1 = (DS n A L).1
            · rw [if_pos (by rw [hh]), if_pos (by simp [h1, hw, hh])]
            · rw [if_neg (fun q => hh (nI_inj (by omega) (by omega) q)), if_neg (by simp [hh])]
          · rw [if_neg hw, if_pos rfl, nI_1, if_neg (fun q => by simp only [Bool.and_eq_true] at q hw; exact hw q.1.2)]
        have e36 : f_X7_layFirst_36 L (nI v) (cl L v) (nI (v + 1)) τ = f_X7_layFirst_91 (nI v) (cl L v) (nI (lmw n A L v)) τ ∨ f_X7_layFirst_91 (nI v) (cl L v) (nI (lmw n A L v)) τ = none := by
          cases h91 : f_X7_layFirst_91 (nI v) (cl L v) (nI (lmw n A L v)) τ with
          | none => exact Or.inr rfl
          | some r =>
            left
            unfold f_X7_layFirst_36
            refine lp_for (fun i => nI i) (a := v + 1) (b := lmw n A L v) hk (fun i h1 h2 => ?_) ?_
            · show f_X7_layFirst_b36 _ _ _ _ _ = _
              rw [stp i (by omega) (by omega), if_neg (by rw [m2 i h2]; decide)]
            · show f_X7_layFirst_b36 _ _ _ _ _ = _
              rcases Nat.lt_or_ge (lmw n A L v) n with h | h
              · rw [stp _ (by omega) h, if_pos (m3 h), h91, mr_eq]
              · unfold f_X7_layFirst_b36
                rw [hGt.1, if_pos (nI_le h (by omega)), h91, mr_eq]
        have f1 : ∀ x, Fr [36] σ (upi τ 36 v x) := fun x => hf.upi (by decide) _ _
        have hfs := ff_succ n A v
        rw [← hL, if_pos hb] at hfs
        by_cases hlt : lmw n A L v < n
        · rw [if_pos hlt] at hfs
          have h91 : f_X7_layFirst_91 (nI v) (cl L v) (nI (lmw n A L v)) τ = some (.inl (cl (cl L v) (lmw n A L v), nI (v + 1), upi (upi τ 36 v (nI (lmw n A L v))) 36 (lmw n A L v) (nI v))) := by
            unfold f_X7_layFirst_91 f_X7_layFirst_111
            rw [hGt.1, if_neg (nI_ge hlt (by omega)), gi12 (by omega), nI_clamp (by omega), lt_eq, (hGt.fr ((Fr.rf [36] τ).upi (by decide) _ _) (by decide) (by decide)).1, if_neg (nI_ge hlt (by omega)), gi12 (by omega), nI_clamp (by omega), lt_eq, cl_eq, li_eq, nI_1]
          rcases e36 with e | e
          · rw [e, h91]
            refine ⟨_, rfl, _, by rw [hfs], (f1 _).upi (by decide) _ _, fun i hi hbi => ?_⟩
            rw [hfs] at hbi ⊢
            dsimp only at hbi ⊢
            simp only [upi_get, if_true, upd_get]
            by_cases q1 : i = lmw n A L v
            · rw [if_pos q1, if_pos q1]
            · rw [if_neg q1, if_neg q1]
              by_cases q2 : i = v
              · rw [if_pos q2, if_pos q2]
              · rw [if_neg q2, if_neg q2]
                refine h36 i hi ?_
                rw [b_cl (by omega) (by omega), b_cl (by omega) (by omega)] at hbi
                simpa [q1, q2] using hbi
          · rw [h91] at e; cases e
        · rw [if_neg hlt] at hfs
          have h91 : f_X7_layFirst_91 (nI v) (cl L v) (nI (lmw n A L v)) τ = some (.inl (cl L v, nI (v + 1), upi τ 36 v (-1))) := by
            unfold f_X7_layFirst_91 f_X7_layFirst_111
            rw [hGt.1, if_pos (nI_le (by omega) (by omega)), gi12 (by omega), nI_clamp (by omega), lt_eq, (hGt.fr ((Fr.rf [36] τ).upi (by decide) _ _) (by decide) (by decide)).1, if_pos (nI_le (by omega) (by omega)), nI_1]
          rcases e36 with e | e
          · rw [e, h91]
            refine ⟨_, rfl, _, by rw [hfs], f1 _, fun i hi hbi => ?_⟩
            rw [hfs] at hbi ⊢
            dsimp only at hbi ⊢
            simp only [upi_get, if_true, upd_get]
            by_cases q2 : i = v
            · rw [if_pos q2, q2]
              exact (ff_m1 hn A v (by omega) v hv (by rw [← hL]; exact hb)).symm
            · rw [if_neg q2]
              refine h36 i hi ?_
              rw [b_cl (by omega) (by omega)] at hbi
              simpa [q2] using hbi
          · rw [h91] at e; cases e
      · rw [if_neg hb, if_pos rfl, nI_1]
        refine ⟨_, rfl, τ, by rw [ff_succ, if_neg hb], hf, fun i hi hbi => ?_⟩
        rw [ff_succ, if_neg hb] at hbi ⊢
        exact h36 i hi hbi)
  rw [el, hs']
  refine ⟨τ, lp_end ?_, hf, fun i hi => h36 i hi (ff_low hn A n (Nat.le_refl n) i hi)⟩
  dsimp only
  unfold f_X7_layFirst_b7
  rw [(hG.fr hf (by decide) (by decide)).1, if_pos (nI_le (Nat.le_refl n) (by omega))]
