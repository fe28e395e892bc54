-- ===== proof =====
/-- the best proof among the first k sets, and its size -/
noncomputable def pfs (n : Nat) (A : Nat → Int32) : Nat → Int32 × Nat
  | 0 => (-1, 13)
  | k + 1 => if pcn (nI k) < (pfs n A k).2 ∧ ocn n A (dif (al n) (nI k)) + 2 * (DS n A (al n)).1 = pcn (nI k) + n then (nI k, pcn (nI k)) else pfs n A k
theorem pfs_succ (n : Nat) (A : Nat → Int32) (k : Nat) : pfs n A (k + 1) = if pcn (nI k) < (pfs n A k).2 ∧ ocn n A (dif (al n) (nI k)) + 2 * (DS n A (al n)).1 = pcn (nI k) + n then (nI k, pcn (nI k)) else pfs n A k := rfl
theorem pfs_le (n : Nat) (A : Nat → Int32) : ∀ k, (pfs n A k).2 ≤ 13
  | 0 => Nat.le_refl _
  | k + 1 => by
    have := pfs_le n A k
    rw [pfs_succ]
    split
    · rename_i h; show pcn (nI k) ≤ 13; omega
    · exact this
theorem pfs_min {n : Nat} {A : Nat → Int32} {j : Nat} (hj : ocn n A (dif (al n) (nI j)) + 2 * (DS n A (al n)).1 = pcn (nI j) + n) : ∀ k, j < k → (pfs n A k).2 ≤ pcn (nI j)
  | 0, h => by omega
  | k + 1, h => by
    rw [pfs_succ]
    by_cases e : j = k
    · subst e
      split
      · exact Nat.le_refl _
      · rename_i q
        rcases Nat.lt_or_ge (pcn (nI j)) (pfs n A j).2 with r | r
        · exact absurd ⟨r, hj⟩ q
        · exact r
    · have ih := pfs_min hj k (by omega)
      split
      · rename_i q; show pcn (nI k) ≤ _; omega
      · exact ih
theorem pfs_stop {n : Nat} {A : Nat → Int32} {k : Nat} (h : (pfs n A k).2 = 0) : ∀ m, k ≤ m → pfs n A m = pfs n A k
  | 0, q => by rw [show k = 0 by omega]
  | m + 1, q => by
    by_cases e : k = m + 1
    · rw [e]
    · have ih := pfs_stop h m (by omega)
      rw [pfs_succ, ih, h, if_neg (fun r => by omega)]
theorem nI_minus : ∀ n, n < 13 → ∀ k, k < 7 → 2 * k ≤ n → nI n - 2 * nI k = nI (n - 2 * k) := by decide +kernel
theorem DS_half {n : Nat} {A : Nat → Int32} (w : GW n A) : 2 * (DS n A (al n)).1 ≤ n := by
  have hn := w.2.1
  have hal : Bd n (al n) := Bd.al (by omega)
  have := Mt.two (hal.mono hn) ((Mt_DS w hal _).mpr (Nat.le_refl _))
  rw [pct_al n (by omega)] at this
  exact this
theorem ocn_lt {n : Nat} {A : Nat → Int32} (w : GW n A) {W : Int32} (hW : Bd n W) : ocn n A W ≤ n := by
  have := ocn_le w hW (k := 0) trivial
  have := pcn_le w.2.1 hW
  omega
theorem x_proofNow_eq {n : Nat} {A : Nat → Int32} {σ : WD} (w : GW n A) (hG : GR n A σ) (hR : LR n A σ) : f_X7_proofNow σ = some (pfs n A (2 ^ n)).1 := by
  have hn := w.2.1
  have hp2 := pow_le (show n < 13 by omega)
  have hpos : 0 < 2 ^ n := Nat.pow_pos (by decide)
  have hal : Bd n (al n) := Bd.al (by omega)
  have hh := DS_half w
  unfold f_X7_proofNow
  rw [hG.al, bv_eq, gi_bd (hal.mono hn), hG.1, (hR _ hal).1, nI_minus n (by omega) _ (by omega) hh, li_eq]
  unfold f_X7_proofNow_25
  refine lp_for (fun k => ((pfs n A k).1, nI (pfs n A k).2, nI k)) (a := 0) (b := 2 ^ n) (Nat.zero_le _) (fun k _ hk => ?_) ?_
  · show f_X7_proofNow_b25 _ (pfs n A k).1 (nI (pfs n A k).2) (nI k) _ = _
    unfold f_X7_proofNow_b25
    have hl := pfs_le n A k
    have hW : Bd n (dif (al n) (nI k)) := hal.dif _
    have ho := ocn_lt w hW
    have hc := pcn_le hn (bd_pow hk)
    rw [hG.al, bv_eq, if_neg (by rw [al_nI (by omega)]; exact nI_nlt (by omega) (by omega)), bits_eq, bv_eq, pfs_succ]
    unfold f_X7_proofNow_71 f_X7_proofNow_72 f_X7_proofNow_88
    by_cases h1 : (pfs n A k).2 ≤ pcn (nI k)
    · rw [if_pos (nI_le h1 (by omega)), if_pos rfl, if_pos rfl, if_neg (fun q => by omega), nI_1]
    · rw [if_neg (nI_ge (by omega) (by omega)), bv_eq, dif_eq, componentsOf_eq w hG hW, bv_eq, bv_eq, nI_add]
      by_cases h2 : ocn n A (dif (al n) (nI k)) + 2 * (DS n A (al n)).1 = pcn (nI k) + n
      · rw [if_pos (show nI (pcs n A (dif (al n) (nI k)) 1 n).2 = nI (pcn (nI k) + (n - 2 * (DS n A (al n)).1)) from congrArg nI (by show ocn n A (dif (al n) (nI k)) = _; omega)), if_neg (by decide), bits_eq, bv_eq, if_neg (by decide), if_pos ⟨by omega, h2⟩, nI_1]
      · rw [if_neg (fun q => h2 (by
          have q : ocn n A (dif (al n) (nI k)) = pcn (nI k) + (n - 2 * (DS n A (al n)).1) := nI_inj (by show ocn n A (dif (al n) (nI k)) < _; omega) (by omega) q
          omega)), if_pos rfl, if_pos rfl, if_neg (fun q => h2 q.2), nI_1]
  · show f_X7_proofNow_b25 _ _ _ _ _ = _
    unfold f_X7_proofNow_b25
    rw [hG.al, bv_eq, if_pos (by rw [al_nI (by omega)]; exact nI_lt (by omega) (by omega))]
theorem isProof_eq {n : Nat} {A : Nat → Int32} {σ : WD} (w : GW n A) (hG : GC n A σ) (hM : Mo n A σ) {k : Nat} (hk : k < 2 ^ n) : ∃ τ, f_X6_isProof (nI k) (nI (pcn (nI k))) σ = some (if ocn n A (dif (al n) (nI k)) + 2 * (DS n A (al n)).1 = pcn (nI k) + n then 1 else 0, τ) ∧ MZ n A σ τ := by
  have hn := w.2.1
  have hal : Bd n (al n) := Bd.al (by omega)
  have hh := DS_half w
  have hW : Bd n (dif (al n) (nI k)) := hal.dif _
  have ho := ocn_lt w hW
  have hc := pcn_le hn (bd_pow hk)
  obtain ⟨τ, e, h⟩ := number_eq w hG hM
  refine ⟨τ, ?_, h.mz⟩
  unfold f_X6_isProof f_X6_deficiency
  rw [hG.al, bv_eq, dif_eq, pieces_eq w hG hW, bv_eq, e, bn_eq, bn_eq, hG.1, nI_minus n (by omega) _ (by omega) hh, nI_add]
  by_cases h2 : ocn n A (dif (al n) (nI k)) + 2 * (DS n A (al n)).1 = pcn (nI k) + n
  · rw [if_pos (show nI (pcs n A (dif (al n) (nI k)) 1 n).2 = nI (pcn (nI k) + (n - 2 * (DS n A (al n)).1)) from congrArg nI (by show ocn n A (dif (al n) (nI k)) = _; omega)), if_pos h2]
  · rw [if_neg (fun q => h2 (by
      have q : ocn n A (dif (al n) (nI k)) = pcn (nI k) + (n - 2 * (DS n A (al n)).1) := nI_inj (by show ocn n A (dif (al n) (nI k)) < _; omega) (by omega) q
      omega)), if_neg h2]
theorem proof_eq {n : Nat} {A : Nat → Int32} {σ : WD} (w : GW n A) (hG : GC n A σ) (hM : Mo n A σ) : ∃ τ, f_X6_proof σ = some ((pfs n A (2 ^ n)).1, τ) ∧ MZ n A σ τ := by
  have hn := w.2.1
  have hp2 := pow_le (show n < 13 by omega)
  have hpos : 0 < 2 ^ n := Nat.pow_pos (by decide)
  have hal : Bd n (al n) := Bd.al (by omega)
  unfold f_X6_proof
  obtain ⟨τ0, e0, h0⟩ := exposable_eq w hG hM
  rw [hG.al, bv_eq, e0, bn_eq]
  unfold f_X6_proof_25
  -- what the class holds as least
  obtain ⟨ls, hls⟩ : ∃ ls : Nat → Int32, ∀ k, ls k = if (pfs n A k).2 = 13 then 0 else (pfs n A k).1 := ⟨_, fun _ => rfl⟩
  have hsame : ∀ k m, pfs n A m = pfs n A k → ls m = ls k := fun k m h => by rw [hls, hls, h]
  have key : ∀ d k τ, 2 ^ n - k = d → k ≤ 2 ^ n → MZ n A σ τ → ∃ τ', lp (fun s : Int32 × Int32 × Int32 × WD => f_X6_proof_b25 (al n) (exs n A n) s.1 s.2.1 s.2.2.1 s.2.2.2) (ls k, nI (pfs n A k).2, nI k, τ) = some (ls (2 ^ n), τ') ∧ MZ n A σ τ' := by
    intro d
    induction d with
    | zero =>
      intro k τ hd hk hz
      have hk2 : k = 2 ^ n := by omega
      refine ⟨τ, lp_end ?_, hz⟩
      dsimp only
      unfold f_X6_proof_b25
      rw [if_pos (by rw [al_nI (by omega)]; exact nI_lt (by omega) (by omega)), hk2]
    | succ d ih =>
      intro k τ hd hk hz
      have hl := pfs_le n A k
      have hc := pcn_le hn (bd_pow (n := n) (k := k) (by omega))
      by_cases hz0 : (pfs n A k).2 = 0
      · refine ⟨τ, lp_end ?_, hz⟩
        dsimp only
        unfold f_X6_proof_b25
        rw [if_neg (by rw [al_nI (by omega)]; exact nI_nlt (by omega) (by omega)), hz0, if_pos (by decide), hsame k (2 ^ n) (pfs_stop hz0 _ hk)]
      · have skip : pfs n A (k + 1) = pfs n A k → ∀ τ, MZ n A σ τ → f_X6_proof_b25 (al n) (exs n A n) (ls k) (nI (pfs n A k).2) (nI k) τ = some (.inl (ls k, nI (pfs n A k).2, nI k + 1, τ)) → ∃ τ', lp (fun s : Int32 × Int32 × Int32 × WD => f_X6_proof_b25 (al n) (exs n A n) s.1 s.2.1 s.2.2.1 s.2.2.2) (ls k, nI (pfs n A k).2, nI k, τ) = some (ls (2 ^ n), τ') ∧ MZ n A σ τ' := by
          intro hs τ hz hf
          obtain ⟨τ', e, h⟩ := ih (k + 1) τ (by omega) (by omega) hz
          refine ⟨τ', ?_, h⟩
          rw [← e, hs, hsame k (k + 1) hs]
          refine lp_go ?_
          dsimp only
          rw [hf, nI_1]
        have hbd : Bd n (nI k) := bd_pow (by omega)
        have f0 : f_X6_proof_b25 (al n) (exs n A n) (ls k) (nI (pfs n A k).2) (nI k) τ = if (pfs n A k).2 ≤ pcn (nI k) then some (.inl (ls k, nI (pfs n A k).2, nI k + 1, τ)) else if (nI k &&& exs n A n) = 0 then bn (f_X6_isProof (nI k) (nI (pcn (nI k))) τ) (fun r62 σ62 => if r62 = 0 then some (.inl (ls k, nI (pfs n A k).2, nI k + 1, σ62)) else some (.inl (nI k, nI (pcn (nI k)), nI k + 1, σ62))) else some (.inl (ls k, nI (pfs n A k).2, nI k + 1, τ)) := by
          unfold f_X6_proof_b25
          rw [if_neg (by rw [al_nI (by omega)]; exact nI_nlt (by omega) (by omega)), if_neg (nI_nle (by omega) (by omega)), bitCount_eq (hbd.mono hn), bv_eq]
          by_cases h1 : (pfs n A k).2 ≤ pcn (nI k)
          · rw [if_pos (nI_le h1 (by omega)), if_pos h1]
          · rw [if_neg (nI_ge (by omega) (by omega)), if_neg h1]
        by_cases h1 : (pfs n A k).2 ≤ pcn (nI k)
        · refine skip ?_ τ hz ?_
          · rw [pfs_succ, if_neg (fun q => by omega)]
          · rw [f0, if_pos h1]
        · by_cases h3 : (nI k &&& exs n A n) = 0
          · obtain ⟨τ2, e2, z2⟩ := isProof_eq w hz.2.2 hz.2.1 (k := k) (by omega)
            by_cases h2 : ocn n A (dif (al n) (nI k)) + 2 * (DS n A (al n)).1 = pcn (nI k) + n
            · obtain ⟨τ', e, h⟩ := ih (k + 1) τ2 (by omega) (by omega) (hz.tr z2)
              refine ⟨τ', ?_, h⟩
              have hs : pfs n A (k + 1) = (nI k, pcn (nI k)) := by rw [pfs_succ, if_pos ⟨by omega, h2⟩]
              have hs2 : ls (k + 1) = nI k := by rw [hls, hs, if_neg (by show ¬ pcn (nI k) = 13; omega)]
              rw [← e, hs, hs2]
              refine lp_go ?_
              dsimp only
              rw [f0, if_neg h1, if_pos h3, e2, bn_eq, if_pos h2, if_neg (by decide), nI_1]
            · obtain ⟨τ', e, h⟩ := ih (k + 1) τ2 (by omega) (by omega) (hz.tr z2)
              refine ⟨τ', ?_, h⟩
              have hs : pfs n A (k + 1) = pfs n A k := by rw [pfs_succ, if_neg (fun q => h2 q.2)]
              rw [← e, hs, hsame k (k + 1) hs]
              refine lp_go ?_
              dsimp only
              rw [f0, if_neg h1, if_pos h3, e2, bn_eq, if_neg h2, if_pos rfl, nI_1]
          · refine skip ?_ τ hz ?_
            · rw [pfs_succ, if_neg (fun q => h3 ?_)]
              refine s_ext (fun i => ?_)
              rw [m_an, b_0]
              constructor
              · rintro ⟨i1, i2⟩
                rw [exs_bt (by omega) i (lt32 i1)] at i2
                simp only [decide_eq_true_eq] at i2
                exact absurd i2.2 (proof_ex w hbd q.2 i1)
              · intro q; cases q
            · rw [f0, if_neg h1, if_neg h3]
  obtain ⟨τ, e, h⟩ := key (2 ^ n) 0 τ0 (by omega) (by omega) h0.mz
  refine ⟨τ, ?_, h⟩
  have e' : lp (fun s : Int32 × Int32 × Int32 × WD => f_X6_proof_b25 (al n) (exs n A n) s.1 s.2.1 s.2.2.1 s.2.2.2) (0, 13, 0, τ0) = some (ls (2 ^ n), τ) := by
    rw [← e, hls 0]; rfl
  rw [e', hls]
  obtain ⟨T, t1, t2⟩ := berge w _ (al n) (Nat.le_refl _) hal
  have hT : Bd n T := fun i q1 q2 => by
    cases q : bt T i
    · rfl
    · have := t1 i q; rw [hal i q1 q2] at this; cases this
  rw [pct_al n (by omega)] at t2
  have hTx : nI (ix T) = T := bd_nn (hT.mono hn)
  have := pfs_min (n := n) (A := A) (j := ix T) (by rw [hTx]; exact t2) (2 ^ n) (ix_lt_pow (by omega) hT)
  have h12 := pcn_le hn hT
  rw [hTx] at this
  rw [if_neg (by omega)]
