-- ===== a round of the law's loop =====
theorem Ivt.up {k : Nat} {σ : WD} (h : Ivt k σ) : Ivt (k + 1) σ := by
  obtain ⟨n, A, M, c, len, B, kp, H, h1, h2, h3, h4⟩ := h
  exact ⟨n, A, M, c, len, B, kp, H, h1, by omega, h3, h4⟩
theorem law_step {xs : Nat → Int32} {L k : Nat} {σ : WD} (hL : L ≤ 2048) (hkL : 4 * k + 4 ≤ L) (I : Ivt k σ) : ∃ σ', f_law_b23 xs L (nI (4 * k)) σ = some (.inl (nI (4 * (k + 1)), σ')) ∧ Ivt (k + 1) σ' := by
  have hk : k < 512 := by omega
  have e4 : nI (4 * k) + 4 = nI (4 * (k + 1)) := nI_add (4 * k) 4
  have n1 : nI (4 * k) + 1 = nI (4 * k + 1) := nI_add (4 * k) 1
  have n2 : nI (4 * k) + 2 = nI (4 * k + 2) := nI_add (4 * k) 2
  have n3' : nI (4 * k) + 3 = nI (4 * k + 3) := nI_add (4 * k) 3
  have g0 : ∀ {γ : Type} (x : Option γ), gi (nI (4 * k)) L x = x := fun x => gi_in (by omega) (by omega) x
  have g1 : ∀ {γ : Type} (x : Option γ), gi (nI (4 * k) + 1) L x = x := fun x => by rw [n1]; exact gi_in (by omega) (by omega) x
  have g2 : ∀ {γ : Type} (x : Option γ), gi (nI (4 * k) + 2) L x = x := fun x => by rw [n2]; exact gi_in (by omega) (by omega) x
  have g3 : ∀ {γ : Type} (x : Option γ), gi (nI (4 * k) + 3) L x = x := fun x => by rw [n3']; exact gi_in (by omega) (by omega) x
  have hend : ¬ (Int32.ofNat L) - 4 < nI (4 * k) := by
    obtain ⟨m, rfl⟩ : ∃ m, L = m + 4 := ⟨L - 4, by omega⟩
    have : (Int32.ofNat (m + 4)) - 4 = nI m := by
      have e : Int32.ofNat (m + 4) = nI m + 4 := (nI_add m 4).symm
      rw [e]; exact Int32.add_sub_cancel (nI m) 4
    rw [this]
    exact nI_nlt (by omega) (by omega)
  rw [← e4]
  unfold f_law_b23
  rw [if_neg hend, g0]
  by_cases h0 : ((xs (nI (4 * k) : Int32).toNatClampNeg) &&& 31) = 0
  · rw [if_pos h0]
    simp only [g1]
    exact (case_begin hk I _).go _
  · rw [if_neg h0]
    by_cases h1 : ((xs (nI (4 * k) : Int32).toNatClampNeg) &&& 31) = 1
    · rw [if_pos h1]
      simp only [g1, g2, g3]
      unfold f_law_239 f_law_272
      simp only [g1, g2, g3]
      by_cases q : xs (nI (4 * k) + 3).toNatClampNeg = 0
      · simp only [if_pos q]
        exact (case_setEdge hk I _ _ false).go _
      · simp only [if_neg q]
        exact (case_setEdge hk I _ _ true).go _
    · rw [if_neg h1]
      by_cases h2 : ((xs (nI (4 * k) : Int32).toNatClampNeg) &&& 31) = 2
      · rw [if_pos h2]
        simp only [g1]
        exact (case_append I _).go _
      · rw [if_neg h2]
        by_cases h3 : ((xs (nI (4 * k) : Int32).toNatClampNeg) &&& 31) = 3
        · rw [if_pos h3]
          exact case_clearInput I _
        · rw [if_neg h3]
          by_cases h4 : ((xs (nI (4 * k) : Int32).toNatClampNeg) &&& 31) = 4
          · rw [if_pos h4]
            exact case_firstError I _
          · rw [if_neg h4]
            by_cases h5 : ((xs (nI (4 * k) : Int32).toNatClampNeg) &&& 31) = 5
            · rw [if_pos h5]
              exact (case_load hk I).go _
            · rw [if_neg h5]
              by_cases h6 : ((xs (nI (4 * k) : Int32).toNatClampNeg) &&& 31) = 6
              · rw [if_pos h6]
                simp only [g1, g2]
                exact (case_match I _ _).go _
              · rw [if_neg h6]
                by_cases h7 : ((xs (nI (4 * k) : Int32).toNatClampNeg) &&& 31) = 7
                · rw [if_pos h7]
                  simp only [g1]
                  exact (case_unmatch I _).go _
                · rw [if_neg h7]
                  by_cases h8 : ((xs (nI (4 * k) : Int32).toNatClampNeg) &&& 31) = 8
                  · rw [if_pos h8]
                    simp only [g1]
                    exact (case_augment I _).go _
                  · rw [if_neg h8]
                    by_cases h9 : ((xs (nI (4 * k) : Int32).toNatClampNeg) &&& 31) = 9
                    · rw [if_pos h9]
                      exact case_maximize I _
                    · rw [if_neg h9]
                      by_cases h10 : ((xs (nI (4 * k) : Int32).toNatClampNeg) &&& 31) = 10
                      · rw [if_pos h10]
                        exact case_takeFirst I _
                      · rw [if_neg h10]
                        by_cases h11 : ((xs (nI (4 * k) : Int32).toNatClampNeg) &&& 31) = 11
                        · rw [if_pos h11]
                          exact (case_undo hk I).go _
                        · rw [if_neg h11]
                          by_cases h12 : ((xs (nI (4 * k) : Int32).toNatClampNeg) &&& 31) = 12
                          · rw [if_pos h12]
                            simp only [g1]
                            exact (case_way I _).go _
                          · rw [if_neg h12]
                            by_cases h13 : ((xs (nI (4 * k) : Int32).toNatClampNeg) &&& 31) = 13
                            · rw [if_pos h13]
                              simp only [g1, g2]
                              exact (case_wayNode I _ _).go _
                            · rw [if_neg h13]
                              by_cases h14 : ((xs (nI (4 * k) : Int32).toNatClampNeg) &&& 31) = 14
                              · rw [if_pos h14]
                                simp only [g1, g2]
                                unfold f_law_829 f_law_856
                                simp only [g1, g2]
                                by_cases q : xs (nI (4 * k) + 2).toNatClampNeg = 0
                                · simp only [if_pos q]
                                  exact (case_reach I _ false).go _
                                · simp only [if_neg q]
                                  exact (case_reach I _ true).go _
                              · rw [if_neg h14]
                                by_cases h15 : ((xs (nI (4 * k) : Int32).toNatClampNeg) &&& 31) = 15
                                · rw [if_pos h15]
                                  exact case_oddCycle I _
                                · rw [if_neg h15]
                                  by_cases h16 : ((xs (nI (4 * k) : Int32).toNatClampNeg) &&& 31) = 16
                                  · rw [if_pos h16]
                                    simp only [g1]
                                    exact (case_firstMate I _).go _
                                  · rw [if_neg h16]
                                    by_cases h17 : ((xs (nI (4 * k) : Int32).toNatClampNeg) &&& 31) = 17
                                    · rw [if_pos h17]
                                      exact case_proof I _
                                    · rw [if_neg h17]
                                      by_cases h18 : ((xs (nI (4 * k) : Int32).toNatClampNeg) &&& 31) = 18
                                      · rw [if_pos h18]
                                        simp only [g1, g2]
                                        unfold f_law_995 f_law_1022 f_L_components
                                        simp only [g1, g2, hlr_hl]
                                        by_cases q : xs (nI (4 * k) + 2).toNatClampNeg = 0
                                        · simp only [if_pos q]
                                          exact (case_components I _ _).go _
                                        · simp only [if_neg q]
                                          exact (case_components I _ _).go _
                                      · rw [if_neg h18]
                                        by_cases h19 : ((xs (nI (4 * k) : Int32).toNatClampNeg) &&& 31) = 19
                                        · rw [if_pos h19]
                                          simp only [g1, g2]
                                          exact (case_ifChanged I _ _).go _
                                        · rw [if_neg h19]
                                          by_cases h20 : ((xs (nI (4 * k) : Int32).toNatClampNeg) &&& 31) = 20
                                          · rw [if_pos h20]
                                            simp only [g1, g2]
                                            exact (case_node I _ _).go _
                                          · rw [if_neg h20]
                                            by_cases h21 : ((xs (nI (4 * k) : Int32).toNatClampNeg) &&& 31) = 21
                                            · rw [if_pos h21]
                                              simp only [g1, g2, g3]
                                              exact (case_edge I _ _ _).go _
                                            · rw [if_neg h21]
                                              by_cases h22 : ((xs (nI (4 * k) : Int32).toNatClampNeg) &&& 31) = 22
                                              · rw [if_pos h22]
                                                simp only [g1]
                                                exact (case_count I _).go _
                                              · rw [if_neg h22]
                                                by_cases h23 : ((xs (nI (4 * k) : Int32).toNatClampNeg) &&& 31) = 23
                                                · rw [if_pos h23]
                                                  simp only [g1]
                                                  exact (case_difference I _).go _
                                                · rw [if_neg h23]
                                                  by_cases h24 : ((xs (nI (4 * k) : Int32).toNatClampNeg) &&& 31) = 24
                                                  · rw [if_pos h24]
                                                    exact case_meanUse I xs L _
                                                  · rw [if_neg h24]
                                                    by_cases h25 : ((xs (nI (4 * k) : Int32).toNatClampNeg) &&& 31) = 25
                                                    · rw [if_pos h25]
                                                      exact case_digest I _
                                                    · rw [if_neg h25]
                                                      exact ⟨σ, rfl, I.up⟩
