-- ===== the first maximum matching, as a rule; Maxima's other methods =====
/-- the least mate of node v in the maximum matchings of L; n if it is exposed -/
def lmw (n : Nat) (A : Nat → Int32) (L : Int32) (v : Nat) : Nat := ((List.range n).find? (fun w => decide (v < w) && (bt (cl L v) w && bt (A v) w) && decide ((DS n A (cl (cl L v) w)).1 + 1 = (DS n A L).1))).getD n
/-- nodes left, and the mates so far, before node v -/
def ff (n : Nat) (A : Nat → Int32) : Nat → Int32 × (Nat → Int32)
  | 0 => (al n, fun _ => -1)
  | v + 1 => if bt (ff n A v).1 v = true then (if lmw n A (ff n A v).1 v < n then (cl (cl (ff n A v).1 v) (lmw n A (ff n A v).1 v), upd (upd (ff n A v).2 v (nI (lmw n A (ff n A v).1 v))) (lmw n A (ff n A v).1 v) (nI v)) else (cl (ff n A v).1 v, (ff n A v).2)) else ff n A v
def fm (n : Nat) (A : Nat → Int32) : Nat → Int32 := (ff n A n).2
/-- Maxima knows the present graph -/
def Ld (n : Nat) (A : Nat → Int32) (σ : WD) : Prop := σ.1 22 5 = σ.1 1 2 ∧ MV n A σ ∧ Kn σ (al n) ∧ (∀ i, i < n → Kn σ (cl (al n) i)) ∧ (σ.1 22 4 = 0 ∨ ∀ i, i < 12 → σ.1 26 i = fm n A i)
/-- .. or knows that it doesn't -/
def Mo (n : Nat) (A : Nat → Int32) (σ : WD) : Prop := σ.1 22 5 ≤ σ.1 1 2 ∧ (σ.1 22 5 = σ.1 1 2 → Ld n A σ)
theorem Ld.mo {n : Nat} {A : Nat → Int32} {σ : WD} (h : Ld n A σ) : Mo n A σ := ⟨by rw [h.1]; exact Int32.le_refl _, fun _ => h⟩
theorem Ld.pf {n : Nat} {A : Nat → Int32} {σ τ : WD} (hn : n < 13) (h : Ld n A σ) (hp : PF n A σ τ) : Ld n A τ := by
  obtain ⟨a1, a2, a3, a4, a5⟩ := h
  have f22 := hp.1.1 22 (by decide)
  have f1 := hp.1.1 1 (by decide)
  have f26 := hp.1.1 26 (by decide)
  exact ⟨by rw [f22, f1]; exact a1, hp.2.1, hp.2.2 _ (Bd.al hn) a3, fun i hi => hp.2.2 _ ((Bd.al hn).cl i) (a4 i hi), by rw [f22, f26]; exact a5⟩
theorem learn_eq {n : Nat} {A : Nat → Int32} {σ : WD} (w : GW n A) (hG : GC n A σ) (hM : Mo n A σ) : ∃ τ, f_X4_learn σ = some τ ∧ Fr [22, 23, 24] σ τ ∧ Ld n A τ := by
  have hn := w.2.1
  unfold f_X4_learn
  by_cases hc : σ.1 22 5 = σ.1 1 2
  · rw [if_pos hc]
    exact ⟨σ, rfl, Fr.rf _ _, hM.2 hc⟩
  · rw [if_neg hc, lt_eq, lt_eq, lt_eq]
    obtain ⟨σ0, hσ0⟩ : ∃ s, s = ups (upi (upi σ 22 5 (σ.1 1 2)) 22 4 0) 24 (fillf ((upi (upi σ 22 5 (σ.1 1 2)) 22 4 0).1 24) 4096 0) := ⟨_, rfl⟩
    rw [← hσ0]
    have hf0 : Fr [22, 23, 24] σ σ0 := by rw [hσ0]; exact (((Fr.rf _ _).upi (by decide) _ _).upi (by decide) _ _).ups (by decide) _
    have hG0 : GC n A σ0 := hG.fr hf0 (by decide) (by decide)
    have h24 : ∀ S, Bd n S → σ0.1 24 (ix S) = 0 := by
      intro S hS
      rw [hσ0, ups_get, if_pos rfl]
      unfold fillf
      rw [if_pos (bd_lt (hS.mono hn))]
    have hM0 : MV n A σ0 := fun S hS hk => absurd (h24 S hS) hk
    have h225 : σ0.1 22 5 = σ0.1 1 2 := by rw [hσ0]; simp [ups_get, upi_get, upd_get]
    have h224 : σ0.1 22 4 = 0 := by rw [hσ0]; simp [ups_get, upi_get, upd_get]
    rw [hG0.al, bv_eq]
    have hal : Bd n (al n) := Bd.al (by omega)
    obtain ⟨σ1, e1, p1, k1⟩ := findOut_eq w 14 0 (al n) σ0 hG0 hM0 hal (fun i hi => by omega) (Nat.zero_le _) (by omega)
    have e1' : f_X4_findOut 14 (al n) 0 σ0 = some σ1 := e1
    rw [e1', bv_eq]
    have hG1 := hG0.fr p1.1 (by decide) (by decide)
    unfold f_X4_learn_55
    obtain ⟨s', ⟨τ, hs', hp, hk⟩, el⟩ := lp_inv (f := fun s : Int32 × WD => f_X4_learn_b55 (al n) s.1 s.2)
      (fun i s => ∃ τ, s = (nI i, τ) ∧ PF n A σ1 τ ∧ ∀ j, j < i → Kn τ (cl (al n) j)) (a := 0) (b := n) (Nat.zero_le _) (s := (0, σ1)) ⟨σ1, rfl, PF.rf p1.2.1, fun j hj => by omega⟩ (fun i s _ hi hs => by
        obtain ⟨τ, rfl, hp, hk⟩ := hs
        have hGt := hG1.fr hp.1 (by decide) (by decide)
        dsimp only
        unfold f_X4_learn_b55
        obtain ⟨τ2, e2, p2, k2⟩ := findOut_eq w 14 0 (cl (al n) i) τ hGt hp.2.1 (hal.cl i) (fun i hi => by omega) (Nat.zero_le _) (by omega)
        have e2' : f_X4_findOut 14 (cl (al n) i) 0 τ = some τ2 := e2
        rw [hGt.1, if_neg (nI_ge hi (by omega)), cl_eq, e2', bv_eq, nI_1]
        refine ⟨_, rfl, τ2, rfl, hp.tr p2, fun j hj => ?_⟩
        by_cases e : j = i
        · rw [e]; exact k2
        · exact p2.2.2 _ (hal.cl j) (hk j (by omega)))
    rw [el]
    have hGt := hG1.fr hp.1 (by decide) (by decide)
    have hpp := p1.tr hp
    refine ⟨τ, lp_end ?_, hf0.tr (hpp.1.mono (by decide)), ?_, hpp.2.1, hp.2.2 _ hal k1, hk, ?_⟩
    · rw [hs']
      dsimp only
      unfold f_X4_learn_b55
      rw [hGt.1, if_pos (nI_le (Nat.le_refl n) (by omega))]
    · rw [hpp.1.1 22 (by decide), hpp.1.1 1 (by decide)]; exact h225
    · left
      rw [hpp.1.1 22 (by decide)]; exact h224
/-- what a call of Maxima leaves: the same graph, the memo right -/
def LQ (n : Nat) (A : Nat → Int32) (σ τ : WD) : Prop := Fr [22, 23, 24] σ τ ∧ Ld n A τ ∧ GC n A τ
theorem learn_lq {n : Nat} {A : Nat → Int32} {σ : WD} (w : GW n A) (hG : GC n A σ) (hM : Mo n A σ) : ∃ τ, f_X4_learn σ = some τ ∧ LQ n A σ τ := by
  obtain ⟨τ, e, h1, h2⟩ := learn_eq w hG hM
  exact ⟨τ, e, h1, h2, hG.fr h1 (by decide) (by decide)⟩
theorem number_eq {n : Nat} {A : Nat → Int32} {σ : WD} (w : GW n A) (hG : GC n A σ) (hM : Mo n A σ) : ∃ τ, f_X4_number σ = some (nI (DS n A (al n)).1, τ) ∧ LQ n A σ τ := by
  have hn := w.2.1
  obtain ⟨τ, e, h⟩ := learn_lq w hG hM
  refine ⟨τ, ?_, h⟩
  unfold f_X4_number
  rw [e, bv_eq, h.2.2.al, bv_eq, gi_bd ((Bd.al (by omega)).mono hn), (h.2.1.2.1 _ (Bd.al (by omega)) h.2.1.2.2.1).1]
theorem howMany_eq {n : Nat} {A : Nat → Int32} {σ : WD} (w : GW n A) (hG : GC n A σ) (hM : Mo n A σ) : ∃ τ, f_X4_howMany σ = some (nI (DS n A (al n)).2, τ) ∧ LQ n A σ τ := by
  have hn := w.2.1
  obtain ⟨τ, e, h⟩ := learn_lq w hG hM
  refine ⟨τ, ?_, h⟩
  unfold f_X4_howMany
  rw [e, bv_eq, h.2.2.al, bv_eq, gi_bd ((Bd.al (by omega)).mono hn), (h.2.1.2.1 _ (Bd.al (by omega)) h.2.1.2.2.1).2]
/-- how many maximum matchings leave node v exposed -/
def exq (n : Nat) (A : Nat → Int32) (v : Nat) : Nat := if (DS n A (cl (al n) v)).1 = (DS n A (al n)).1 then (DS n A (cl (al n) v)).2 else 0
theorem exposing_eq {n : Nat} {A : Nat → Int32} {σ : WD} (w : GW n A) (hG : GC n A σ) (hM : Mo n A σ) {v : Nat} (hv : v < n) : ∃ τ, f_X4_exposing (nI v) σ = some (nI (exq n A v), τ) ∧ LQ n A σ τ := by
  have hn := w.2.1
  have hal : Bd n (al n) := Bd.al (by omega)
  obtain ⟨τ, e, h⟩ := learn_lq w hG hM
  refine ⟨τ, ?_, h⟩
  unfold f_X4_exposing
  obtain ⟨a1, a2⟩ := h.2.1.2.1 _ hal h.2.1.2.2.1
  obtain ⟨b1, b2⟩ := h.2.1.2.1 _ (hal.cl v) (h.2.1.2.2.2.1 v hv)
  rw [e, bv_eq, h.2.2.al, bv_eq, cl_eq, li_eq, gi_bd ((hal.cl v).mono hn), gi_bd (hal.mono hn), gi_bd ((hal.cl v).mono hn), a1, b1, b2]
  unfold exq
  have l1 := DS_le n A (al n)
  have l2 := DS_le n A (cl (al n) v)
  by_cases hh : (DS n A (cl (al n) v)).1 = (DS n A (al n)).1
  · rw [if_pos hh, if_pos (by rw [hh])]
  · rw [if_neg hh, if_neg (fun q => hh (nI_inj (by omega) (by omega) q))]; rfl
theorem numberWithout_eq {n : Nat} {A : Nat → Int32} {σ : WD} (w : GW n A) (hG : GC n A σ) (hM : Mo n A σ) {u v : Nat} (hu : u < n) (hv : v < n) : ∃ τ, f_X4_numberWithout (nI u) (nI v) σ = some (nI (DS n A (cl (cl (al n) u) v)).1, τ) ∧ LQ n A σ τ := by
  have hn := w.2.1
  have hal : Bd n (al n) := Bd.al (by omega)
  obtain ⟨τ, e, h⟩ := learn_lq w hG hM
  have hT : Bd n (cl (cl (al n) u) v) := (hal.cl u).cl v
  obtain ⟨τ2, e2, p2, k2⟩ := findOut_eq w 14 0 _ τ h.2.2 h.2.1.2.1 hT (fun i hi => by omega) (Nat.zero_le _) (by omega)
  have e2' : f_X4_findOut 14 (cl (cl (al n) u) v) 0 τ = some τ2 := e2
  refine ⟨τ2, ?_, h.1.tr (p2.1.mono (by decide)), h.2.1.pf (by omega) p2, h.2.2.fr p2.1 (by decide) (by decide)⟩
  unfold f_X4_numberWithout
  rw [e, bv_eq, h.2.2.al, bv_eq, cl_eq, cl_eq, li_eq, e2', bv_eq, gi_bd (hT.mono hn), (p2.2.1 _ hT k2).1]
/-- how many maximum matchings have the edge between u and v -/
def hvq (n : Nat) (A : Nat → Int32) (u v : Nat) : Nat := if bt (A u) v = true ∧ (DS n A (cl (cl (al n) u) v)).1 + 1 = (DS n A (al n)).1 then (DS n A (cl (cl (al n) u) v)).2 else 0
theorem having_eq {n : Nat} {A : Nat → Int32} {σ : WD} (w : GW n A) (hG : GC n A σ) (hM : Mo n A σ) {u v : Nat} (hu : u < n) (hv : v < n) : ∃ τ, f_X4_having (nI u) (nI v) σ = some (nI (hvq n A u v), τ) ∧ Fr [22, 23, 24] σ τ ∧ Mo n A τ ∧ GC n A τ := by
  have hn := w.2.1
  have hal : Bd n (al n) := Bd.al (by omega)
  unfold f_X4_having
  rw [joined_eq hG (by omega) (by omega), bv_eq]
  by_cases hb : bt (A u) v = true
  · rw [if_pos hb, if_neg (by decide)]
    obtain ⟨τ, e, h⟩ := learn_lq w hG hM
    have hT : Bd n (cl (cl (al n) u) v) := (hal.cl u).cl v
    obtain ⟨τ2, e2, p2, k2⟩ := findOut_eq w 14 0 _ τ h.2.2 h.2.1.2.1 hT (fun i hi => by omega) (Nat.zero_le _) (by omega)
    have e2' : f_X4_findOut 14 (cl (cl (al n) u) v) 0 τ = some τ2 := e2
    have h2 := h.2.1.pf (by omega) p2
    refine ⟨τ2, ?_, h.1.tr (p2.1.mono (by decide)), h2.mo, h.2.2.fr p2.1 (by decide) (by decide)⟩
    obtain ⟨a1, a2⟩ := h2.2.1 _ hal h2.2.2.1
    rw [e, bv_eq, h.2.2.al, bv_eq, cl_eq, cl_eq, li_eq, e2', bv_eq, gi_bd (hT.mono hn), gi_bd (hal.mono hn), gi_bd (hT.mono hn), a1, (p2.2.1 _ hT k2).1, (p2.2.1 _ hT k2).2, nI_1]
    unfold hvq
    have l1 := DS_le n A (al n)
    have l2 := DS_le n A (cl (cl (al n) u) v)
    by_cases hh : (DS n A (cl (cl (al n) u) v)).1 + 1 = (DS n A (al n)).1
    · rw [if_pos (by rw [hh]), if_pos ⟨hb, hh⟩]
    · rw [if_neg (fun q => hh (nI_inj (by omega) (by omega) q)), if_neg (fun q => hh q.2)]; rfl
  · rw [if_neg hb, if_pos rfl]
    refine ⟨σ, ?_, Fr.rf _ _, hM, hG⟩
    unfold hvq
    rw [if_neg (fun q => hb q.1)]; rfl
