-- ===== the class's part of the world and the reference's; histories; edits =====
def SameC (σ τ : WD) : Prop := ∀ c, c < 29 → τ.1 c = σ.1 c
def SameR (σ τ : WD) : Prop := ∀ c, 29 ≤ c → τ.1 c = σ.1 c
theorem Fr.sc {K : List Nat} {σ τ : WD} (h : Fr K σ τ) (hk : ∀ c, c ∈ K → 29 ≤ c) : SameC σ τ := fun c hc => h.1 c (fun q => by have := hk c q; omega)
theorem Fr.sr {K : List Nat} {σ τ : WD} (h : Fr K σ τ) (hk : ∀ c, c ∈ K → c < 29) : SameR σ τ := fun c hc => h.1 c (fun q => by have := hk c q; omega)
theorem SameC.tr {σ τ υ : WD} (h : SameC σ τ) (h2 : SameC τ υ) : SameC σ υ := fun c hc => (h2 c hc).trans (h c hc)
theorem SameR.tr {σ τ υ : WD} (h : SameR σ τ) (h2 : SameR τ υ) : SameR σ υ := fun c hc => (h2 c hc).trans (h c hc)
theorem SameC.rf (σ : WD) : SameC σ σ := fun _ _ => rfl
theorem SameR.rf (σ : WD) : SameR σ σ := fun _ _ => rfl
def BCt (len : Nat) (B : Nat → Int32) (σ : WD) : Prop := σ.1 5 1 = nI len ∧ ∀ i, i < len → σ.1 6 i = B i
def BRt (len : Nat) (B : Nat → Int32) (σ : WD) : Prop := σ.1 29 6 = nI len ∧ ∀ i, i < len → σ.1 33 i = B i
abbrev HT : Type := Nat → (Nat → Int32) × (Nat → Int32)
def HCt (kp : Nat) (H : HT) (σ : WD) : Prop := σ.1 7 3 = nI kp ∧ ∃ l, l < 4 ∧ σ.1 7 2 = nI l ∧ ∀ j, j < kp → ∀ i, i < 12 → σ.1 (9 + (l + 4 - j) % 4) i = (H j).1 i ∧ σ.1 (14 + (l + 4 - j) % 4) i = (H j).2 i
def HRt (kp : Nat) (H : HT) (σ : WD) : Prop := σ.1 29 4 = nI kp ∧ ∀ j, j < kp → ∀ i, i < 12 → σ.1 32 (24 * (kp - 1 - j) + i) = (H j).1 i ∧ σ.1 32 (24 * (kp - 1 - j) + 12 + i) = (H j).2 i
def HVt (n kp : Nat) (H : HT) : Prop := kp ≤ 4 ∧ ∀ j, j < kp → GW n (H j).1 ∧ MW n (H j).1 (H j).2
def CPt (n : Nat) (A M : Nat → Int32) (c len : Nat) (B : Nat → Int32) (kp : Nat) (H : HT) (σ : WD) : Prop := GC n A σ ∧ CM M σ ∧ Mo n A σ ∧ σ.1 1 2 = nI c ∧ BCt len B σ ∧ HCt kp H σ
def RPt (n : Nat) (A M : Nat → Int32) (len : Nat) (B : Nat → Int32) (kp : Nat) (H : HT) (σ : WD) : Prop := GR n A σ ∧ RM M σ ∧ BRt len B σ ∧ HRt kp H σ
def PVt (n : Nat) (A M : Nat → Int32) (len kp : Nat) (H : HT) : Prop := GW n A ∧ MW n A M ∧ len ≤ 60 ∧ HVt n kp H
def Ivt (k : Nat) (σ : WD) : Prop := ∃ n A M c len B kp H, PVt n A M len kp H ∧ c ≤ 64 * k ∧ CPt n A M c len B kp H σ ∧ RPt n A M len B kp H σ
theorem HCt.of {kp : Nat} {H : HT} {σ τ : WD} (h : HCt kp H σ) (e : ∀ c, c ∈ [7, 9, 10, 11, 12, 14, 15, 16, 17] → τ.1 c = σ.1 c) : HCt kp H τ := by
  obtain ⟨h1, l, h2, h3, h4⟩ := h
  have e7 := e 7 (by decide)
  refine ⟨by rw [e7]; exact h1, l, h2, by rw [e7]; exact h3, fun j hj i hi => ?_⟩
  have m1 : ∀ x, x < 4 → (9 + x) ∈ [7, 9, 10, 11, 12, 14, 15, 16, 17] := by decide
  have m2 : ∀ x, x < 4 → (14 + x) ∈ [7, 9, 10, 11, 12, 14, 15, 16, 17] := by decide
  rw [e _ (m1 ((l + 4 - j) % 4) (Nat.mod_lt _ (by decide))), e _ (m2 ((l + 4 - j) % 4) (Nat.mod_lt _ (by decide)))]
  exact h4 j hj i hi
theorem Mo.of {n : Nat} {A : Nat → Int32} {σ τ : WD} (h : Mo n A σ) (e1 : τ.1 1 = σ.1 1) (e2 : τ.1 22 = σ.1 22) (e3 : τ.1 23 = σ.1 23) (e4 : τ.1 24 = σ.1 24) (e5 : τ.1 26 = σ.1 26) : Mo n A τ := by
  unfold Mo Ld MV Kn at *
  rw [e1, e2, e3, e4, e5]
  exact h
theorem CPt.same {n : Nat} {A M : Nat → Int32} {c len : Nat} {B : Nat → Int32} {kp : Nat} {H : HT} {σ τ : WD} (h : CPt n A M c len B kp H σ) (e : SameC σ τ) : CPt n A M c len B kp H τ := by
  obtain ⟨h1, h2, h3, h4, h5, h6⟩ := h
  refine ⟨⟨by rw [e 1 (by decide)]; exact h1.1, fun i hi => by rw [e 2 (by decide)]; exact h1.2 i hi⟩, fun i hi => by rw [e 4 (by decide)]; exact h2 i hi, h3.of (e 1 (by decide)) (e 22 (by decide)) (e 23 (by decide)) (e 24 (by decide)) (e 26 (by decide)), by rw [e 1 (by decide)]; exact h4, ⟨by rw [e 5 (by decide)]; exact h5.1, fun i hi => by rw [e 6 (by decide)]; exact h5.2 i hi⟩, h6.of (fun x hx => e x (by revert x; decide))⟩
theorem RPt.same {n : Nat} {A M : Nat → Int32} {len : Nat} {B : Nat → Int32} {kp : Nat} {H : HT} {σ τ : WD} (h : RPt n A M len B kp H σ) (e : SameR σ τ) : RPt n A M len B kp H τ := by
  obtain ⟨h1, h2, h3, h4⟩ := h
  have e29 := e 29 (by decide)
  have e30 := e 30 (by decide)
  have e31 := e 31 (by decide)
  have e32 := e 32 (by decide)
  have e33 := e 33 (by decide)
  unfold RPt GR RM BRt HRt
  rw [e29, e30, e31, e32, e33]
  exact ⟨h1, h2, h3, h4⟩
/-- what a reader of the class leaves -/
def CTr (n : Nat) (A : Nat → Int32) (σ τ : WD) : Prop := Fr [18, 19, 20, 21, 22, 23, 24, 26, 27, 28] σ τ ∧ Mo n A τ
theorem CTr.sr {n : Nat} {A : Nat → Int32} {σ τ : WD} (h : CTr n A σ τ) : SameR σ τ := h.1.sr (by decide)
theorem CTr.cp {n : Nat} {A M : Nat → Int32} {c len : Nat} {B : Nat → Int32} {kp : Nat} {H : HT} {σ τ : WD} (h : CPt n A M c len B kp H σ) (e : CTr n A σ τ) : CPt n A M c len B kp H τ := by
  obtain ⟨h1, h2, h3, h4, h5, h6⟩ := h
  have f := e.1.1
  exact ⟨h1.fr e.1 (by decide) (by decide), h2.fr e.1 (by decide), e.2, by rw [f 1 (by decide)]; exact h4, ⟨by rw [f 5 (by decide)]; exact h5.1, fun i hi => by rw [f 6 (by decide)]; exact h5.2 i hi⟩, h6.of (fun x hx => f x (by revert x; decide))⟩
theorem CTr.tr {n : Nat} {A : Nat → Int32} {σ τ υ : WD} (h : CTr n A σ τ) (h2 : CTr n A τ υ) : CTr n A σ υ := ⟨h.1.tr h2.1, h2.2⟩
theorem CTr.rf {n : Nat} {A : Nat → Int32} {σ : WD} (h : Mo n A σ) : CTr n A σ σ := ⟨Fr.rf _ _, h⟩
/-- what a reader of the reference leaves -/
def RTr (σ τ : WD) : Prop := (∀ c, c ∉ [29, 34, 35, 36, 37, 38, 39] → τ.1 c = σ.1 c) ∧ τ.1 29 1 = σ.1 29 1 ∧ τ.1 29 4 = σ.1 29 4 ∧ τ.1 29 6 = σ.1 29 6
theorem RTr.sc {σ τ : WD} (h : RTr σ τ) : SameC σ τ := fun c hc => h.1 c (fun q => by
  have : ∀ c, c ∈ [29, 34, 35, 36, 37, 38, 39] → 29 ≤ c := by decide
  have := this c q; omega)
theorem RTr.rp {n : Nat} {A M : Nat → Int32} {len : Nat} {B : Nat → Int32} {kp : Nat} {H : HT} {σ τ : WD} (h : RPt n A M len B kp H σ) (e : RTr σ τ) : RPt n A M len B kp H τ := by
  obtain ⟨h1, h2, h3, h4⟩ := h
  obtain ⟨e0, e1, e4, e6⟩ := e
  have e30 := e0 30 (by decide)
  have e31 := e0 31 (by decide)
  have e32 := e0 32 (by decide)
  have e33 := e0 33 (by decide)
  exact ⟨⟨by rw [e1]; exact h1.1, fun i hi => by rw [e30]; exact h1.2 i hi⟩, fun i hi => by rw [e31]; exact h2 i hi, ⟨by rw [e6]; exact h3.1, fun i hi => by rw [e33]; exact h3.2 i hi⟩, ⟨by rw [e4]; exact h4.1, fun j hj i hi => by rw [e32]; exact h4.2 j hj i hi⟩⟩
theorem RTr.tr {σ τ υ : WD} (h : RTr σ τ) (h2 : RTr τ υ) : RTr σ υ := ⟨fun c hc => (h2.1 c hc).trans (h.1 c hc), h2.2.1.trans h.2.1, h2.2.2.1.trans h.2.2.1, h2.2.2.2.trans h.2.2.2⟩
theorem RTr.rf (σ : WD) : RTr σ σ := ⟨fun _ _ => rfl, rfl, rfl, rfl⟩
theorem RTr.fr {K : List Nat} {σ τ : WD} (h : Fr K σ τ) (hk : ∀ c, c ∈ K → c ∈ [34, 35, 36, 37, 38, 39]) : RTr σ τ := by
  have e29 : τ.1 29 = σ.1 29 := h.1 29 (fun q => by have := hk 29 q; revert this; decide)
  exact ⟨fun c hc => h.1 c (fun q => hc (List.mem_cons_of_mem _ (hk c q))), by rw [e29], by rw [e29], by rw [e29]⟩
theorem RTr.hf {σ τ : WD} (h : HF σ τ) : RTr σ τ := ⟨fun c hc => h.1.1 c (fun q => hc (by
  have : ∀ c, c ∈ [29, 37, 38] → c ∈ [29, 34, 35, 36, 37, 38, 39] := by decide
  exact this c q)), h.2 1 (by decide) (by decide), h.2 4 (by decide) (by decide), h.2 6 (by decide) (by decide)⟩
theorem RTr.c0 (σ : WD) (v : Int32) : RTr σ (upi σ 29 0 v) := ⟨fun c hc => by rw [upi_get, if_neg (fun q => hc (by rw [q]; decide))], by simp [upi_get, upd_get], by simp [upi_get, upd_get], by simp [upi_get, upd_get]⟩
theorem RTr.up {σ τ : WD} (h : σ.1 = τ.1) : RTr σ τ := ⟨fun c _ => by rw [h], by rw [h], by rw [h], by rw [h]⟩
-- ----- the histories
def psh (x : (Nat → Int32) × (Nat → Int32)) (H : HT) : HT := fun j => if j = 0 then x else H (j - 1)
theorem rem4 : ∀ l, l < 4 → (nI l + 1) - (nI l + 1) / 4 * 4 = nI ((l + 1) % 4) := by decide +kernel
theorem rem4' : ∀ l, l < 4 → ((nI l + 4) - 1) - ((nI l + 4) - 1) / 4 * 4 = nI ((l + 3) % 4) := by decide +kernel
theorem min4 : ∀ k, k < 5 → (if (4 : Int32) < nI k + 1 then (4 : Int32) else nI k + 1) = nI (min (k + 1) 4) := by decide +kernel
theorem save_eq {n : Nat} {A M : Nat → Int32} {kp : Nat} {H : HT} {σ : WD} (hG : GC n A σ) (hC : CM M σ) (hk : kp ≤ 4) (hH : HCt kp H σ) : ∃ τ, f_X1_save σ = some τ ∧ Fr [7, 9, 10, 11, 12, 14, 15, 16, 17] σ τ ∧ HCt (min (kp + 1) 4) (psh (A, M) H) τ := by
  obtain ⟨h1, l, h2, h3, h4⟩ := hH
  obtain ⟨m, hm⟩ : ∃ m, m = (l + 1) % 4 := ⟨_, rfl⟩
  have hm4 : m < 4 := by omega
  have mem9 : ∀ x, x < 4 → (9 + x) ∈ [7, 9, 10, 11, 12, 14, 15, 16, 17] := by decide
  have mem14 : ∀ x, x < 4 → (14 + x) ∈ [7, 9, 10, 11, 12, 14, 15, 16, 17] := by decide
  unfold f_X1_save
  rw [gz4, lt_eq, h3, rem4 l h2, ← hm]
  obtain ⟨σ1, e1⟩ : ∃ s, s = upi σ 7 2 (nI m) := ⟨_, rfl⟩
  rw [← e1]
  have a72 : σ1.1 7 2 = nI m := by rw [e1]; simp [upi_get, upd_get]
  have a73 : σ1.1 7 3 = nI kp := by rw [e1]; simp [upi_get, upd_get]; exact h1
  have ao : ∀ c, c ≠ 7 → σ1.1 c = σ.1 c := fun c hc => by rw [e1, upi_get, if_neg hc]
  rw [a72, gi_in hm4 (by decide), nI_clamp (by omega), lt_eq]
  obtain ⟨σ2, e2⟩ : ∃ s, s = ups σ1 (9 + m) (va_cpy (σ1.1 2) (σ1.1 (9 + m)) 0 0 12) := ⟨_, rfl⟩
  rw [← e2]
  have bo : ∀ c, c ≠ 9 + m → σ2.1 c = σ1.1 c := fun c hc => by rw [e2, ups_get, if_neg hc]
  have b72 : σ2.1 7 2 = nI m := by rw [bo 7 (by omega)]; exact a72
  rw [b72, gi_in hm4 (by decide), nI_clamp (by omega), lt_eq]
  obtain ⟨σ3, e3⟩ : ∃ s, s = ups σ2 (14 + m) (va_cpy (σ2.1 4) (σ2.1 (14 + m)) 0 0 12) := ⟨_, rfl⟩
  rw [← e3]
  have co : ∀ c, c ≠ 14 + m → σ3.1 c = σ2.1 c := fun c hc => by rw [e3, ups_get, if_neg hc]
  have c73 : σ3.1 7 3 = nI kp := by rw [co 7 (by omega), bo 7 (by omega)]; exact a73
  have c72 : σ3.1 7 2 = nI m := by rw [co 7 (by omega)]; exact b72
  rw [c73, min4 kp (by omega), lt_eq]
  refine ⟨_, rfl, ?_, ?_⟩
  · refine Fr.upi ?_ (by decide) _ _
    rw [e3]
    refine Fr.ups ?_ (mem14 m hm4) _
    rw [e2]
    refine Fr.ups ?_ (mem9 m hm4) _
    rw [e1]
    exact (Fr.rf _ _).upi (by decide) _ _
  · refine ⟨by simp [upi_get, upd_get], m, hm4, by simp [upi_get, upd_get]; exact c72, fun j hj i hi => ?_⟩
    have n9 : ∀ x, x < 4 → (upi σ3 7 3 (nI (min (kp + 1) 4))).1 (9 + x) = if x = m then va_cpy (σ1.1 2) (σ1.1 (9 + m)) 0 0 12 else σ.1 (9 + x) := fun x hx => by
      rw [upi_get, if_neg (by omega), co _ (by omega)]
      by_cases q : x = m
      · rw [if_pos q, q, e2, ups_get, if_pos rfl]
      · rw [if_neg q, bo _ (by omega), ao _ (by omega)]
    have n14 : ∀ x, x < 4 → (upi σ3 7 3 (nI (min (kp + 1) 4))).1 (14 + x) = if x = m then va_cpy (σ2.1 4) (σ2.1 (14 + m)) 0 0 12 else σ.1 (14 + x) := fun x hx => by
      rw [upi_get, if_neg (by omega)]
      by_cases q : x = m
      · rw [if_pos q, q, e3, ups_get, if_pos rfl]
      · rw [if_neg q, co _ (by omega), bo _ (by omega), ao _ (by omega)]
    rw [n9 _ (Nat.mod_lt _ (by decide)), n14 _ (Nat.mod_lt _ (by decide))]
    by_cases hj0 : j = 0
    · subst hj0
      rw [show psh (A, M) H 0 = (A, M) from rfl, if_pos (show (m + 4 - 0) % 4 = m by omega), if_pos (show (m + 4 - 0) % 4 = m by omega), sb_cpy0 hi, sb_cpy0 hi, ao 2 (by decide), bo 4 (by omega), ao 4 (by decide)]
      exact ⟨hG.2 i hi, hC i hi⟩
    · rw [show psh (A, M) H j = H (j - 1) from if_neg hj0, if_neg (show ¬ (m + 4 - j) % 4 = m by omega), if_neg (show ¬ (m + 4 - j) % 4 = m by omega)]
      have e : (m + 4 - j) % 4 = (l + 4 - (j - 1)) % 4 := by omega
      rw [e]
      exact h4 (j - 1) (by omega) i hi
theorem restore_eq {n : Nat} {c kp : Nat} {H : HT} {σ : WD} (hc : σ.1 1 2 = nI c) (hn : σ.1 1 0 = nI n) (hk : kp + 1 ≤ 4) (hH : HCt (kp + 1) H σ) : ∃ τ, f_X1_restore σ = some τ ∧ Fr [1, 2, 4, 7] σ τ ∧ τ.1 1 0 = nI n ∧ τ.1 1 2 = nI (c + 1) ∧ (∀ i, i < 12 → τ.1 2 i = (H 0).1 i) ∧ (∀ i, i < 12 → τ.1 4 i = (H 0).2 i) ∧ HCt kp (fun j => H (j + 1)) τ := by
  obtain ⟨h1, l, h2, h3, h4⟩ := hH
  unfold f_X1_restore f_X0_copyFrom_r9 f_X3_copyFrom_r14
  rw [h3, gi_in h2 (by decide), nI_clamp (by omega), lt_eq, lt_eq, bv_eq]
  obtain ⟨σ1, e1⟩ : ∃ s, s = upi (ups σ 2 (va_cpy (σ.1 (9 + l)) (σ.1 2) 0 0 12)) 1 2 ((ups σ 2 (va_cpy (σ.1 (9 + l)) (σ.1 2) 0 0 12)).1 1 2 + 1) := ⟨_, rfl⟩
  rw [← e1]
  have a1 : ∀ c, c ≠ 1 → c ≠ 2 → σ1.1 c = σ.1 c := fun c q1 q2 => by rw [e1, upi_get, if_neg q1, ups_get, if_neg q2]
  rw [a1 7 (by decide) (by decide), h3, gi_in h2 (by decide), nI_clamp (by omega), lt_eq, bv_eq]
  obtain ⟨σ2, e2⟩ : ∃ s, s = ups σ1 4 (va_cpy (σ1.1 (14 + l)) (σ1.1 4) 0 0 12) := ⟨_, rfl⟩
  rw [← e2]
  have a2 : ∀ c, c ≠ 4 → σ2.1 c = σ1.1 c := fun c q => by rw [e2, ups_get, if_neg q]
  rw [gz4, a2 7 (by decide), a1 7 (by decide) (by decide), h3, rem4' l h2, lt_eq, lt_eq]
  obtain ⟨σ3, e3⟩ : ∃ s, s = upi (upi σ2 7 2 (nI ((l + 3) % 4))) 7 3 ((upi σ2 7 2 (nI ((l + 3) % 4))).1 7 3 - 1) := ⟨_, rfl⟩
  rw [← e3]
  have a3 : ∀ c, c ≠ 7 → σ3.1 c = σ2.1 c := fun c q => by rw [e3, upi_get, if_neg q, upi_get, if_neg q]
  have h0 := h4 0 (by omega)
  rw [show (l + 4 - 0) % 4 = l by omega] at h0
  refine ⟨σ3, rfl, ?_, ?_, ?_, fun i hi => ?_, fun i hi => ?_, ?_⟩
  · rw [e3]
    refine Fr.upi (Fr.upi ?_ (by decide) _ _) (by decide) _ _
    rw [e2]
    refine Fr.ups ?_ (by decide) _
    rw [e1]
    exact ((Fr.rf _ _).ups (by decide) _).upi (by decide) _ _
  · rw [a3 1 (by decide), a2 1 (by decide), e1]
    simp [upi_get, upd_get, ups_get]; exact hn
  · rw [a3 1 (by decide), a2 1 (by decide), e1]
    simp [upi_get, upd_get, ups_get]
    rw [hc, nI_1]
  · rw [a3 2 (by decide), a2 2 (by decide), e1, upi_get, if_neg (by decide), ups_get, if_pos rfl, sb_cpy0 hi]
    exact (h0 i hi).1
  · rw [a3 4 (by decide), e2, ups_get, if_pos rfl, sb_cpy0 hi, a1 _ (by omega) (by omega)]
    exact (h0 i hi).2
  · refine ⟨?_, (l + 3) % 4, by omega, ?_, fun j hj i hi => ?_⟩
    · rw [e3]
      simp only [upi_get, upd_get, if_true, if_neg (show ¬ (3 : Nat) = 2 by decide)]
      rw [a2 7 (by decide), a1 7 (by decide) (by decide), h1, nI_pred]
    · rw [e3]
      simp only [upi_get, upd_get, if_true, if_neg (show ¬ (2 : Nat) = 3 by decide)]
    · have e : ((l + 3) % 4 + 4 - j) % 4 = (l + 4 - (j + 1)) % 4 := by omega
      have hx : (l + 4 - (j + 1)) % 4 < 4 := Nat.mod_lt _ (by decide)
      rw [e, a3 _ (by omega), a3 _ (by omega), a2 _ (by omega), a2 _ (by omega), a1 _ (by omega) (by omega), a1 _ (by omega) (by omega)]
      exact h4 (j + 1) (by omega) i hi
theorem row_ix : ∀ k, k < 4 → ∀ i, i < 12 → (24 : Int32) * nI k + nI i = nI (24 * k + i) ∧ (24 : Int32) * nI k + 12 + nI i = nI (24 * k + 12 + i) := by decide +kernel
/-- the reference writes a row -/
theorem keep_row {n : Nat} {A M : Nat → Int32} {σ : WD} {k : Nat} (hk : k < 4) (hG : GR n A σ) (hR : RM M σ) (h4 : σ.1 29 4 = nI k) : ∃ τ, f_X7_keep_49 0 σ = some τ ∧ Fr [29, 32] σ τ ∧ (∀ c, c ≠ 4 → τ.1 29 c = σ.1 29 c) ∧ τ.1 29 4 = nI (k + 1) ∧ (∀ i, i < 12 → τ.1 32 (24 * k + i) = A i ∧ τ.1 32 (24 * k + 12 + i) = M i) ∧ ∀ x, x < 24 * k → τ.1 32 x = σ.1 32 x := by
  unfold f_X7_keep_49
  obtain ⟨s', ⟨τ, hs', hf, hr, hl⟩, el⟩ := lp_inv (f := fun s : Int32 × WD => f_X7_keep_b49 s.1 s.2) (fun i s => ∃ τ, s = (nI i, τ) ∧ Fr [32] σ τ ∧ (∀ j, j < i → τ.1 32 (24 * k + j) = A j ∧ τ.1 32 (24 * k + 12 + j) = M j) ∧ ∀ x, x < 24 * k → τ.1 32 x = σ.1 32 x) (a := 0) (b := 12) (Nat.zero_le _) (s := (0, σ)) ⟨σ, rfl, Fr.rf _ _, fun j hj => by omega, fun _ _ => rfl⟩ (fun i s _ hi hs => by
    obtain ⟨τ, rfl, hf, hr, hl⟩ := hs
    have e29 : τ.1 29 = σ.1 29 := hf.1 29 (by decide)
    have e30 : τ.1 30 = σ.1 30 := hf.1 30 (by decide)
    have e31 : τ.1 31 = σ.1 31 := hf.1 31 (by decide)
    obtain ⟨r1, r2⟩ := row_ix k hk i hi
    dsimp only
    unfold f_X7_keep_b49
    rw [if_neg (show ¬ (12 : Int32) ≤ nI i from nI_ge hi (by decide)), gi12 hi, e29, h4, r1, gi_in (by omega) (by decide), nI_clamp (by omega), nI_clamp (by omega), e30, hG.2 i hi, lt_eq, gi12 hi]
    have f29 : (upi τ 32 (24 * k + i) (A i)).1 29 = σ.1 29 := by rw [upi_get, if_neg (by decide)]; exact e29
    have f31 : (upi τ 32 (24 * k + i) (A i)).1 31 = σ.1 31 := by rw [upi_get, if_neg (by decide)]; exact e31
    rw [f29, h4, r2, gi_in (by omega) (by decide), nI_clamp (by omega), f31, hR i hi, lt_eq, nI_1]
    refine ⟨_, rfl, _, rfl, (hf.upi (by decide) _ _).upi (by decide) _ _, fun j hj => ?_, fun x hx => ?_⟩
    · simp only [upi_get, upd_get, if_true]
      by_cases q : j = i
      · subst q
        rw [if_neg (by omega), if_pos rfl, if_pos rfl]
        exact ⟨rfl, rfl⟩
      · rw [if_neg (by omega), if_neg (by omega), if_neg (by omega), if_neg (by omega)]
        exact hr j (by omega)
    · simp only [upi_get, upd_get, if_true]
      rw [if_neg (by omega), if_neg (by omega)]
      exact hl x hx)
  rw [el, hs']
  have e4 : τ.1 29 4 = nI k := by rw [hf.1 29 (by decide)]; exact h4
  refine ⟨upi τ 29 4 (nI (k + 1)), lp_end ?_, (hf.mono (by decide)).upi (by decide) _ _, fun c hc => ?_, by rw [upi_get, if_pos rfl, upd_get, if_pos rfl], fun i hi => ?_, fun x hx => ?_⟩
  · dsimp only
    unfold f_X7_keep_b49 f_X7_keep_104
    rw [if_pos (show (12 : Int32) ≤ nI 12 by decide), lt_eq, e4, nI_1, mr_eq]
  · rw [upi_get, if_pos rfl, upd_get, if_neg hc, hf.1 29 (by decide)]
  · rw [upi_get, if_neg (by decide)]; exact hr i hi
  · rw [upi_get, if_neg (by decide)]; exact hl x hx
theorem keep_eq {n : Nat} {A M : Nat → Int32} {kp : Nat} {H : HT} {σ : WD} (hk : kp ≤ 4) (hG : GR n A σ) (hR : RM M σ) (hH : HRt kp H σ) : ∃ τ, f_X7_keep σ = some τ ∧ Fr [29, 32] σ τ ∧ (∀ c, c ≠ 4 → τ.1 29 c = σ.1 29 c) ∧ HRt (min (kp + 1) 4) (psh (A, M) H) τ := by
  obtain ⟨h1, h2⟩ := hH
  unfold f_X7_keep
  by_cases hk4 : kp = 4
  · subst hk4
    rw [h1, if_pos (show nI 4 = 4 from rfl)]
    unfold f_X7_keep_10
    obtain ⟨s', ⟨τ, hs', hf, hr⟩, el⟩ := lp_inv (f := fun s : Int32 × WD => f_X7_keep_b10 s.1 s.2) (fun i s => ∃ τ, s = (nI i, τ) ∧ Fr [32] σ τ ∧ ∀ x, τ.1 32 x = if x < i then σ.1 32 (x + 24) else σ.1 32 x) (a := 0) (b := 72) (Nat.zero_le _) (s := (0, σ)) ⟨σ, rfl, Fr.rf _ _, fun x => by rw [if_neg (by omega)]⟩ (fun i s _ hi hs => by
      obtain ⟨τ, rfl, hf, hr⟩ := hs
      dsimp only
      unfold f_X7_keep_b10
      have e24 : nI i + 24 = nI (i + 24) := nI_add i 24
      rw [if_neg (show ¬ (72 : Int32) ≤ nI i from nI_ge hi (by decide)), e24, gi_in (by omega) (by decide), gi_in (by omega) (by decide), nI_clamp (by omega), nI_clamp (by omega), lt_eq, nI_1]
      refine ⟨_, rfl, _, rfl, hf.upi (by decide) _ _, fun x => ?_⟩
      rw [upi_get, if_pos rfl, upd_get, hr (i + 24), if_neg (show ¬ i + 24 < i by omega)]
      by_cases q : x = i
      · rw [if_pos q, if_pos (show x < i + 1 by omega), q]
      · rw [if_neg q, hr x]
        by_cases q2 : x < i
        · rw [if_pos q2, if_pos (show x < i + 1 by omega)]
        · rw [if_neg q2, if_neg (show ¬ x < i + 1 by omega)])
    have e4 : τ.1 29 4 = nI 4 := by rw [hf.1 29 (by decide)]; exact h1
    obtain ⟨σ2, e2⟩ : ∃ s, s = upi τ 29 4 (nI 3) := ⟨_, rfl⟩
    have f2 : Fr [29, 32] σ σ2 := by rw [e2]; exact (hf.mono (by decide)).upi (by decide) _ _
    have g2 : ∀ c, c ≠ 4 → σ2.1 29 c = σ.1 29 c := fun c hc => by rw [e2, upi_get, if_pos rfl, upd_get, if_neg hc, hf.1 29 (by decide)]
    obtain ⟨τ3, e3, f3, g3, k3, r3, l3⟩ := keep_row (k := 3) (A := A) (M := M) (n := n) (σ := σ2) (by decide) ⟨by rw [g2 1 (by decide)]; exact hG.1, fun i hi => by rw [f2.1 30 (by decide)]; exact hG.2 i hi⟩ (hR.fr f2 (by decide)) (by rw [e2, upi_get, if_pos rfl, upd_get, if_pos rfl])
    refine ⟨τ3, ?_, f2.tr f3, fun c hc => (g3 c hc).trans (g2 c hc), k3, fun j hj i hi => ?_⟩
    · rw [el, hs']
      refine lp_end ?_
      dsimp only
      unfold f_X7_keep_b10 f_X7_keep_37
      rw [if_pos (show (72 : Int32) ≤ nI 72 by decide), lt_eq, e4, nI_pred, ← e2, e3, mr_eq]
    · unfold psh
      by_cases hj0 : j = 0
      · subst hj0
        rw [if_pos rfl]
        exact r3 i hi
      · have hj3 : j < 4 := by omega
        have hz : ∀ y, y < 24 → τ3.1 32 (24 * (4 - 1 - j) + y) = σ.1 32 (24 * (4 - 1 - (j - 1)) + y) := fun y hy => by
          rw [l3 _ (by omega), e2, upi_get, if_neg (by decide), hr, if_pos (by omega), show 24 * (4 - 1 - j) + y + 24 = 24 * (4 - 1 - (j - 1)) + y by omega]
        rw [if_neg hj0]
        have hA := hz i (by omega)
        have hB := hz (12 + i) (by omega)
        rw [← Nat.add_assoc, ← Nat.add_assoc] at hB
        obtain ⟨q1, q2⟩ := h2 (j - 1) (by omega) i hi
        exact ⟨hA.trans q1, hB.trans q2⟩
  · rw [h1, if_neg (show ¬ nI kp = 4 from fun q => hk4 (nI_inj (b := 4) (by omega) (by omega) q))]
    obtain ⟨τ3, e3, f3, g3, k3, r3, l3⟩ := keep_row (k := kp) (by omega) hG hR h1
    refine ⟨τ3, e3, f3, g3, by rw [k3, Nat.min_eq_left (by omega)], fun j hj i hi => ?_⟩
    rw [Nat.min_eq_left (by omega)] at hj ⊢
    unfold psh
    by_cases hj0 : j = 0
    · subst hj0
      rw [if_pos rfl, show kp + 1 - 1 - 0 = kp by omega]
      exact r3 i hi
    · rw [if_neg hj0, show kp + 1 - 1 - j = kp - 1 - (j - 1) by omega, l3 _ (by omega), l3 _ (by omega)]
      exact h2 (j - 1) (by omega) i hi
theorem HVt.push {n : Nat} {A M : Nat → Int32} {kp : Nat} {H : HT} (w : GW n A) (h : MW n A M) (hv : HVt n kp H) : HVt n (min (kp + 1) 4) (psh (A, M) H) := by
  refine ⟨by omega, fun j hj => ?_⟩
  unfold psh
  by_cases q : j = 0
  · rw [if_pos q]; exact ⟨w, h⟩
  · rw [if_neg q]; exact hv.2 (j - 1) (by omega)
