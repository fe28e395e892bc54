-- ===== reading the buffer =====
def sta (n s : Nat) (v c pv : Int32) : Nat := if s = 0 then (if v < 0 then 4 else if nI n - 1 ≤ v then 4 else 1) else if s = 1 then (if v ≤ pv then 4 else if nI n ≤ v then 4 else 2) else if s = 2 then (if c = 44 then 0 else if c = 33 then 3 else 4) else if s = 3 then (if c = 44 then 0 else 4) else 4
/-- what was read last, behind i characters -/
def stq (n : Nat) (B : Nat → Int32) : Nat → Nat
  | 0 => 0
  | i + 1 => sta n (stq n B i) (B i - 97) (B i) (B (i - 1) - 97)
theorem stq_succ (n : Nat) (B : Nat → Int32) (i : Nat) : stq n B (i + 1) = sta n (stq n B i) (B i - 97) (B i) (B (i - 1) - 97) := rfl
theorem sta_le (n s : Nat) (v c pv : Int32) : sta n s v c pv ≤ 4 := by
  unfold sta
  repeat' split
  all_goals omega
theorem stq_le (n : Nat) (B : Nat → Int32) : ∀ i, stq n B i ≤ 4
  | 0 => Nat.zero_le _
  | i + 1 => sta_le _ _ _ _ _
theorem stq_5 (n : Nat) (B : Nat → Int32) (i : Nat) : stq n B i = 0 ∨ stq n B i = 1 ∨ stq n B i = 2 ∨ stq n B i = 3 ∨ stq n B i = 4 := by
  have := stq_le n B i
  omega
theorem gi60 {γ : Type} {i : Nat} (h : i < 60) (k : Option γ) : gi (nI i) 60 k = k := gi_in h (by decide) k
theorem gi90 {γ : Type} {i : Nat} (h : i < 90) (k : Option γ) : gi (nI i) 90 k = k := gi_in h (by decide) k
theorem stateAt_eq {n len : Nat} {B : Nat → Int32} {σ : WD} (hB : BCt len B σ) (hlen : len ≤ 60) {i : Nat} (hi : i < len) : f_X2_stateAt (nI i) (nI (stq n B i)) (nI n) σ = some (nI (stq n B (i + 1))) := by
  have h6 := hB.2 i hi
  have h23 : ∀ b : Bool, (b = true ↔ B i = 44) → f_X2_stateAt_23 (nI i) (nI (stq n B i)) (nI n) (B i - 97) (bI b) σ = some (nI (stq n B (i + 1))) := by
    intro b hb
    have hbf : ¬ B i = 44 → b = false := fun g => by
      cases b
      · rfl
      · exact absurd (hb.mp rfl) g
    rcases stq_5 n B i with q | q | q | q | q
    · have hs : stq n B (i + 1) = if B i - 97 < 0 then 4 else if nI n - 1 ≤ B i - 97 then 4 else 1 := by rw [stq_succ, q]; unfold sta; rw [if_pos rfl]
      have hL : f_X2_stateAt_23 (nI i) (nI (stq n B i)) (nI n) (B i - 97) (bI b) σ = if B i - 97 < 0 then some 4 else if nI n - 1 ≤ B i - 97 then some 4 else some 1 := by
        unfold f_X2_stateAt_23
        rw [q, if_pos (by decide)]
      rw [hL, hs]
      by_cases g : B i - 97 < 0
      · rw [if_pos g, if_pos g]; rfl
      · rw [if_neg g, if_neg g]
        by_cases g2 : nI n - 1 ≤ B i - 97
        · rw [if_pos g2, if_pos g2]; rfl
        · rw [if_neg g2, if_neg g2]; rfl
    · have hi1 : 1 ≤ i := by
        rcases Nat.eq_zero_or_pos i with g | g
        · rw [g] at q
          have : stq n B 0 = 0 := rfl
          omega
        · exact g
      have hs : stq n B (i + 1) = if B i - 97 ≤ B (i - 1) - 97 then 4 else if nI n ≤ B i - 97 then 4 else 2 := by rw [stq_succ, q]; unfold sta; rw [if_neg (by decide), if_pos rfl]
      have hL : f_X2_stateAt_23 (nI i) (nI (stq n B i)) (nI n) (B i - 97) (bI b) σ = if B i - 97 ≤ B (i - 1) - 97 then some 4 else if nI n ≤ B i - 97 then some 4 else some 2 := by
        unfold f_X2_stateAt_23 f_X2_nodeAt
        rw [q, if_neg (by decide), if_pos (by decide), if_neg (nI_nle (by omega) (by omega)), nI_sub1 hi1, gi60 (by omega), nI_clamp (by omega), hB.2 (i - 1) (by omega), bv_eq]
      rw [hL, hs]
      by_cases g : B i - 97 ≤ B (i - 1) - 97
      · rw [if_pos g, if_pos g]; rfl
      · rw [if_neg g, if_neg g]
        by_cases g2 : nI n ≤ B i - 97
        · rw [if_pos g2, if_pos g2]; rfl
        · rw [if_neg g2, if_neg g2]; rfl
    · have hs : stq n B (i + 1) = if B i = 44 then 0 else if B i = 33 then 3 else 4 := by rw [stq_succ, q]; unfold sta; rw [if_neg (by decide), if_neg (by decide), if_pos rfl]
      have hL : f_X2_stateAt_23 (nI i) (nI (stq n B i)) (nI n) (B i - 97) (bI b) σ = if bI b = 0 then (if B i = 33 then some 3 else some 4) else some 0 := by
        unfold f_X2_stateAt_23
        rw [q, if_neg (by decide), if_neg (by decide), if_pos (by decide), gi60 (by omega), nI_clamp (by omega), h6]
      rw [hL, hs]
      by_cases g : B i = 44
      · rw [if_pos g, hb.mpr g, if_neg (by decide)]; rfl
      · rw [if_neg g, hbf g, if_pos (show bI false = 0 from rfl)]
        by_cases g2 : B i = 33
        · rw [if_pos g2, if_pos g2]; rfl
        · rw [if_neg g2, if_neg g2]; rfl
    · have hs : stq n B (i + 1) = if B i = 44 then 0 else 4 := by rw [stq_succ, q]; unfold sta; rw [if_neg (by decide), if_neg (by decide), if_neg (by decide), if_pos rfl]
      have hL : f_X2_stateAt_23 (nI i) (nI (stq n B i)) (nI n) (B i - 97) (bI b) σ = if bI b = 0 then some 4 else some 0 := by
        unfold f_X2_stateAt_23
        rw [q, if_neg (by decide), if_neg (by decide), if_neg (by decide), if_pos (by decide)]
      rw [hL, hs]
      by_cases g : B i = 44
      · rw [if_pos g, hb.mpr g, if_neg (by decide)]; rfl
      · rw [if_neg g, hbf g, if_pos (show bI false = 0 from rfl)]; rfl
    · have hs : stq n B (i + 1) = 4 := by rw [stq_succ, q]; unfold sta; rw [if_neg (by decide), if_neg (by decide), if_neg (by decide), if_neg (by decide)]
      have hL : f_X2_stateAt_23 (nI i) (nI (stq n B i)) (nI n) (B i - 97) (bI b) σ = some 4 := by
        unfold f_X2_stateAt_23
        rw [q, if_neg (by decide), if_neg (by decide), if_neg (by decide), if_neg (by decide)]
      rw [hL, hs]; rfl
  unfold f_X2_stateAt f_X2_nodeAt
  rw [gi60 (by omega), nI_clamp (by omega), h6, bv_eq, gi60 (by omega)]
  by_cases g : B i = 44
  · rw [if_pos g]; exact h23 true ⟨fun _ => g, fun _ => rfl⟩
  · rw [if_neg g]; exact h23 false ⟨fun q => by (cases q), fun q => absurd q g⟩
/-- the first place that is wrong; len if there is none -/
def epq (n : Nat) (B : Nat → Int32) (len : Nat) : Nat := ((List.range len).find? (fun i => decide (stq n B (i + 1) = 4))).getD len
theorem epq_spec (n : Nat) (B : Nat → Int32) (len : Nat) : epq n B len ≤ len ∧ (∀ i, i < epq n B len → stq n B (i + 1) ≠ 4) ∧ (epq n B len < len → stq n B (epq n B len + 1) = 4) := by
  obtain ⟨a, b, c⟩ := fr_spec (fun i => decide (stq n B (i + 1) = 4)) len
  refine ⟨a, fun i hi => ?_, fun hi => ?_⟩
  · exact of_decide_eq_false (b i hi)
  · exact of_decide_eq_true (c hi)
theorem nI_4 : ∀ s, s ≤ 4 → (nI s = 4 ↔ s = 4) := by decide +kernel
theorem errorPlace_eq {n len : Nat} {B : Nat → Int32} {σ : WD} (hB : BCt len B σ) (hlen : len ≤ 60) : f_X2_errorPlace (nI n) σ = some (nI (epq n B len)) := by
  obtain ⟨l1, l2, l3⟩ := epq_spec n B len
  unfold f_X2_errorPlace f_X2_errorPlace_4
  have stp : ∀ i, i < len → f_X2_errorPlace_b4 (nI n) (nI (stq n B i)) (nI i) σ = if stq n B (i + 1) = 4 then some (.inr (nI i)) else some (.inl (nI (stq n B (i + 1)), nI (i + 1))) := by
    intro i hi
    unfold f_X2_errorPlace_b4
    rw [hB.1, if_neg (nI_ge hi (by omega)), stateAt_eq hB hlen hi, bv_eq, nI_1]
    have := nI_4 _ (stq_le n B (i + 1))
    by_cases q : stq n B (i + 1) = 4
    · rw [if_pos (this.mpr q), if_pos q]
    · rw [if_neg (fun g => q (this.mp g)), if_neg q]
  refine lp_for (fun i => (nI (stq n B i), nI i)) (a := 0) (b := epq n B len) (Nat.zero_le _) (fun i _ hi => ?_) ?_
  · show f_X2_errorPlace_b4 _ _ _ _ = _
    rw [stp i (by omega), if_neg (l2 i hi)]
  · show f_X2_errorPlace_b4 _ _ _ _ = _
    rcases Nat.lt_or_ge (epq n B len) len with q | q
    · rw [stp _ q, if_pos (l3 q)]
    · unfold f_X2_errorPlace_b4 f_X2_errorPlace_33
      rw [hB.1, if_pos (nI_le q (by omega)), mr_eq, show epq n B len = len by omega]
theorem isComplete_eq {n len : Nat} {B : Nat → Int32} {σ : WD} (hB : BCt len B σ) (hlen : len ≤ 60) : f_X2_isComplete (nI n) σ = some (if stq n B len = 2 ∨ stq n B len = 3 then 1 else 0) := by
  unfold f_X2_isComplete f_X2_isComplete_4
  refine lp_for (fun i => (nI (stq n B i), nI i)) (a := 0) (b := len) (Nat.zero_le _) (fun i _ hi => ?_) ?_
  · show f_X2_isComplete_b4 _ _ _ _ = _
    unfold f_X2_isComplete_b4
    rw [hB.1, if_neg (nI_ge hi (by omega)), stateAt_eq hB hlen hi, bv_eq, nI_1]
  · show f_X2_isComplete_b4 _ _ _ _ = _
    unfold f_X2_isComplete_b4 f_X2_isComplete_26
    rw [hB.1, if_pos (nI_le (Nat.le_refl _) (by omega))]
    rcases stq_5 n B len with q | q | q | q | q <;> rw [q] <;> rfl
-- ----- the reference's reader
def qst (B : Nat → Int32) : Nat → Nat
  | 0 => 0
  | j + 1 => qst B j + if B (qst B j + 2) = 33 then 4 else 3
theorem qst_succ (B : Nat → Int32) (j : Nat) : qst B (j + 1) = qst B j + if B (qst B j + 2) = 33 then 4 else 3 := rfl
theorem qst_up (B : Nat → Int32) {i : Nat} : ∀ {j : Nat}, i ≤ j → qst B i + 3 * (j - i) ≤ qst B j
  | 0, h => by rw [show i = 0 by omega]; exact Nat.le_refl _
  | j + 1, h => by
    by_cases e : i = j + 1
    · subst e; simp
    · have := qst_up B (i := i) (j := j) (by omega)
      rw [qst_succ]
      split <;> omega
/-- the edge j as it is read -/
def EB (n : Nat) (B : Nat → Int32) (j a b : Nat) : Prop := a < b ∧ b < n ∧ B (qst B j) - 97 = nI a ∧ B (qst B j + 1) - 97 = nI b
def EJ (n : Nat) (B : Nat → Int32) (j : Nat) (m : Int32) (σ : WD) : Prop := ∃ a b, EB n B j a b ∧ σ.1 39 (3 * j) = nI a ∧ σ.1 39 (3 * j + 1) = nI b ∧ σ.1 39 (3 * j + 2) = m
def PQ (n : Nat) (B : Nat → Int32) (k e : Nat) (σ : WD) : Prop := σ.1 29 15 = nI (stq n B k) ∧ σ.1 29 16 = nI e ∧ 3 * e ≤ k ∧ (∀ j, j < e → EJ n B j (if B (qst B j + 2) = 33 then 1 else 0) σ) ∧
  ((stq n B k = 0 ∧ k = qst B e) ∨ (stq n B k = 1 ∧ k = qst B e + 1 ∧ ∃ a, a + 1 < n ∧ B (qst B e) - 97 = nI a ∧ σ.1 39 (3 * e) = nI a ∧ σ.1 39 (3 * e + 2) = 0) ∨ (stq n B k = 2 ∧ k = qst B e + 2 ∧ EJ n B e 0 σ) ∨ (stq n B k = 3 ∧ k = qst B e + 3 ∧ B (qst B e + 2) = 33 ∧ EJ n B e 1 σ))
def RX (σ τ : WD) : Prop := Fr [29, 39] σ τ ∧ ∀ c, c ≠ 15 → c ≠ 16 → τ.1 29 c = σ.1 29 c
theorem RX.rf (σ : WD) : RX σ σ := ⟨Fr.rf _ _, fun _ _ _ => rfl⟩
theorem RX.tr {σ τ υ : WD} (h : RX σ τ) (h2 : RX τ υ) : RX σ υ := ⟨h.1.tr h2.1, fun c a b => (h2.2 c a b).trans (h.2 c a b)⟩
theorem RX.c39 {σ τ : WD} (h : RX σ τ) (j : Nat) (v : Int32) : RX σ (upi τ 39 j v) := ⟨h.1.upi (by decide) _ _, fun c a b => by rw [upi_get, if_neg (by decide)]; exact h.2 c a b⟩
theorem RX.c15 {σ τ : WD} (h : RX σ τ) (v : Int32) : RX σ (upi τ 29 15 v) := ⟨h.1.upi (by decide) _ _, fun c a b => by rw [upi_get, if_pos rfl, upd_get, if_neg a]; exact h.2 c a b⟩
theorem RX.c16 {σ τ : WD} (h : RX σ τ) (v : Int32) : RX σ (upi τ 29 16 v) := ⟨h.1.upi (by decide) _ _, fun c a b => by rw [upi_get, if_pos rfl, upd_get, if_neg b]; exact h.2 c a b⟩
theorem RX.rt {σ τ : WD} (h : RX σ τ) : RTr σ τ := ⟨fun c hc => h.1.1 c (fun q => hc (by
  have : ∀ c, c ∈ [29, 39] → c ∈ [29, 34, 35, 36, 37, 38, 39] := by decide
  exact this c q)), h.2 1 (by decide) (by decide), h.2 4 (by decide) (by decide), h.2 6 (by decide) (by decide)⟩
theorem EJ.of {n : Nat} {B : Nat → Int32} {j : Nat} {m : Int32} {σ τ : WD} (h : EJ n B j m σ) (e : ∀ x, x < 3 * j + 3 → τ.1 39 x = σ.1 39 x) : EJ n B j m τ := by
  obtain ⟨a, b, h1, h2, h3, h4⟩ := h
  exact ⟨a, b, h1, by rw [e _ (by omega)]; exact h2, by rw [e _ (by omega)]; exact h3, by rw [e _ (by omega)]; exact h4⟩
theorem n3 (e : Nat) : (3 : Int32) * nI e = nI (3 * e) := nI_mul 3 e
theorem lt_le1 {a : Nat} (ha : a < 2 ^ 30) {v : Int32} : v < nI (a + 1) ↔ v ≤ nI a := by
  rw [Int32.lt_iff_toInt_lt, Int32.le_iff_toInt_le, nI_toInt (by omega), nI_toInt (by omega)]; omega
theorem lt_sub {n : Nat} (h1 : 1 ≤ n) (h2 : n < 2 ^ 30) {v : Int32} : nI (n - 1) < v ↔ nI n ≤ v := by
  rw [Int32.lt_iff_toInt_lt, Int32.le_iff_toInt_le, nI_toInt (by omega), nI_toInt (by omega)]; omega
theorem takes_eq {n : Nat} {A : Nat → Int32} {B : Nat → Int32} {σ : WD} (w : GW n A) (hG : GR n A σ) {k e : Nat} (hk : k < 60) (hQ : PQ n B k e σ) : ∃ τ, RX σ τ ∧ ((stq n B (k + 1) = 4 ∧ f_X7_takes (B k) σ = some (0, τ)) ∨ (stq n B (k + 1) ≠ 4 ∧ f_X7_takes (B k) σ = some (1, τ) ∧ ∃ e', PQ n B (k + 1) e' τ)) := by
  have hn := w.2.1
  have h2n := w.1
  obtain ⟨p1, p2, p3, p4, p5⟩ := hQ
  -- a comma behind an edge
  have comma : B k = 44 → 2 ≤ stq n B k → (stq n B k = 2 ∨ stq n B k = 3) → k + 1 = qst B (e + 1) → EJ n B e (if B (qst B e + 2) = 33 then 1 else 0) σ → ∃ τ, RX σ τ ∧ ((stq n B (k + 1) = 4 ∧ f_X7_takes (B k) σ = some (0, τ)) ∨ (stq n B (k + 1) ≠ 4 ∧ f_X7_takes (B k) σ = some (1, τ) ∧ ∃ e', PQ n B (k + 1) e' τ)) := by
    intro hc h2 hs hk1 hE
    have hst : stq n B (k + 1) = 0 := by
      rw [stq_succ]; unfold sta
      rcases hs with q | q
      · rw [q, if_neg (by decide), if_neg (by decide), if_pos rfl, if_pos hc]
      · rw [q, if_neg (by decide), if_neg (by decide), if_neg (by decide), if_pos rfl, if_pos hc]
    have hup : 0 + 3 * (e + 1 - 0) ≤ qst B (e + 1) := qst_up B (Nat.zero_le (e + 1))
    refine ⟨upi (upi σ 29 16 (nI (e + 1))) 29 15 0, ((RX.rf σ).c16 _).c15 _, Or.inr ⟨by omega, ?_, e + 1, ?_, ?_, by omega, fun j hj => ?_, Or.inl ⟨hst, hk1⟩⟩⟩
    · unfold f_X7_takes
      rw [if_pos hc, p1, if_neg (show ¬ nI (stq n B k) ≤ (1 : Int32) from nI_ge (a := 1) (by omega) (by omega)), lt_eq, lt_eq, p2, nI_1]
    · rw [upi_get, if_pos rfl, upd_get, if_pos rfl, hst]; rfl
    · rw [upi_get, if_pos rfl, upd_get, if_neg (by decide), upi_get, if_pos rfl, upd_get, if_pos rfl]
    · have c39 : (upi (upi σ 29 16 (nI (e + 1))) 29 15 0).1 39 = σ.1 39 := by rw [upi_get, if_neg (by decide), upi_get, if_neg (by decide)]
      by_cases q : j = e
      · rw [q]; exact hE.of (fun x _ => by rw [c39])
      · exact (p4 j (by omega)).of (fun x _ => by rw [c39])
  -- a character that is no comma behind an edge
  have to36 : (¬ B k = 44 ∨ stq n B k ≤ 1) → f_X7_takes (B k) σ = f_X7_takes_36 (B k) (B k - 97) σ := by
    intro q
    unfold f_X7_takes
    by_cases g : B k = 44
    · rw [if_pos g, p1, if_pos (show nI (stq n B k) ≤ (1 : Int32) from nI_le (q.resolve_left (fun r => r g)) (by decide))]
    · rw [if_neg g]
  have h195 : f_X7_takes_195 σ = some (0, upi (upi σ 39 (3 * e + 2) (σ.1 39 (3 * e + 2))) 29 15 (nI (stq n B k))) := by
    unfold f_X7_takes_195 f_X7_takes_196 f_X7_takes_230 f_X7_takes_244
    have q15 : (upi σ 39 (3 * e + 2) (σ.1 39 (3 * e + 2))).1 29 15 = nI (stq n B k) := by rw [upi_get, if_neg (by decide)]; exact p1
    rw [if_pos rfl, p2, n3, nI_2, gi90 (by omega), nI_clamp (by omega), gi90 (by omega), lt_eq, if_pos rfl, q15, lt_eq, gb0]
  rcases p5 with ⟨s0, k0⟩ | ⟨s0, k0, a, a1, a2, a3, a4⟩ | ⟨s0, k0, hE⟩ | ⟨s0, k0, hm, hE⟩
  · -- the first letter
    rw [to36 (Or.inr (by omega))]
    unfold f_X7_takes_36 f_X7_within f_X7_takes_89
    have e16 : (upi σ 39 (3 * e) (B k - 97)).1 29 16 = nI e := by rw [upi_get, if_neg (by decide)]; exact p2
    rw [p1, s0, if_pos (show nI 0 = 0 from rfl), p2, n3, gi90 (by omega), nI_clamp (by omega), lt_eq, e16, n3, nI_2, gi90 (by omega), nI_clamp (by omega), lt_eq]
    obtain ⟨τ0, hτ0⟩ : ∃ t, t = upi (upi σ 39 (3 * e) (B k - 97)) 39 (3 * e + 2) 0 := ⟨_, rfl⟩
    rw [← hτ0]
    have x0 : RX σ τ0 := by rw [hτ0]; exact ((RX.rf σ).c39 _ _).c39 _ _
    have n1 : τ0.1 29 1 = nI n := by rw [x0.2 1 (by decide) (by decide)]; exact hG.1
    have hn2 : nI n - 2 = nI (n - 2) := by
      obtain ⟨m, rfl⟩ : ∃ m, n = m + 2 := ⟨n - 2, by omega⟩
      rw [← nI_2, show m + 2 - 2 = m by omega]
      exact Int32.add_sub_cancel (nI m) 2
    have hlt : nI (n - 2) < B k - 97 ↔ nI n - 1 ≤ B k - 97 := by
      rw [nI_sub1 (by omega)]
      have := lt_sub (n := n - 1) (by omega) (by omega) (v := B k - 97)
      rw [show n - 1 - 1 = n - 2 by omega] at this
      exact this
    have hst : stq n B (k + 1) = if B k - 97 < 0 then 4 else if nI n - 1 ≤ B k - 97 then 4 else 1 := by
      rw [stq_succ]; unfold sta; rw [s0, if_pos rfl]
    rw [n1, hn2]
    by_cases g1 : B k - 97 < 0
    · rw [if_pos g1] at hst
      rw [if_pos g1, bv_eq, if_pos rfl, lt_eq, upi_get, if_pos rfl, upd_get, if_pos rfl, if_neg (by decide)]
      exact ⟨_, x0.c15 0, Or.inl ⟨hst, rfl⟩⟩
    · rw [if_neg g1] at hst
      rw [if_neg g1]
      by_cases g2 : nI n - 1 ≤ B k - 97
      · rw [if_pos g2] at hst
        rw [if_pos (hlt.mpr g2), bv_eq, if_pos rfl, lt_eq, upi_get, if_pos rfl, upd_get, if_pos rfl, if_neg (by decide)]
        exact ⟨_, x0.c15 0, Or.inl ⟨hst, rfl⟩⟩
      · rw [if_neg g2] at hst
        rw [if_neg (fun q => g2 (hlt.mp q)), bv_eq, if_neg (by decide), lt_eq, upi_get, if_pos rfl, upd_get, if_pos rfl, if_pos rfl]
        obtain ⟨a, ha, hva⟩ := nI_of g1
        have han : a + 1 < n := by
          rw [hva, nI_sub1 (by omega)] at g2
          have : ¬ n - 1 ≤ a := fun q => g2 ((nI_le_iff (a := n - 1) (b := a) (by omega) ha).mpr q)
          omega
        have c39 : ∀ x, (upi τ0 29 15 1).1 39 x = if x = 3 * e + 2 then 0 else if x = 3 * e then nI a else σ.1 39 x := fun x => by
          rw [upi_get, if_neg (by decide), hτ0, upi_get, if_pos rfl, upd_get, upi_get, if_pos rfl, upd_get, hva]
        refine ⟨upi τ0 29 15 1, x0.c15 1, Or.inr ⟨by omega, rfl, e, ?_, ?_, by omega, fun j hj => (p4 j hj).of (fun x hx => by rw [c39, if_neg (by omega), if_neg (by omega)]), Or.inr (Or.inl ⟨hst, by omega, a, han, by rw [← k0]; exact hva, ?_, ?_⟩)⟩⟩
        · rw [upi_get, if_pos rfl, upd_get, if_pos rfl, hst]; rfl
        · rw [upi_get, if_pos rfl, upd_get, if_neg (by decide), x0.1.1 29 |> fun _ => (by rw [hτ0, upi_get, if_neg (by decide), upi_get, if_neg (by decide)] : τ0.1 29 = σ.1 29)]; exact p2
        · rw [c39, if_neg (by omega), if_pos rfl]
        · rw [c39, if_pos rfl]
  · -- the second letter
    rw [to36 (Or.inr (by omega))]
    unfold f_X7_takes_36 f_X7_within f_X7_takes_160
    rw [p1, s0, if_neg (by decide), if_pos (show nI 1 = 1 from rfl), p2, n3, nI_1, gi90 (by omega), nI_clamp (by omega), lt_eq]
    obtain ⟨τ0, hτ0⟩ : ∃ t, t = upi σ 39 (3 * e + 1) (B k - 97) := ⟨_, rfl⟩
    rw [← hτ0]
    have x0 : RX σ τ0 := by rw [hτ0]; exact (RX.rf σ).c39 _ _
    have e29 : τ0.1 29 = σ.1 29 := by rw [hτ0, upi_get, if_neg (by decide)]
    have e39 : τ0.1 39 (3 * e) = nI a := by rw [hτ0, upi_get, if_pos rfl, upd_get, if_neg (by omega)]; exact a3
    rw [e29, p2, n3, gi90 (by omega), nI_clamp (by omega), e39, nI_1, hG.1, nI_sub1 (by omega)]
    have hpv : B (k - 1) - 97 = nI a := by rw [show k - 1 = qst B e by omega]; exact a2
    have hst : stq n B (k + 1) = if B k - 97 ≤ nI a then 4 else if nI n ≤ B k - 97 then 4 else 2 := by
      rw [stq_succ]; unfold sta; rw [s0, if_neg (by decide), if_pos rfl, hpv]
    by_cases g1 : B k - 97 ≤ nI a
    · rw [if_pos g1] at hst
      rw [if_pos ((lt_le1 (by omega)).mpr g1), bv_eq, if_pos rfl, lt_eq, upi_get, if_pos rfl, upd_get, if_pos rfl, if_neg (by decide)]
      exact ⟨_, x0.c15 1, Or.inl ⟨hst, rfl⟩⟩
    · rw [if_neg g1] at hst
      rw [if_neg (fun q => g1 ((lt_le1 (by omega)).mp q))]
      by_cases g2 : nI n ≤ B k - 97
      · rw [if_pos g2] at hst
        rw [if_pos ((lt_sub (by omega) (by omega)).mpr g2), bv_eq, if_pos rfl, lt_eq, upi_get, if_pos rfl, upd_get, if_pos rfl, if_neg (by decide)]
        exact ⟨_, x0.c15 1, Or.inl ⟨hst, rfl⟩⟩
      · rw [if_neg g2] at hst
        rw [if_neg (fun q => g2 ((lt_sub (by omega) (by omega)).mp q)), bv_eq, if_neg (by decide), lt_eq, upi_get, if_pos rfl, upd_get, if_pos rfl, if_pos rfl]
        have g3 : ¬ B k - 97 < 0 := fun q => g1 (by
          rw [Int32.lt_iff_toInt_lt] at q
          rw [Int32.le_iff_toInt_le, nI_toInt (by omega)]
          have : (0 : Int32).toInt = 0 := by decide
          omega)
        obtain ⟨b, hb, hvb⟩ := nI_of g3
        have hab : a < b := by
          rw [hvb] at g1
          have : ¬ b ≤ a := fun q => g1 ((nI_le_iff (a := b) (b := a) hb (by omega)).mpr q)
          omega
        have hbn : b < n := by
          rw [hvb] at g2
          have : ¬ n ≤ b := fun q => g2 ((nI_le_iff (a := n) (b := b) (by omega) hb).mpr q)
          omega
        have c39 : ∀ x, (upi τ0 29 15 2).1 39 x = if x = 3 * e + 1 then nI b else σ.1 39 x := fun x => by
          rw [upi_get, if_neg (by decide), hτ0, upi_get, if_pos rfl, upd_get, hvb]
        refine ⟨upi τ0 29 15 2, x0.c15 2, Or.inr ⟨by omega, rfl, e, ?_, ?_, by omega, fun j hj => (p4 j hj).of (fun x hx => by rw [c39, if_neg (by omega)]), Or.inr (Or.inr (Or.inl ⟨hst, by omega, a, b, ⟨hab, hbn, a2, by rw [← k0]; exact hvb⟩, ?_, ?_, ?_⟩))⟩⟩
        · rw [upi_get, if_pos rfl, upd_get, if_pos rfl, hst]; rfl
        · rw [upi_get, if_pos rfl, upd_get, if_neg (by decide), e29]; exact p2
        · rw [c39, if_neg (by omega)]; exact a3
        · rw [c39, if_pos rfl]
        · rw [c39, if_neg (by omega)]; exact a4
  · -- behind an edge
    by_cases hc : B k = 44
    · have hB2 : B (qst B e + 2) = 44 := by rw [← k0]; exact hc
      have hno : ¬ B (qst B e + 2) = 33 := by rw [hB2]; decide
      exact comma hc (by omega) (Or.inl s0) (by rw [qst_succ, if_neg hno]; omega) (by rw [if_neg hno]; exact hE)
    · rw [to36 (Or.inl hc)]
      unfold f_X7_takes_36
      rw [p1, s0, if_neg (by decide), if_neg (by decide), if_pos (show nI 2 = 2 from rfl)]
      by_cases g : B k = 33
      · have hst : stq n B (k + 1) = 3 := by
          rw [stq_succ]; unfold sta; rw [s0, if_neg (by decide), if_neg (by decide), if_pos rfl, if_neg hc, if_pos g]
        rw [if_pos g]
        unfold f_X7_takes_196 f_X7_takes_230 f_X7_takes_244
        rw [if_neg (by decide), p2, n3, nI_2, gi90 (by omega), nI_clamp (by omega), lt_eq, if_neg (by decide), lt_eq, gb1]
        have c39 : ∀ x, (upi (upi σ 39 (3 * e + 2) 1) 29 15 3).1 39 x = if x = 3 * e + 2 then 1 else σ.1 39 x := fun x => by
          rw [upi_get, if_neg (by decide), upi_get, if_pos rfl, upd_get]
        obtain ⟨a, b, h1, h2, h3, h4⟩ := hE
        refine ⟨upi (upi σ 39 (3 * e + 2) 1) 29 15 3, ((RX.rf σ).c39 _ _).c15 _, Or.inr ⟨by omega, rfl, e, ?_, ?_, by omega, fun j hj => (p4 j hj).of (fun x hx => by rw [c39, if_neg (by omega)]), Or.inr (Or.inr (Or.inr ⟨hst, by omega, by rw [← k0]; exact g, a, b, h1, ?_, ?_, ?_⟩))⟩⟩
        · rw [upi_get, if_pos rfl, upd_get, if_pos rfl, hst]; rfl
        · rw [upi_get, if_pos rfl, upd_get, if_neg (by decide), upi_get, if_neg (by decide)]; exact p2
        · rw [c39, if_neg (by omega)]; exact h2
        · rw [c39, if_neg (by omega)]; exact h3
        · rw [c39, if_pos rfl]
      · have hst : stq n B (k + 1) = 4 := by
          rw [stq_succ]; unfold sta; rw [s0, if_neg (by decide), if_neg (by decide), if_pos rfl, if_neg hc, if_neg g]
        rw [if_neg g, h195]
        exact ⟨_, ((RX.rf σ).c39 _ _).c15 _, Or.inl ⟨hst, rfl⟩⟩
  · -- behind a mark
    by_cases hc : B k = 44
    · exact comma hc (by omega) (Or.inr s0) (by rw [qst_succ, if_pos hm]; omega) (by rw [if_pos hm]; exact hE)
    · have hst : stq n B (k + 1) = 4 := by
        rw [stq_succ]; unfold sta; rw [s0, if_neg (by decide), if_neg (by decide), if_neg (by decide), if_pos rfl, if_neg hc]
      rw [to36 (Or.inl hc)]
      unfold f_X7_takes_36
      rw [p1, s0, if_neg (by decide), if_neg (by decide), if_neg (by decide)]
      rw [h195]
      exact ⟨_, ((RX.rf σ).c39 _ _).c15 _, Or.inl ⟨hst, rfl⟩⟩
theorem rightLength_eq {n len : Nat} {A B : Nat → Int32} {σ : WD} (w : GW n A) (hG : GR n A σ) (hB : BRt len B σ) (hlen : len ≤ 60) : ∃ τ, f_X7_rightLength σ = some (nI (epq n B len), τ) ∧ RX σ τ ∧ (epq n B len = len → ∃ e, PQ n B len e τ) := by
  obtain ⟨l1, l2, l3⟩ := epq_spec n B len
  unfold f_X7_rightLength f_X7_rightLength_12
  rw [lt_eq, lt_eq]
  obtain ⟨σ0, e0⟩ : ∃ s, s = upi (upi σ 29 15 0) 29 16 0 := ⟨_, rfl⟩
  rw [← e0]
  have x0 : RX σ σ0 := by rw [e0]; exact ((RX.rf σ).c15 _).c16 _
  have q0 : PQ n B 0 0 σ0 := ⟨by rw [e0]; simp [upi_get, upd_get]; rfl, by rw [e0]; simp [upi_get, upd_get]; rfl, by omega, fun j hj => by omega, Or.inl ⟨rfl, rfl⟩⟩
  have stp : ∀ i τ e, i < len → RX σ τ → PQ n B i e τ → ∃ τ2, RX σ τ2 ∧ ((stq n B (i + 1) = 4 ∧ f_X7_rightLength_b12 (nI i) τ = some (.inr (nI i, τ2))) ∨ (stq n B (i + 1) ≠ 4 ∧ f_X7_rightLength_b12 (nI i) τ = some (.inl (nI (i + 1), τ2)) ∧ ∃ e', PQ n B (i + 1) e' τ2)) := by
    intro i τ e hi hx hq
    have hGt : GR n A τ := ⟨by rw [hx.2 1 (by decide) (by decide)]; exact hG.1, fun j hj => by rw [hx.1.1 30 (by decide)]; exact hG.2 j hj⟩
    have h6 : τ.1 29 6 = nI len := by rw [hx.2 6 (by decide) (by decide)]; exact hB.1
    have h33 : τ.1 33 i = B i := by rw [hx.1.1 33 (by decide)]; exact hB.2 i hi
    obtain ⟨τ2, x2, h⟩ := takes_eq w hGt (show i < 60 by omega) hq
    have hb : f_X7_rightLength_b12 (nI i) τ = bn (f_X7_takes (B i) τ) (fun r27 σ27 => if r27 = 0 then some (.inr (nI i, σ27)) else some (.inl (nI (i + 1), σ27))) := by
      unfold f_X7_rightLength_b12
      rw [h6, if_neg (nI_ge hi (by omega)), gi60 (by omega), nI_clamp (by omega), h33, nI_1]
    refine ⟨τ2, hx.tr x2, ?_⟩
    rcases h with ⟨g1, g2⟩ | ⟨g1, g2, g3⟩
    · exact Or.inl ⟨g1, by rw [hb, g2, bn_eq, if_pos rfl]⟩
    · exact Or.inr ⟨g1, by rw [hb, g2, bn_eq, if_neg (by decide)], g3⟩
  obtain ⟨s', ⟨τ, e, hs', hx, hq⟩, el⟩ := lp_inv (f := fun s : Int32 × WD => f_X7_rightLength_b12 s.1 s.2) (fun i s => ∃ τ e, s = (nI i, τ) ∧ RX σ τ ∧ PQ n B i e τ) (a := 0) (b := epq n B len) (Nat.zero_le _) (s := (0, σ0)) ⟨σ0, 0, rfl, x0, q0⟩ (fun i s _ hi hs => by
    obtain ⟨τ, e, rfl, hx, hq⟩ := hs
    obtain ⟨τ2, x2, ⟨g1, -⟩ | ⟨g1, g2, e', g3⟩⟩ := stp i τ e (by omega) hx hq
    · exact absurd g1 (l2 i hi)
    · exact ⟨_, g2, τ2, e', rfl, x2, g3⟩)
  rw [el, hs']
  rcases Nat.lt_or_ge (epq n B len) len with q | q
  · obtain ⟨τ2, x2, ⟨g1, g2⟩ | ⟨g1, -⟩⟩ := stp _ τ e q hx hq
    · exact ⟨τ2, lp_end g2, x2, fun g => by omega⟩
    · exact absurd (l3 q) g1
  · have hE : epq n B len = len := by omega
    refine ⟨τ, lp_end ?_, hx, fun _ => ⟨e, by rw [hE] at hq; exact hq⟩⟩
    dsimp only
    unfold f_X7_rightLength_b12
    rw [hx.2 6 (by decide) (by decide), hB.1, if_pos (nI_le q (by omega))]
theorem case_firstError {k : Nat} {σ : WD} (I : Ivt k σ) (l : Int32) : ∃ υ, bv (f_X6_firstError σ) (fun r => bn (f_X7_firstError σ) (fun r2 σ2 => if r = r2 then some (Sum.inl (l, σ2) : (Int32 × WD) ⊕ Unit) else none)) = some (.inl (l, υ)) ∧ Ivt (k + 1) υ := by
  obtain ⟨n, A, M, c, len, B, kp, H, ⟨w, hM, hlen, hv⟩, hc, hC, hR⟩ := I
  have p0 := hR.c0 0
  obtain ⟨υ, e, x, -⟩ := rightLength_eq w p0.1 p0.2.2.1 hlen
  refine ⟨υ, ?_, n, A, M, c, len, B, kp, H, ⟨w, hM, hlen, hv⟩, by omega, (hC.same (SameC.c0 σ 0)).same x.rt.sc, x.rt.rp p0⟩
  unfold f_X6_firstError f_X7_firstError
  rw [hC.1.1, errorPlace_eq hC.2.2.2.2.1 hlen, bv_eq, bv_eq, lt_eq, e, bn_eq, bn_eq, if_pos rfl]
