-- ===== the shortest odd cycle =====
theorem pigeon : ∀ (n m : Nat) (f : Nat → Nat), (∀ i, i < m → f i < n) → n < m → ∃ i j, i < j ∧ j < m ∧ f i = f j
  | 0, m, f, h, hm => absurd (h 0 hm) (by omega)
  | n + 1, m, f, h, hm => by
    by_cases q : ∃ i, i < m - 1 ∧ f i = f (m - 1)
    · obtain ⟨i, h1, h2⟩ := q
      exact ⟨i, m - 1, h1, by omega, h2⟩
    · have q2 : ∀ i, i < m - 1 → f i ≠ f (m - 1) := fun i hi e => q ⟨i, hi, e⟩
      have hc := h (m - 1) (by omega)
      obtain ⟨i, j, h1, h2, h3⟩ := pigeon n (m - 1) (fun i => if f i = n then f (m - 1) else f i) (fun i hi => by
        have e1 := q2 i hi
        have e2 := h i (by omega)
        try dsimp only
        split
        · omega
        · omega) (by omega)
      refine ⟨i, j, h1, by omega, ?_⟩
      have e1 := q2 i (by omega)
      have e2 := q2 j h2
      try dsimp only at h3
      split at h3 <;> split at h3 <;> omega
/-- the nodes beside the first t nodes of a set -/
def nbs (A : Nat → Int32) (S : Int32) : Nat → Int32
  | 0 => 0
  | t + 1 => if bt S t = true then nbs A S t ||| A t else nbs A S t
theorem nbs_succ (A : Nat → Int32) (S : Int32) (t : Nat) : nbs A S (t + 1) = if bt S t = true then nbs A S t ||| A t else nbs A S t := rfl
theorem nbs_iff {A : Nat → Int32} {S : Int32} {x : Nat} : ∀ {t : Nat}, bt (nbs A S t) x = true ↔ ∃ u, u < t ∧ bt S u = true ∧ bt (A u) x = true
  | 0 => by
    unfold nbs
    rw [b_0]
    constructor
    · intro h; cases h
    · rintro ⟨u, h, -⟩; omega
  | t + 1 => by
    rw [nbs_succ]
    have ih := nbs_iff (A := A) (S := S) (x := x) (t := t)
    split
    · rename_i hb
      rw [m_or, ih]
      constructor
      · rintro (⟨u, h1, h2⟩ | h)
        · exact ⟨u, by omega, h2⟩
        · exact ⟨t, by omega, hb, h⟩
      · rintro ⟨u, h1, h2⟩
        by_cases e : u = t
        · subst e; exact Or.inr h2.2
        · exact Or.inl ⟨u, by omega, h2⟩
    · rename_i hb
      rw [ih]
      constructor
      · rintro ⟨u, h1, h2⟩; exact ⟨u, by omega, h2⟩
      · rintro ⟨u, h1, h2⟩
        by_cases e : u = t
        · subst e; exact absurd h2.1 hb
        · exact ⟨u, by omega, h2⟩
/-- the ends of the walks of length k from v -/
def wks (n : Nat) (A : Nat → Int32) (v : Nat) : Nat → Int32
  | 0 => sg v
  | k + 1 => nbs A (wks n A v k) n
theorem wks_lt {n : Nat} {A : Nat → Int32} (w : GW n A) {v : Nat} (hv : v < n) : ∀ {k x : Nat}, bt (wks n A v k) x = true → x < n
  | 0, x, h => by
    have hn := w.2.1
    have h : bt (sg v) x = true := h
    rw [b_sg (by omega) (lt32 h)] at h
    simp only [decide_eq_true_eq] at h
    omega
  | k + 1, x, h => by
    have hn := w.2.1
    obtain ⟨u, h1, h2, h3⟩ := nbs_iff.mp (show bt (nbs A (wks n A v k) n) x = true from h)
    exact b_lt (w.2.2.1 u (by omega)) h3
theorem wks_to {n : Nat} {A : Nat → Int32} (hn : n ≤ 12) {f : Nat → Nat} : ∀ {k : Nat}, (∀ i, i ≤ k → f i < n) → (∀ i, i < k → bt (A (f i)) (f (i + 1)) = true) → bt (wks n A (f 0) k) (f k) = true
  | 0, h1, _ => by
    show bt (sg (f 0)) (f 0) = true
    have := h1 0 (Nat.le_refl _)
    rw [b_sg (by omega) (by omega)]; simp
  | k + 1, h1, h2 => nbs_iff.mpr ⟨f k, h1 k (by omega), wks_to hn (fun i hi => h1 i (by omega)) (fun i hi => h2 i (by omega)), h2 k (by omega)⟩
theorem wks_of {n : Nat} {A : Nat → Int32} (w : GW n A) {v : Nat} (hv : v < n) : ∀ {k x : Nat}, bt (wks n A v k) x = true → ∃ f : Nat → Nat, f 0 = v ∧ f k = x ∧ (∀ i, i ≤ k → f i < n) ∧ ∀ i, i < k → bt (A (f i)) (f (i + 1)) = true
  | 0, x, h => by
    have hx := wks_lt w hv h
    have hn := w.2.1
    have h : bt (sg v) x = true := h
    rw [b_sg (by omega) (by omega)] at h
    simp only [decide_eq_true_eq] at h
    exact ⟨fun _ => v, rfl, h.symm, fun _ _ => hv, fun i hi => by omega⟩
  | k + 1, x, h => by
    have hx := wks_lt w hv h
    obtain ⟨u, h1, h2, h3⟩ := nbs_iff.mp (show bt (nbs A (wks n A v k) n) x = true from h)
    obtain ⟨f, f1, f2, f3, f4⟩ := wks_of w hv h2
    refine ⟨fun i => if i ≤ k then f i else x, by simp [f1], if_neg (by omega), fun i hi => ?_, fun i hi => ?_⟩
    · dsimp only
      split
      · rename_i q; exact f3 i q
      · exact hx
    · dsimp only
      rw [if_pos (show i ≤ k by omega)]
      split
      · rename_i q; exact f4 i (by omega)
      · rw [show i = k by omega, f2]; exact h3
theorem odd_short {n : Nat} {A : Nat → Int32} (w : GW n A) (H : ∀ k v, k ≤ n → v < n → k % 2 = 1 → ¬ bt (wks n A v k) v = true) : ∀ (m k v : Nat), k ≤ m → v < n → k % 2 = 1 → ¬ bt (wks n A v k) v = true := by
  have hn := w.2.1
  intro m
  induction m with
  | zero => intro k v hk hv ho; omega
  | succ m ih =>
    intro k v hk hv ho hb
    by_cases hkn : k ≤ n
    · exact H k v hkn hv ho hb
    · obtain ⟨f, f1, f2, f3, f4⟩ := wks_of w hv hb
      obtain ⟨i, j, h1, h2, h3⟩ := pigeon n k f (fun i hi => f3 i (by omega)) (by omega)
      by_cases hodd : (j - i) % 2 = 1
      · refine ih (j - i) (f i) (by omega) (f3 i (by omega)) hodd ?_
        have := wks_to (n := n) (A := A) hn (f := fun t => f (i + t)) (k := j - i) (fun t ht => f3 _ (by omega)) (fun t ht => by
          have := f4 (i + t) (by omega)
          rw [show i + t + 1 = i + (t + 1) by omega] at this
          exact this)
        try dsimp only at this
        rw [show i + (j - i) = j by omega, ← h3] at this
        exact this
      · refine ih (k - (j - i)) v (by omega) hv (by omega) ?_
        have := wks_to (n := n) (A := A) hn (f := fun t => if t ≤ i then f t else f (t + (j - i))) (k := k - (j - i)) (fun t ht => by
          try dsimp only
          split
          · exact f3 _ (by omega)
          · exact f3 _ (by omega)) (fun t ht => by
          try dsimp only
          by_cases e1 : t + 1 ≤ i
          · rw [if_pos (show t ≤ i by omega), if_pos e1]; exact f4 t (by omega)
          · by_cases e2 : t ≤ i
            · have et : t = i := by omega
              subst et
              rw [if_pos e2, if_neg e1, h3]
              have := f4 j (by omega)
              rw [show t + 1 + (j - t) = j + 1 by omega]; exact this
            · rw [if_neg e2, if_neg e1]
              have := f4 (t + (j - i)) (by omega)
              rw [show t + 1 + (j - i) = t + (j - i) + 1 by omega]; exact this)
        try dsimp only at this
        rw [if_pos (Nat.zero_le i), f1] at this
        by_cases e : k - (j - i) ≤ i
        · have : k - (j - i) = i := by omega
          omega
        · rw [if_neg e, show k - (j - i) + (j - i) = k by omega, f2] at this
          exact this
/-- what a node's own search says, for walks up to N -/
def OW (n : Nat) (A : Nat → Int32) (N v : Nat) (r : Int32) : Prop := (r = -1 ∧ ∀ k, k ≤ N → k % 2 = 1 → ¬ bt (wks n A v k) v = true) ∨ ∃ k, k ≤ N ∧ r = nI k ∧ k % 2 = 1 ∧ bt (wks n A v k) v = true ∧ ∀ j, j < k → j % 2 = 1 → ¬ bt (wks n A v j) v = true
def OM (n : Nat) (A : Nat → Int32) (N t : Nat) (r : Int32) : Prop := (r = -1 ∧ ∀ v, v < t → ∀ k, k ≤ N → k % 2 = 1 → ¬ bt (wks n A v k) v = true) ∨ ∃ k, k ≤ N ∧ r = nI k ∧ k % 2 = 1 ∧ (∃ v, v < t ∧ bt (wks n A v k) v = true) ∧ ∀ v, v < t → ∀ j, j < k → j % 2 = 1 → ¬ bt (wks n A v j) v = true
theorem OM.next {n : Nat} {A : Nat → Int32} {N t : Nat} (hN : N < 100) {r g : Int32} (h : OM n A N t r) (hg : OW n A N t g) : OM n A N (t + 1) (if g = -1 then r else if r = -1 then g else if r ≤ g then r else g) := by
  rcases hg with ⟨g1, g2⟩ | ⟨k, g1, g2, g3, g4, g5⟩
  · rw [if_pos g1]
    rcases h with ⟨h1, h2⟩ | ⟨j, h1, h2, h3, h4, h5⟩
    · refine Or.inl ⟨h1, fun v hv => ?_⟩
      by_cases e : v = t
      · rw [e]; exact g2
      · exact h2 v (by omega)
    · refine Or.inr ⟨j, h1, h2, h3, ?_, fun v hv => ?_⟩
      · obtain ⟨v, v1, v2⟩ := h4
        exact ⟨v, by omega, v2⟩
      · by_cases e : v = t
        · rw [e]; exact fun i hi => g2 i (by omega)
        · exact h5 v (by omega)
  · rw [if_neg (by rw [g2]; exact nI_ne_m1 (by omega))]
    rcases h with ⟨h1, h2⟩ | ⟨j, h1, h2, h3, h4, h5⟩
    · rw [if_pos h1]
      refine Or.inr ⟨k, g1, g2, g3, ⟨t, by omega, g4⟩, fun v hv => ?_⟩
      by_cases e : v = t
      · rw [e]; exact g5
      · exact fun i hi => h2 v (by omega) i (by omega)
    · rw [if_neg (by rw [h2]; exact nI_ne_m1 (by omega)), g2, h2]
      by_cases hle : j ≤ k
      · rw [if_pos (nI_le hle (by omega))]
        refine Or.inr ⟨j, h1, rfl, h3, ?_, fun v hv => ?_⟩
        · obtain ⟨v, v1, v2⟩ := h4
          exact ⟨v, by omega, v2⟩
        · by_cases e : v = t
          · rw [e]; exact fun i hi => g5 i (by omega)
          · exact h5 v (by omega)
      · rw [if_neg (nI_ge (by omega) (by omega))]
        refine Or.inr ⟨k, g1, rfl, g3, ⟨t, by omega, g4⟩, fun v hv => ?_⟩
        by_cases e : v = t
        · rw [e]; exact g5
        · exact fun i hi => h5 v (by omega) i (by omega)
theorem OM.same {n : Nat} {A : Nat → Int32} (w : GW n A) {r s : Int32} (h : OM n A n n r) (h2 : OM n A (2 * n) n s) : r = s := by
  rcases h with ⟨a1, a2⟩ | ⟨k, a1, a2, a3, ⟨v, a4, a5⟩, a6⟩
  · have hall := odd_short w (fun k v hk hv => a2 v hv k hk)
    rcases h2 with ⟨b1, -⟩ | ⟨j, b1, b2, b3, ⟨u, b4, b5⟩, b6⟩
    · rw [a1, b1]
    · exact absurd b5 (hall j j u (Nat.le_refl _) b4 b3)
  · rcases h2 with ⟨b1, b2⟩ | ⟨j, b1, b2, b3, ⟨u, b4, b5⟩, b6⟩
    · exact absurd a5 (b2 v a4 k (by omega) a3)
    · have : j = k := by
        rcases Nat.lt_trichotomy j k with q | q | q
        · exact absurd b5 (a6 u b4 j q b3)
        · exact q
        · exact absurd a5 (b6 v a4 k q a3)
      rw [a2, b2, this]
theorem od_1 : ∀ k, k < 30 → (nI k - nI k / 2 * 2 = 1 ↔ k % 2 = 1) := by decide +kernel
theorem od_0 : ∀ k, k < 30 → (nI k - nI k / 2 * 2 = 0 ↔ k % 2 = 0) := by decide +kernel
theorem besides_eq {n : Nat} {A : Nat → Int32} {σ : WD} (w : GW n A) (hG : GC n A σ) (S : Int32) : f_X0_besides S σ = some (nbs A S n) := by
  have hn := w.2.1
  unfold f_X0_besides f_X0_besides_4
  refine lp_for (fun i => (nbs A S i, nI i)) (a := 0) (b := n) (Nat.zero_le _) (fun i _ hi => ?_) ?_
  · show f_X0_besides_b4 _ _ _ _ = _
    unfold f_X0_besides_b4
    rw [hG.1, if_neg (nI_ge hi (by omega)), nbs_succ]
    by_cases hb : bt S i = true
    · rw [if_neg (fun q => by rw [tb_zero (by omega), hb] at q; cases q), if_pos hb, gi12 (by omega), nI_clamp (by omega), hG.2 i (by omega), li_eq, nI_1]
    · rw [if_pos ((tb_zero (by omega)).mpr (by simpa using hb)), if_neg hb, nI_1]
  · show f_X0_besides_b4 _ _ _ _ = _
    unfold f_X0_besides_b4
    rw [hG.1, if_pos (nI_le (Nat.le_refl n) (by omega))]
theorem oddWalk_c {n : Nat} {A : Nat → Int32} {σ : WD} (w : GW n A) (hG : GC n A σ) {v : Nat} (hv : v < n) : ∃ r, f_X0_shortestOddWalk (nI v) σ = some r ∧ OW n A n v r := by
  have hn := w.2.1
  unfold f_X0_shortestOddWalk f_X0_shortestOddWalk_6
  rw [li_eq, sg_eq]
  have stp : ∀ i, i < n → f_X0_shortestOddWalk_b6 (nI v) (wks n A v i) (nI (i + 1)) σ = if (i + 1) % 2 = 1 ∧ bt (wks n A v (i + 1)) v = true then some (.inr (nI (i + 1))) else some (.inl (wks n A v (i + 1), nI (i + 1 + 1))) := by
    intro i hi
    unfold f_X0_shortestOddWalk_b6
    rw [hG.1, if_neg (nI_nlt (by omega) (by omega)), besides_eq w hG, bv_eq, gz2]
    show (if _ then (if ((wks n A v (i + 1) >>> (nI v &&& 31)) &&& 1) = 0 then some (Sum.inl (wks n A v (i + 1), nI (i + 1) + 1)) else _) else some (Sum.inl (wks n A v (i + 1), nI (i + 1) + 1))) = _
    rw [nI_1]
    by_cases ho : (i + 1) % 2 = 1
    · rw [if_pos ((od_1 _ (by omega)).mpr ho)]
      by_cases hb : bt (wks n A v (i + 1)) v = true
      · rw [if_neg (fun q => by rw [tb_zero (by omega), hb] at q; cases q), if_pos ⟨ho, hb⟩]
      · rw [if_pos ((tb_zero (by omega)).mpr (by simpa using hb)), if_neg (fun q => hb q.2)]
    · rw [if_neg (fun q => ho ((od_1 _ (by omega)).mp q)), if_neg (fun q => ho q.1)]
  rcases first_not (fun i => ¬ ((i + 1) % 2 = 1 ∧ bt (wks n A v (i + 1)) v = true)) n with h | ⟨k, h1, h2, h3⟩
  · refine ⟨-1, ?_, Or.inl ⟨rfl, fun k hk ho hb => ?_⟩⟩
    · refine lp_for (fun i => (wks n A v i, nI (i + 1))) (a := 0) (b := n) (Nat.zero_le _) (fun i _ hi => ?_) ?_
      · show f_X0_shortestOddWalk_b6 _ _ _ _ = _
        rw [stp i hi, if_neg (h i hi)]
      · show f_X0_shortestOddWalk_b6 _ _ _ _ = _
        unfold f_X0_shortestOddWalk_b6
        rw [hG.1, if_pos (nI_lt (by omega) (by omega))]
    · refine h (k - 1) (by omega) ?_
      rw [show k - 1 + 1 = k by omega]; exact ⟨ho, hb⟩
  · have h2 := Classical.not_not.mp h2
    refine ⟨nI (k + 1), ?_, Or.inr ⟨k + 1, by omega, rfl, h2.1, h2.2, fun j hj ho hb => ?_⟩⟩
    · refine lp_for (fun i => (wks n A v i, nI (i + 1))) (a := 0) (b := k) (Nat.zero_le _) (fun i _ hi => ?_) ?_
      · show f_X0_shortestOddWalk_b6 _ _ _ _ = _
        rw [stp i (by omega), if_neg (h3 i hi)]
      · show f_X0_shortestOddWalk_b6 _ _ _ _ = _
        rw [stp k h1, if_pos h2]
    · refine h3 (j - 1) (by omega) ?_
      rw [show j - 1 + 1 = j by omega]; exact ⟨ho, hb⟩
theorem oddCycle_c {n : Nat} {A : Nat → Int32} {σ : WD} (w : GW n A) (hG : GC n A σ) : ∃ r, f_X6_oddCycle σ = some r ∧ OM n A n n r := by
  have hn := w.2.1
  unfold f_X6_oddCycle f_X6_oddCycle_4
  obtain ⟨s', ⟨r, hs', hr⟩, el⟩ := lp_inv (f := fun s : Int32 × Int32 => f_X6_oddCycle_b4 s.1 s.2 σ) (fun i s => ∃ r, s = (r, nI i) ∧ OM n A n i r) (a := 0) (b := n) (Nat.zero_le _) (s := (-1, 0)) ⟨-1, rfl, Or.inl ⟨rfl, fun v hv => by omega⟩⟩ (fun i s _ hi hs => by
    obtain ⟨r, rfl, hr⟩ := hs
    try dsimp only
    unfold f_X6_oddCycle_b4
    obtain ⟨g, eg, hg⟩ := oddWalk_c w hG hi
    rw [hG.1, if_neg (nI_ge hi (by omega)), eg, bv_eq, nI_1]
    refine ⟨(if g = -1 then r else if r = -1 then g else if r ≤ g then r else g, nI (i + 1)), ?_, _, rfl, hr.next (by omega) hg⟩
    repeat' split
    all_goals first | rfl | contradiction)
  rw [el, hs']
  refine ⟨r, lp_end ?_, hr⟩
  try dsimp only
  unfold f_X6_oddCycle_b4
  rw [hG.1, if_pos (nI_le (Nat.le_refl n) (by omega))]
/-- the reference's two sets behind i steps -/
def eo (n : Nat) (A : Nat → Int32) (v : Nat) : Nat → Int32 × Int32
  | 0 => (sg v, 0)
  | i + 1 => if (i + 1) % 2 = 1 then ((eo n A v i).1, (eo n A v i).2 ||| nbs A (eo n A v i).1 n) else ((eo n A v i).1 ||| nbs A (eo n A v i).2 n, (eo n A v i).2)
theorem eo_succ (n : Nat) (A : Nat → Int32) (v i : Nat) : eo n A v (i + 1) = if (i + 1) % 2 = 1 then ((eo n A v i).1, (eo n A v i).2 ||| nbs A (eo n A v i).1 n) else ((eo n A v i).1 ||| nbs A (eo n A v i).2 n, (eo n A v i).2) := rfl
theorem eo_iff {n : Nat} {A : Nat → Int32} {v : Nat} : ∀ (i x : Nat), (bt (eo n A v i).1 x = true ↔ ∃ j, j ≤ i ∧ j % 2 = 0 ∧ bt (wks n A v j) x = true) ∧ (bt (eo n A v i).2 x = true ↔ ∃ j, j ≤ i ∧ j % 2 = 1 ∧ bt (wks n A v j) x = true)
  | 0, x => by
    refine ⟨⟨fun h => ⟨0, by omega, rfl, h⟩, fun ⟨j, h1, h2, h3⟩ => ?_⟩, ⟨fun h => ?_, fun ⟨j, h1, h2, h3⟩ => ?_⟩⟩
    · rw [show j = 0 by omega] at h3; exact h3
    · have h : bt 0 x = true := h
      rw [b_0] at h; cases h
    · omega
  | i + 1, x => by
    have nb : ∀ (c : Nat) (S : Int32), (∀ u, bt S u = true ↔ ∃ j, j ≤ i ∧ j % 2 = c ∧ bt (wks n A v j) u = true) → (bt (nbs A S n) x = true ↔ ∃ j, j ≤ i ∧ j % 2 = c ∧ bt (wks n A v (j + 1)) x = true) := by
      intro c S hS
      rw [nbs_iff]
      constructor
      · rintro ⟨u, h1, h2, h3⟩
        obtain ⟨j, j1, j2, j3⟩ := (hS u).mp h2
        exact ⟨j, j1, j2, nbs_iff.mpr ⟨u, h1, j3, h3⟩⟩
      · rintro ⟨j, j1, j2, j3⟩
        obtain ⟨u, h1, h2, h3⟩ := nbs_iff.mp (show bt (nbs A (wks n A v j) n) x = true from j3)
        exact ⟨u, h1, (hS u).mpr ⟨j, j1, j2, h2⟩, h3⟩
    have ih := eo_iff (n := n) (A := A) (v := v) i
    rw [eo_succ]
    split
    · rename_i ho
      try dsimp only
      refine ⟨?_, ?_⟩
      · rw [(ih x).1]
        constructor
        · rintro ⟨j, h1, h2⟩; exact ⟨j, by omega, h2⟩
        · rintro ⟨j, h1, h2, h3⟩
          exact ⟨j, by omega, h2, h3⟩
      · rw [m_or, (ih x).2, nb 0 _ (fun u => (ih u).1)]
        constructor
        · rintro (⟨j, h1, h2⟩ | ⟨j, h1, h2, h3⟩)
          · exact ⟨j, by omega, h2⟩
          · exact ⟨j + 1, by omega, by omega, h3⟩
        · rintro ⟨j, h1, h2, h3⟩
          refine Or.inr ⟨j - 1, by omega, by omega, ?_⟩
          rw [show j - 1 + 1 = j by omega]; exact h3
    · rename_i ho
      try dsimp only
      refine ⟨?_, ?_⟩
      · rw [m_or, (ih x).1, nb 1 _ (fun u => (ih u).2)]
        constructor
        · rintro (⟨j, h1, h2⟩ | ⟨j, h1, h2, h3⟩)
          · exact ⟨j, by omega, h2⟩
          · exact ⟨j + 1, by omega, by omega, h3⟩
        · rintro ⟨j, h1, h2, h3⟩
          by_cases e : j = 0
          · exact Or.inl ⟨0, by omega, rfl, by rw [e] at h3; exact h3⟩
          · refine Or.inr ⟨j - 1, by omega, by omega, ?_⟩
            rw [show j - 1 + 1 = j by omega]; exact h3
      · rw [(ih x).2]
        constructor
        · rintro ⟨j, h1, h2⟩; exact ⟨j, by omega, h2⟩
        · rintro ⟨j, h1, h2, h3⟩
          exact ⟨j, by omega, h2, h3⟩
theorem nI_twice : ∀ n, n < 13 → (2 : Int32) * nI n = nI (2 * n) := by decide +kernel
theorem oddWalk_r {n : Nat} {A : Nat → Int32} {σ : WD} (w : GW n A) (hG : GR n A σ) {v : Nat} (hv : v < n) : ∃ r, f_X7_oddWalk (nI v) σ = some r ∧ OW n A (2 * n) v r := by
  have hn := w.2.1
  unfold f_X7_oddWalk f_X7_oddWalk_9
  rw [li_eq, sg_eq]
  -- one round's inner loop
  have inner : ∀ (e o k S : Int32) (R : (Int32 × Int32 × Int32) ⊕ Int32), f_X7_oddWalk_82 (nI v) e o k (nbs A S n) σ = some R → f_X7_oddWalk_41 (nI v) e o k S 0 0 σ = some R := by
    intro e o k S R hR
    unfold f_X7_oddWalk_41
    refine lp_for (fun i => (nbs A S i, nI i)) (a := 0) (b := n) (Nat.zero_le _) (fun i _ hi => ?_) ?_
    · show f_X7_oddWalk_b41 _ _ _ _ _ _ _ _ = _
      unfold f_X7_oddWalk_b41 f_X7_oddWalk_73
      rw [hG.1, if_neg (nI_ge hi (by omega)), has_eq (by omega), bv_eq, nbs_succ]
      by_cases hb : bt S i = true
      · rw [if_pos hb, if_pos hb, if_neg (by decide), gi12 (by omega), nI_clamp (by omega), hG.2 i (by omega), nI_1]
      · rw [if_neg hb, if_neg hb, if_pos rfl, nI_1, Int32.or_zero]
    · show f_X7_oddWalk_b41 _ _ _ _ _ _ _ _ = _
      unfold f_X7_oddWalk_b41
      rw [hG.1, if_pos (nI_le (Nat.le_refl n) (by omega)), hR, mr_eq]
  have stp : ∀ i, i < 2 * n → f_X7_oddWalk_b9 (nI v) (eo n A v i).1 (eo n A v i).2 (nI (i + 1)) σ = if bt (eo n A v (i + 1)).2 v = true then some (.inr (nI (i + 1))) else some (.inl ((eo n A v (i + 1)).1, (eo n A v (i + 1)).2, nI (i + 1 + 1))) := by
    intro i hi
    unfold f_X7_oddWalk_b9
    rw [hG.1, nI_twice n (by omega), if_neg (nI_nlt (by omega) (by omega)), gz2]
    by_cases ho : (i + 1) % 2 = 1
    · rw [if_pos ((od_1 _ (by omega)).mpr ho)]
      rw [eo_succ, if_pos ho]
      dsimp only
      have h113 : f_X7_oddWalk_82 (nI v) (eo n A v i).1 (eo n A v i).2 (nI (i + 1)) (nbs A (eo n A v i).1 n) σ = f_X7_oddWalk_113 (nI v) (eo n A v i).1 (nI (i + 1)) (nbs A (eo n A v i).1 n) (eo n A v i).2 σ := by
        unfold f_X7_oddWalk_82 f_X7_oddWalk_96
        rw [gz2, if_neg (fun q => by have := (od_0 _ (by omega)).mp q; omega), gz2, if_pos ((od_1 _ (by omega)).mpr ho), Int32.or_zero]
      unfold f_X7_oddWalk_113 at h113
      rw [has_eq (by omega), bv_eq, nI_1] at h113
      by_cases hb : bt ((eo n A v i).2 ||| nbs A (eo n A v i).1 n) v = true
      · rw [if_pos hb] at h113 ⊢
        exact inner _ _ _ _ _ (by rw [h113, if_neg (by decide)])
      · rw [if_neg hb] at h113 ⊢
        exact inner _ _ _ _ _ (by rw [h113, if_pos rfl])
    · rw [if_neg (fun q => ho ((od_1 _ (by omega)).mp q)), eo_succ, if_neg ho]
      dsimp only
      have h113 : f_X7_oddWalk_82 (nI v) (eo n A v i).1 (eo n A v i).2 (nI (i + 1)) (nbs A (eo n A v i).2 n) σ = f_X7_oddWalk_113 (nI v) ((eo n A v i).1 ||| nbs A (eo n A v i).2 n) (nI (i + 1)) 0 (eo n A v i).2 σ := by
        unfold f_X7_oddWalk_82 f_X7_oddWalk_96
        rw [gz2, if_pos ((od_0 _ (by omega)).mpr (by omega)), gz2, if_neg (fun q => ho ((od_1 _ (by omega)).mp q))]
      unfold f_X7_oddWalk_113 at h113
      rw [has_eq (by omega), bv_eq, nI_1, Int32.or_zero] at h113
      by_cases hb : bt (eo n A v i).2 v = true
      · rw [if_pos hb] at h113 ⊢
        exact inner _ _ _ _ _ (by rw [h113, if_neg (by decide)])
      · rw [if_neg hb] at h113 ⊢
        exact inner _ _ _ _ _ (by rw [h113, if_pos rfl])
  rcases first_not (fun i => ¬ bt (eo n A v (i + 1)).2 v = true) (2 * n) with h | ⟨k, h1, h2, h3⟩
  · refine ⟨-1, ?_, Or.inl ⟨rfl, fun k hk ho hb => ?_⟩⟩
    · refine lp_for (fun i => ((eo n A v i).1, (eo n A v i).2, nI (i + 1))) (a := 0) (b := 2 * n) (Nat.zero_le _) (fun i _ hi => ?_) ?_
      · show f_X7_oddWalk_b9 _ _ _ _ _ = _
        rw [stp i hi, if_neg (h i hi)]
      · show f_X7_oddWalk_b9 _ _ _ _ _ = _
        unfold f_X7_oddWalk_b9
        rw [hG.1, nI_twice n (by omega), if_pos (nI_lt (by omega) (by omega))]
    · refine h (k - 1) (by omega) ?_
      exact ((eo_iff _ _).2).mpr ⟨k, by omega, ho, hb⟩
  · have h2 := Classical.not_not.mp h2
    have hbefore : ∀ j, j < k + 1 → j % 2 = 1 → ¬ bt (wks n A v j) v = true := fun j hj ho hb => h3 (j - 1) (by omega) (((eo_iff _ _).2).mpr ⟨j, by omega, ho, hb⟩)
    obtain ⟨j, j1, j2, j3⟩ := ((eo_iff _ _).2).mp h2
    have hjk : j = k + 1 := by
      rcases Nat.lt_or_ge j (k + 1) with q | q
      · exact absurd j3 (hbefore j q j2)
      · omega
    subst hjk
    refine ⟨nI (k + 1), ?_, Or.inr ⟨k + 1, by omega, rfl, j2, j3, hbefore⟩⟩
    refine lp_for (fun i => ((eo n A v i).1, (eo n A v i).2, nI (i + 1))) (a := 0) (b := k) (Nat.zero_le _) (fun i _ hi => ?_) ?_
    · show f_X7_oddWalk_b9 _ _ _ _ _ = _
      rw [stp i (by omega), if_neg (h3 i hi)]
    · show f_X7_oddWalk_b9 _ _ _ _ _ = _
      rw [stp k h1, if_pos h2]
theorem oddCycle_r {n : Nat} {A : Nat → Int32} {σ : WD} (w : GW n A) (hG : GR n A σ) : ∃ r, f_X7_oddCycleNow σ = some r ∧ OM n A (2 * n) n r := by
  have hn := w.2.1
  unfold f_X7_oddCycleNow f_X7_oddCycleNow_4
  obtain ⟨s', ⟨r, hs', hr⟩, el⟩ := lp_inv (f := fun s : Int32 × Int32 => f_X7_oddCycleNow_b4 s.1 s.2 σ) (fun i s => ∃ r, s = (r, nI i) ∧ OM n A (2 * n) i r) (a := 0) (b := n) (Nat.zero_le _) (s := (-1, 0)) ⟨-1, rfl, Or.inl ⟨rfl, fun v hv => by omega⟩⟩ (fun i s _ hi hs => by
    obtain ⟨r, rfl, hr⟩ := hs
    try dsimp only
    unfold f_X7_oddCycleNow_b4
    obtain ⟨g, eg, hg⟩ := oddWalk_r w hG hi
    rw [hG.1, if_neg (nI_ge hi (by omega)), eg, bv_eq, nI_1]
    refine ⟨(if g = -1 then r else if r = -1 then g else if r ≤ g then r else g, nI (i + 1)), ?_, _, rfl, hr.next (by omega) hg⟩
    repeat' split
    all_goals first | rfl | contradiction)
  rw [el, hs']
  refine ⟨r, lp_end ?_, hr⟩
  try dsimp only
  unfold f_X7_oddCycleNow_b4
  rw [hG.1, if_pos (nI_le (Nat.le_refl n) (by omega))]
/-- the length of the shortest odd cycle, as both say it -/
noncomputable def ocl (n : Nat) (A : Nat → Int32) : Int32 := Classical.epsilon (fun r => OM n A n n r)
theorem oddCycle_eq {n : Nat} {A : Nat → Int32} {σ : WD} (w : GW n A) (hG : GC n A σ) : f_X6_oddCycle σ = some (ocl n A) := by
  obtain ⟨r, e, h⟩ := oddCycle_c w hG
  obtain ⟨s, e2, h2⟩ := oddCycle_r (σ := ((fun c => if c = 29 then fun _ => nI n else A), 0, 0)) w ⟨rfl, fun i hi => rfl⟩
  have h3 : OM n A n n (ocl n A) := Classical.epsilon_spec (p := fun r => OM n A n n r) ⟨r, h⟩
  rw [e, OM.same w h h2, OM.same w h3 h2]
theorem x_oddCycle_eq {n : Nat} {A : Nat → Int32} {σ : WD} (w : GW n A) (hG : GR n A σ) : f_X7_oddCycleNow σ = some (ocl n A) := by
  obtain ⟨s, e2, h2⟩ := oddCycle_r w hG
  obtain ⟨r, e, h⟩ := oddCycle_c (σ := ((fun c => if c = 1 then fun _ => nI n else A), 0, 0)) w ⟨rfl, fun i hi => rfl⟩
  have h3 : OM n A n n (ocl n A) := Classical.epsilon_spec (p := fun r => OM n A n n r) ⟨r, h⟩
  rw [e2, OM.same w h3 h2]
