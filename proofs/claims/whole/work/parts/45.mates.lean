-- ===== the present matching =====
def mtn (M : Nat → Int32) (x : Nat) : Nat := (M x).toNatClampNeg
def MW (n : Nat) (A : Nat → Int32) (M : Nat → Int32) : Prop := ∀ i, i < 12 → M i = -1 ∨ (i < n ∧ mtn M i < n ∧ M i = nI (mtn M i) ∧ M (mtn M i) = nI i ∧ bt (A i) (mtn M i) = true)
def CM (M : Nat → Int32) (σ : WD) : Prop := ∀ i, i < 12 → σ.1 4 i = M i
def RM (M : Nat → Int32) (σ : WD) : Prop := ∀ i, i < 12 → σ.1 31 i = M i
theorem CM.fr {M : Nat → Int32} {σ τ : WD} {K : List Nat} (h : CM M σ) (hf : Fr K σ τ) (h1 : 4 ∉ K) : CM M τ := fun i hi => by rw [hf.1 4 h1]; exact h i hi
theorem RM.fr {M : Nat → Int32} {σ τ : WD} {K : List Nat} (h : RM M σ) (hf : Fr K σ τ) (h1 : 31 ∉ K) : RM M τ := fun i hi => by rw [hf.1 31 h1]; exact h i hi
theorem MW.mat {n : Nat} {A M : Nat → Int32} (h : MW n A M) {i : Nat} (hi : i < 12) (hM : M i ≠ -1) : i < n ∧ mtn M i < n ∧ M i = nI (mtn M i) ∧ M (mtn M i) = nI i ∧ bt (A i) (mtn M i) = true := by
  rcases h i hi with q | q
  · exact absurd q hM
  · exact q
theorem MW.ne {n : Nat} {A M : Nat → Int32} (w : GW n A) (h : MW n A M) {i : Nat} (hi : i < 12) (hM : M i ≠ -1) : mtn M i ≠ i := fun e => by
  have := (h.mat hi hM).2.2.2.2
  rw [e, w.2.2.2.2 i hi] at this; cases this
theorem MW.back {n : Nat} {A M : Nat → Int32} (w : GW n A) (h : MW n A M) {i : Nat} (hi : i < 12) (hM : M i ≠ -1) : M (mtn M i) ≠ -1 ∧ mtn M (mtn M i) = i := by
  have hn := w.2.1
  obtain ⟨a, b, c, d, e⟩ := h.mat hi hM
  refine ⟨by rw [d]; exact nI_ne_m1 (by omega), ?_⟩
  show (M (mtn M i)).toNatClampNeg = i
  rw [d, nI_clamp (by omega)]
theorem MW.out {n : Nat} {A M : Nat → Int32} (h : MW n A M) {i : Nat} (hi : i < 12) (hn : n ≤ i) : M i = -1 := by
  rcases h i hi with q | q
  · exact q
  · omega
theorem isExposed_eq {M : Nat → Int32} {σ : WD} (h : CM M σ) {i : Nat} (hi : i < 12) : f_X3_isExposed (nI i) σ = some (if M i = -1 then 1 else 0) := by
  unfold f_X3_isExposed
  rw [gi12 hi, nI_clamp (by omega), h i hi]
  split <;> rfl
/-- how many of the first t nodes have a greater mate -/
def szq (M : Nat → Int32) : Nat → Nat
  | 0 => 0
  | t + 1 => szq M t + if nI t < M t then 1 else 0
theorem szq_succ (M : Nat → Int32) (t : Nat) : szq M (t + 1) = szq M t + if nI t < M t then 1 else 0 := rfl
theorem i_not_le {a b : Int32} : ¬ a ≤ b ↔ b < a := by
  rw [Int32.le_iff_toInt_le, Int32.lt_iff_toInt_lt]; omega
theorem not_lt_m1 {t : Nat} (ht : t < 2 ^ 31) : ¬ nI t < -1 := by
  rw [Int32.lt_iff_toInt_lt, nI_toInt ht, show (-1 : Int32).toInt = -1 by decide]; omega
theorem up_iff {n : Nat} {A M : Nat → Int32} (w : GW n A) (h : MW n A M) {i : Nat} (hi : i < 12) : nI i < M i ↔ M i ≠ -1 ∧ i < mtn M i := by
  have hn := w.2.1
  constructor
  · intro q
    have h1 : M i ≠ -1 := fun e => by rw [e] at q; exact not_lt_m1 (by omega) q
    obtain ⟨a, b, c, d, e⟩ := h.mat hi h1
    rw [c, nI_lt_iff (by omega) (by omega)] at q
    exact ⟨h1, q⟩
  · rintro ⟨h1, h2⟩
    obtain ⟨a, b, c, d, e⟩ := h.mat hi h1
    rw [c]; exact nI_lt h2 (by omega)
theorem szq_out {n : Nat} {A M : Nat → Int32} (h : MW n A M) : ∀ {t : Nat}, n ≤ t → t ≤ 12 → szq M t = szq M n
  | 0, h1, _ => by rw [show n = 0 by omega]
  | t + 1, h1, h2 => by
    by_cases e : n = t + 1
    · rw [e]
    · rw [szq_succ, h.out (by omega) (show n ≤ t by omega), if_neg (not_lt_m1 (by omega)), szq_out h (t := t) (by omega) (by omega)]; rfl
theorem size_eq {n : Nat} {A M : Nat → Int32} {σ : WD} (w : GW n A) (h : MW n A M) (hC : CM M σ) : f_X3_size σ = some (nI (szq M n)) := by
  have hn := w.2.1
  rw [← szq_out h hn (Nat.le_refl 12)]
  unfold f_X3_size f_X3_size_4
  refine lp_for (fun i => (nI (szq M i), nI i)) (a := 0) (b := 12) (Nat.zero_le _) (fun i _ hi => ?_) ?_
  · show f_X3_size_b4 _ _ _ = _
    unfold f_X3_size_b4
    rw [if_neg (show ¬ (12 : Int32) ≤ nI i from nI_ge hi (by decide)), gi12 hi, nI_clamp (by omega), hC i hi, szq_succ]
    by_cases q : nI i < M i
    · rw [if_neg (i_not_le.mpr q), if_pos q, nI_1, nI_1]
    · rw [if_pos (Classical.not_not.mp (fun r => q (i_not_le.mp r))), if_neg q, nI_1]; rfl
  · show f_X3_size_b4 _ _ _ = _
    unfold f_X3_size_b4
    rw [if_pos (show (12 : Int32) ≤ nI 12 by decide)]
theorem x_size_eq {n : Nat} {A M : Nat → Int32} {σ : WD} (w : GW n A) (hG : GR n A σ) (hC : RM M σ) : f_X7_size σ = some (nI (szq M n)) := by
  have hn := w.2.1
  unfold f_X7_size f_X7_size_4
  refine lp_for (fun i => (nI (szq M i), nI i)) (a := 0) (b := n) (Nat.zero_le _) (fun i _ hi => ?_) ?_
  · show f_X7_size_b4 _ _ _ = _
    unfold f_X7_size_b4
    rw [hG.1, if_neg (nI_ge hi (by omega)), gi12 (by omega), nI_clamp (by omega), hC i (by omega), szq_succ]
    by_cases q : nI i < M i
    · rw [if_neg (i_not_le.mpr q), if_pos q, nI_1, nI_1]
    · rw [if_pos (Classical.not_not.mp (fun r => q (i_not_le.mp r))), if_neg q, nI_1, Int32.add_zero]; rfl
  · show f_X7_size_b4 _ _ _ = _
    unfold f_X7_size_b4
    rw [hG.1, if_pos (nI_le (Nat.le_refl n) (by omega))]
/-- the matched nodes among the first t -/
def msk (M : Nat → Int32) : Nat → Int32
  | 0 => 0
  | t + 1 => if M t = -1 then msk M t else msk M t ||| sg t
theorem msk_iff {M : Nat → Int32} {x : Nat} : ∀ {t : Nat}, t ≤ 32 → (bt (msk M t) x = true ↔ x < t ∧ M x ≠ -1)
  | 0, _ => by
    unfold msk
    rw [b_0]; simp
  | t + 1, ht => by
    have ih := msk_iff (M := M) (x := x) (t := t) (by omega)
    unfold msk
    split
    · rename_i e
      rw [ih]
      constructor
      · rintro ⟨a, b⟩; exact ⟨by omega, b⟩
      · rintro ⟨a, b⟩
        refine ⟨?_, b⟩
        rcases Nat.lt_or_ge x t with q | q
        · exact q
        · rw [show x = t by omega] at b; exact absurd e b
    · rename_i e
      rw [m_or, ih]
      constructor
      · rintro (⟨a, b⟩ | q)
        · exact ⟨by omega, b⟩
        · rw [b_sg (by omega) (lt32 q)] at q
          simp only [decide_eq_true_eq] at q
          rw [q]; exact ⟨by omega, e⟩
      · rintro ⟨a, b⟩
        by_cases q : x = t
        · subst q; right; rw [b_sg (by omega) (by omega)]; simp
        · exact Or.inl ⟨by omega, b⟩
def skn (n : Nat) (M : Nat → Int32) : Nat → Int32
  | 0 => msk M n
  | k + 1 => if nI k < M k then cl (cl (skn n M k) k) (mtn M k) else skn n M k
theorem skn_iff {n : Nat} {A M : Nat → Int32} (w : GW n A) (h : MW n A M) : ∀ {k : Nat}, k ≤ n → ∀ x, bt (skn n M k) x = true ↔ x < n ∧ M x ≠ -1 ∧ k ≤ x ∧ k ≤ mtn M x
  | 0, _, x => by
    have hn := w.2.1
    unfold skn
    rw [msk_iff (by omega)]
    exact ⟨fun q => ⟨q.1, q.2, Nat.zero_le _, Nat.zero_le _⟩, fun q => ⟨q.1, q.2.1⟩⟩
  | k + 1, hk, x => by
    have hn := w.2.1
    have ih := skn_iff w h (k := k) (by omega) x
    unfold skn
    split
    · rename_i hup
      obtain ⟨u1, u2⟩ := (up_iff w h (show k < 12 by omega)).mp hup
      obtain ⟨a, b, c, d, e⟩ := h.mat (show k < 12 by omega) u1
      rw [m_cl (by omega), m_cl (by omega), ih]
      constructor
      · rintro ⟨⟨⟨q1, q2, q3, q4⟩, q5⟩, q6⟩
        refine ⟨q1, q2, by omega, ?_⟩
        rcases Nat.eq_or_lt_of_le q4 with q | q
        · exfalso
          have := (h.back w (show x < 12 by omega) q2).2
          rw [← q] at this
          exact q6 this.symm
        · exact q
      · rintro ⟨q1, q2, q3, q4⟩
        refine ⟨⟨⟨q1, q2, by omega, by omega⟩, by omega⟩, fun q => ?_⟩
        have := (h.back w (show k < 12 by omega) u1).2
        rw [q, this] at q4
        omega
    · rename_i hup
      rw [ih]
      constructor
      · rintro ⟨q1, q2, q3, q4⟩
        refine ⟨q1, q2, ?_, ?_⟩
        · rcases Nat.eq_or_lt_of_le q3 with q | q
          · exfalso
            subst q
            have := h.ne w (show k < 12 by omega) q2
            exact hup ((up_iff w h (by omega)).mpr ⟨q2, by omega⟩)
          · exact q
        · rcases Nat.eq_or_lt_of_le q4 with q | q
          · exfalso
            obtain ⟨b1, b2⟩ := h.back w (show x < 12 by omega) q2
            have b3 := h.ne w (show x < 12 by omega) q2
            rw [← q] at b1 b2
            exact hup ((up_iff w h (by omega)).mpr ⟨b1, by omega⟩)
          · exact q
      · rintro ⟨q1, q2, q3, q4⟩; exact ⟨q1, q2, by omega, by omega⟩
theorem szq_msk {n : Nat} {A M : Nat → Int32} (w : GW n A) (h : MW n A M) : 2 * szq M n = pcn (msk M n) := by
  have hn := w.2.1
  have key : ∀ k, k ≤ n → pcn (skn n M k) + 2 * szq M k = pcn (msk M n) := by
    intro k
    induction k with
    | zero => intro _; rfl
    | succ k ih =>
      intro hk
      have ih := ih (by omega)
      rw [szq_succ]
      show pcn (if nI k < M k then cl (cl (skn n M k) k) (mtn M k) else skn n M k) + _ = _
      split
      · rename_i hup
        obtain ⟨u1, u2⟩ := (up_iff w h (show k < 12 by omega)).mp hup
        obtain ⟨a, b, c, d, e⟩ := h.mat (show k < 12 by omega) u1
        obtain ⟨b1, b2⟩ := h.back w (show k < 12 by omega) u1
        have c1 := pcn_cl (x := skn n M k) (show k < 12 by omega) ((skn_iff w h (by omega) k).mpr ⟨a, u1, by omega, by omega⟩)
        have c2 := pcn_cl (x := cl (skn n M k) k) (show mtn M k < 12 by omega) ((m_cl (by omega)).mpr ⟨(skn_iff w h (by omega) _).mpr ⟨b, b1, by omega, by omega⟩, by omega⟩)
        omega
      · omega
  have := key n (Nat.le_refl n)
  have h0 : skn n M n = 0 := s_ext (fun x => by
    rw [skn_iff w h (Nat.le_refl n), b_0]
    constructor
    · rintro ⟨q1, -, q3, -⟩; omega
    · intro q; cases q)
  rw [h0, pcn_zero] at this
  omega
theorem msk_bd {M : Nat → Int32} {n : Nat} (hn : n ≤ 12) : Bd n (msk M n) := fun i h1 h2 => by
  cases q : bt (msk M n) i
  · rfl
  · have := ((msk_iff (by omega)).mp q).1; omega
theorem szq_half {n : Nat} {A M : Nat → Int32} (w : GW n A) (h : MW n A M) : 2 * szq M n ≤ n := by
  rw [szq_msk w h]; exact pcn_le w.2.1 (msk_bd w.2.1)
theorem szq_mono (M : Nat → Int32) {a : Nat} : ∀ {b : Nat}, a ≤ b → szq M a ≤ szq M b
  | 0, h => by rw [show a = 0 by omega]; exact Nat.le_refl _
  | b + 1, h => by
    by_cases e : a = b + 1
    · rw [e]; exact Nat.le_refl _
    · exact Nat.le_trans (szq_mono M (b := b) (by omega)) (Nat.le_add_right _ _)
/-- the bit of a node's pair -/
def pbq (M : Nat → Int32) (x : Nat) : Int32 := if M x = -1 then 0 else sg (szq M (min x (mtn M x)))
theorem min_up {n : Nat} {A M : Nat → Int32} (w : GW n A) (h : MW n A M) {x : Nat} (hx : x < 12) (hM : M x ≠ -1) : min x (mtn M x) < n ∧ nI (min x (mtn M x)) < M (min x (mtn M x)) := by
  have hn := w.2.1
  obtain ⟨a, b, c, d, e⟩ := h.mat hx hM
  obtain ⟨b1, b2⟩ := h.back w hx hM
  have b3 := h.ne w hx hM
  refine ⟨by omega, ?_⟩
  rcases Nat.lt_or_ge x (mtn M x) with q | q
  · rw [Nat.min_eq_left (by omega)]; exact (up_iff w h hx).mpr ⟨hM, q⟩
  · rw [Nat.min_eq_right (by omega)]; exact (up_iff w h (by omega)).mpr ⟨b1, by omega⟩
theorem pbq_sg {n : Nat} {A M : Nat → Int32} (w : GW n A) (h : MW n A M) {x : Nat} (hx : x < 12) (hM : M x ≠ -1) : ∃ i, i < 6 ∧ pbq M x = sg i ∧ i = szq M (min x (mtn M x)) := by
  have hn := w.2.1
  obtain ⟨q1, q2⟩ := min_up w h hx hM
  refine ⟨szq M (min x (mtn M x)), ?_, by unfold pbq; rw [if_neg hM], rfl⟩
  have h1 := szq_mono M (a := min x (mtn M x) + 1) (b := n) (by omega)
  rw [szq_succ, if_pos q2] at h1
  have := szq_half w h
  omega
theorem szq_inj {M : Nat → Int32} {a b : Nat} (ha : nI a < M a) (hb : nI b < M b) (h : szq M a = szq M b) : a = b := by
  rcases Nat.lt_trichotomy a b with q | q | q
  · have := szq_mono M (a := a + 1) (b := b) (by omega)
    rw [szq_succ, if_pos ha] at this; omega
  · exact q
  · have := szq_mono M (a := b + 1) (b := a) (by omega)
    rw [szq_succ, if_pos hb] at this; omega
theorem pbq_same {n : Nat} {A M : Nat → Int32} (w : GW n A) (h : MW n A M) {x y : Nat} (hx : x < 12) (hy : y < 12) (hM : M x ≠ -1) (hN : M y ≠ -1) : szq M (min x (mtn M x)) = szq M (min y (mtn M y)) ↔ y = x ∨ y = mtn M x := by
  obtain ⟨b1, b2⟩ := h.back w hx hM
  obtain ⟨c1, c2⟩ := h.back w hy hN
  have b3 := h.ne w hx hM
  have c3 := h.ne w hy hN
  constructor
  · intro e
    have := szq_inj (min_up w h hx hM).2 (min_up w h hy hN).2 e
    by_cases q : y = x
    · exact Or.inl q
    · right
      rcases Nat.lt_or_ge x (mtn M x) with q1 | q1
      · rcases Nat.lt_or_ge y (mtn M y) with q2 | q2
        · rw [Nat.min_eq_left (by omega), Nat.min_eq_left (by omega)] at this; omega
        · rw [Nat.min_eq_left (by omega), Nat.min_eq_right (by omega)] at this; rw [this]; exact c2.symm
      · rcases Nat.lt_or_ge y (mtn M y) with q2 | q2
        · rw [Nat.min_eq_right (by omega), Nat.min_eq_left (by omega)] at this; exact this.symm
        · rw [Nat.min_eq_right (by omega), Nat.min_eq_right (by omega)] at this; rw [this, c2] at b2; exact absurd b2 q
  · rintro (e | e)
    · rw [e]
    · rw [e, b2, Nat.min_comm]
theorem sg_shl : ∀ c, c < 20 → sg c <<< ((1 : Int32) &&& 31) = sg (c + 1) := by decide +kernel
/-- the pairs' bits stand at cell 19 -/
def PBs (n : Nat) (M : Nat → Int32) (σ : WD) : Prop := ∀ x, x < n → σ.1 19 x = pbq M x
theorem numberPairs_eq {n : Nat} {A M : Nat → Int32} {σ : WD} (w : GW n A) (hG : GC n A σ) (h : MW n A M) (hC : CM M σ) : ∃ τ, f_X5_numberPairs σ = some τ ∧ Fr [19] σ τ ∧ PBs n M τ := by
  have hn := w.2.1
  unfold f_X5_numberPairs f_X5_numberPairs_4
  obtain ⟨s', ⟨τ, hs', hf, hp⟩, el⟩ := lp_inv (f := fun s : Int32 × Int32 × WD => f_X5_numberPairs_b4 s.1 s.2.1 s.2.2) (fun k s => ∃ τ, s = (sg (szq M k), nI k, τ) ∧ Fr [19] σ τ ∧ ∀ x, x < n → (M x = -1 → x < k → τ.1 19 x = 0) ∧ (M x ≠ -1 → min x (mtn M x) < k → τ.1 19 x = pbq M x)) (a := 0) (b := n) (Nat.zero_le _) (s := (1, 0, σ)) ⟨σ, by show _ = (sg 0, nI 0, σ); rfl, Fr.rf _ _, fun x hx => ⟨fun _ q => by omega, fun _ q => by omega⟩⟩ (fun k s _ hk hs => by
    obtain ⟨τ, rfl, hf, hp⟩ := hs
    have hGt := hG.fr hf (by decide) (by decide)
    have hCt := hC.fr hf (by decide)
    dsimp only
    unfold f_X5_numberPairs_b4
    rw [hGt.1, if_neg (nI_ge hk (by omega)), gi12 (by omega), nI_clamp (by omega), hCt k (by omega), li_eq]
    by_cases h1 : M k = -1
    · rw [if_pos h1, gi12 (by omega), lt_eq, nI_1]
      refine ⟨_, rfl, upi τ 19 k 0, ?_, hf.upi (by decide) _ _, fun x hx => ⟨fun q1 q2 => ?_, fun q1 q2 => ?_⟩⟩
      · rw [szq_succ, h1, if_neg (not_lt_m1 (by omega))]; rfl
      · rw [upi_get, if_pos rfl, upd_get]
        split
        · rfl
        · exact (hp x hx).1 q1 (by omega)
      · have hne : x ≠ k := fun e => by rw [e] at q1; exact q1 h1
        have hne2 : mtn M x ≠ k := fun e => by
          have := (h.back w (show x < 12 by omega) q1).1
          rw [e] at this; exact this h1
        rw [upi_get, if_pos rfl, upd_get, if_neg hne]
        exact (hp x hx).2 q1 (by omega)
    · rw [if_neg h1]
      obtain ⟨a, b, c, d, e⟩ := h.mat (show k < 12 by omega) h1
      obtain ⟨b1, b2⟩ := h.back w (show k < 12 by omega) h1
      have b3 := h.ne w (show k < 12 by omega) h1
      by_cases hup : nI k < M k
      · obtain ⟨u1, u2⟩ := (up_iff w h (show k < 12 by omega)).mp hup
        have hz : szq M k < 6 := by
          have h2 := szq_mono M (a := k + 1) (b := n) (by omega)
          rw [szq_succ, if_pos hup] at h2
          have := szq_half w h
          omega
        rw [if_neg (i_not_le.mpr hup), gi12 (by omega), lt_eq, c, gi12 (by omega), nI_clamp (by omega), lt_eq, sg_shl _ (by omega), li_eq, nI_1]
        refine ⟨_, rfl, upi (upi τ 19 k (sg (szq M k))) 19 (mtn M k) (sg (szq M k)), ?_, (hf.upi (by decide) _ _).upi (by decide) _ _, fun x hx => ⟨fun q1 q2 => ?_, fun q1 q2 => ?_⟩⟩
        · rw [szq_succ, if_pos hup]
        · have e1 : x ≠ k := fun e => by rw [e] at q1; exact h1 q1
          have e2 : x ≠ mtn M k := fun e => by rw [e] at q1; exact b1 q1
          simp only [upi_get, if_true, upd_get, if_neg e1, if_neg e2]
          exact (hp x hx).1 q1 (by omega)
        · simp only [upi_get, if_true, upd_get]
          by_cases e2 : x = mtn M k
          · rw [if_pos e2]
            unfold pbq
            rw [if_neg q1, e2, b2, Nat.min_eq_right (by omega)]
          · rw [if_neg e2]
            by_cases e1 : x = k
            · rw [if_pos e1]
              unfold pbq
              rw [if_neg q1, e1, Nat.min_eq_left (by omega)]
            · rw [if_neg e1]
              refine (hp x hx).2 q1 ?_
              rcases Nat.lt_or_ge (min x (mtn M x)) k with q | q
              · exact q
              · exfalso
                have : mtn M x = k := by omega
                have b4 := (h.back w (show x < 12 by omega) q1).2
                rw [this] at b4
                exact e2 b4.symm
      · rw [if_pos (Classical.not_not.mp (fun r => hup (i_not_le.mp r))), nI_1]
        refine ⟨_, rfl, τ, ?_, hf, fun x hx => ⟨fun q1 q2 => ?_, fun q1 q2 => ?_⟩⟩
        · rw [szq_succ, if_neg hup]; rfl
        · refine (hp x hx).1 q1 ?_
          have : x ≠ k := fun e => by rw [e] at q1; exact h1 q1
          omega
        · refine (hp x hx).2 q1 ?_
          rcases Nat.lt_or_ge (min x (mtn M x)) k with q | q
          · exact q
          · exfalso
            have hm := (min_up w h (show x < 12 by omega) q1).2
            rw [show min x (mtn M x) = k by omega] at hm
            exact hup hm)
  rw [el, hs']
  refine ⟨τ, lp_end ?_, hf, fun x hx => ?_⟩
  · dsimp only
    unfold f_X5_numberPairs_b4
    rw [(hG.fr hf (by decide) (by decide)).1, if_pos (nI_le (Nat.le_refl n) (by omega))]
  · by_cases q : M x = -1
    · rw [(hp x hx).1 q hx]
      unfold pbq
      rw [if_pos q]
    · exact (hp x hx).2 q (min_up w h (show x < 12 by omega) q).1
