-- ===== the reference's components; counts of pieces =====
theorem pcn_sub {S T : Int32} (h : ∀ i, bt S i = true → bt T i = true) : pcn T = pcn S + pcn (dif T S) := by
  have e : T &&& S = S := s_ext (fun i => by rw [m_an]; exact ⟨fun q => q.2, fun q => ⟨h i q, q⟩⟩)
  have := pcn_split T S
  rw [e] at this
  exact this
theorem pcn_grow {S T : Int32} (hT : Bd 12 T) (h : ∀ i, bt S i = true → bt T i = true) (hne : T ≠ S) : pcn S < pcn T := by
  have e := pcn_sub h
  rcases Nat.eq_zero_or_pos (pcn (dif T S)) with h0 | h0
  · exfalso
    apply hne
    refine s_ext (fun i => ⟨fun q => ?_, h i⟩)
    cases r : bt S i
    · have hi := b_lt hT q
      have := pcn_cl hi (m_dif.mpr ⟨q, r⟩ : bt (dif T S) i = true)
      omega
    · rfl
  · omega
/-- one pass of the reference -/
def pas (A : Nat → Int32) (W S : Int32) : Nat → Int32
  | 0 => S
  | t + 1 => if bt (pas A W S t) t = true then pas A W S t ||| (A t &&& W) else pas A W S t
theorem pas_succ (A : Nat → Int32) (W S : Int32) (t : Nat) : pas A W S (t + 1) = if bt (pas A W S t) t = true then pas A W S t ||| (A t &&& W) else pas A W S t := rfl
theorem pas_up {A : Nat → Int32} {W S : Int32} {a : Nat} : ∀ {b : Nat}, a ≤ b → ∀ i, bt (pas A W S a) i = true → bt (pas A W S b) i = true
  | 0, h, i, hb => by rw [show a = 0 by omega] at hb; exact hb
  | b + 1, h, i, hb => by
    by_cases e : a = b + 1
    · rw [← e]; exact hb
    · have := pas_up (b := b) (show a ≤ b by omega) i hb
      rw [pas_succ]
      split
      · rw [m_or]; exact Or.inl this
      · exact this
theorem pas_bd {n : Nat} {A : Nat → Int32} {W S : Int32} (hW : Bd n W) (hS : Bd n S) : ∀ t, Bd n (pas A W S t)
  | 0 => hS
  | t + 1 => by
    rw [pas_succ]
    split
    · exact (pas_bd hW hS t).or (hW.and_right _)
    · exact pas_bd hW hS t
theorem pas_rc {A : Nat → Int32} {W S : Int32} {v : Nat} (h : ∀ i, bt S i = true → RC A W v i) : ∀ t i, bt (pas A W S t) i = true → RC A W v i
  | 0, i, hb => h i hb
  | t + 1, i, hb => by
    rw [pas_succ] at hb
    split at hb
    · rename_i hw
      rw [m_or, m_an] at hb
      rcases hb with hb | hb
      · exact pas_rc h t i hb
      · exact RC.go (pas_rc h t t hw) hb.1 hb.2
    · exact pas_rc h t i hb
theorem pas_fix {n : Nat} {A : Nat → Int32} {W S : Int32} (h : pas A W S n = S) {u x : Nat} (hu : u < n) (hb : bt S u = true) (hA : bt (A u) x = true) (hx : bt W x = true) : bt S x = true := by
  have h1 : bt (pas A W S u) u = true := pas_up (Nat.zero_le u) u hb
  have h2 : bt (pas A W S (u + 1)) x = true := by rw [pas_succ, if_pos h1, m_or, m_an]; exact Or.inr ⟨hA, hx⟩
  rw [← h]
  exact pas_up (show u + 1 ≤ n by omega) x h2
theorem componentOf_eq {n : Nat} {A : Nat → Int32} {σ : WD} (w : GW n A) (hG : GR n A σ) {W : Int32} (hW : Bd n W) {v : Nat} (hv : v < n) : ∃ S, f_X7_componentOf (nI v) W σ = some S ∧ IsC n A W v S := by
  have hn := w.2.1
  unfold f_X7_componentOf f_X7_componentOf_7
  rw [li_eq, sg_eq]
  have inner : ∀ S, Bd n S → f_X7_componentOf_19 W S S 0 σ = some (.inl (pas A W S n, S)) := by
    intro S hS
    unfold f_X7_componentOf_19
    refine lp_for (fun i => (pas A W S i, nI i)) (a := 0) (b := n) (Nat.zero_le _) (fun i _ hi => ?_) ?_
    · show f_X7_componentOf_b19 _ _ _ _ _ = _
      unfold f_X7_componentOf_b19
      rw [hG.1, if_neg (nI_ge hi (by omega)), has_eq (by omega), bv_eq, pas_succ]
      unfold f_X7_componentOf_51
      by_cases hb : bt (pas A W S i) i = true
      · rw [if_pos hb, if_pos hb, if_neg (by decide), gi12 (by omega), nI_clamp (by omega), hG.2 i (by omega), nI_1]
      · rw [if_neg hb, if_neg hb, if_pos rfl, nI_1, Int32.or_zero]
    · show f_X7_componentOf_b19 _ _ _ _ _ = _
      unfold f_X7_componentOf_b19
      rw [hG.1, if_pos (nI_le (Nat.le_refl n) (by omega))]
  have key : ∀ d S B, 12 - pcn S < d → Bd n S → bt S v = true → (∀ i, bt S i = true → RC A W v i) → (S = B → pas A W S n = S) → ∃ R, lp (fun s : Int32 × Int32 => f_X7_componentOf_b7 W s.1 s.2 σ) (S, B) = some R ∧ IsC n A W v R := by
    intro d
    induction d with
    | zero => intro S B h; omega
    | succ d ih =>
      intro S B hd hS hvS hr hB
      have fin : pas A W S n = S → IsC n A W v S := fun hp => ⟨hS, fun i hi => ⟨hr i, fun q => RC.closed hvS (fun u x hu hA hx => pas_fix hp (b_lt hS hu) hu hA hx) q⟩⟩
      by_cases e : S = B
      · refine ⟨S, lp_end ?_, fin (hB e)⟩
        dsimp only
        unfold f_X7_componentOf_b7
        rw [if_pos e]
      · have go : lp (fun s : Int32 × Int32 => f_X7_componentOf_b7 W s.1 s.2 σ) (S, B) = lp (fun s : Int32 × Int32 => f_X7_componentOf_b7 W s.1 s.2 σ) (pas A W S n, S) := by
          refine lp_go ?_
          dsimp only
          unfold f_X7_componentOf_b7
          rw [if_neg e, inner S hS]
        rw [go]
        by_cases e2 : pas A W S n = S
        · refine ⟨S, lp_end ?_, fin e2⟩
          dsimp only
          unfold f_X7_componentOf_b7
          rw [if_pos e2, e2]
        · have hg : pcn S < pcn (pas A W S n) := pcn_grow ((pas_bd (A := A) hW hS n).mono hn) (fun i => pas_up (a := 0) (Nat.zero_le n) i) e2
          have hle := pcn_le (n := 12) (Nat.le_refl _) ((pas_bd (A := A) hW hS n).mono hn)
          exact ih _ _ (by omega) (pas_bd hW hS n) (pas_up (Nat.zero_le n) v hvS) (pas_rc hr n) (fun q => absurd q e2)
  refine key 13 (sg v) 0 (by omega) (Bd.sg hv (by omega)) (by rw [b_sg (by omega) (by omega)]; simp) (fun i hi => ?_) (fun q => ?_)
  · rw [b_sg (by omega) (lt32 hi)] at hi
    simp only [decide_eq_true_eq] at hi
    subst hi; exact RC.here _ _ _
  · exfalso
    have : bt (sg v) v = true := by rw [b_sg (by omega) (by omega)]; simp
    rw [q, b_0] at this
    cases this
/-- the piece of v inside W -/
noncomputable def cmp (n : Nat) (A : Nat → Int32) (W : Int32) (v : Nat) : Int32 := Classical.epsilon (fun S => IsC n A W v S)
theorem cmp_spec {n : Nat} {A : Nat → Int32} {W : Int32} {v : Nat} (w : GW n A) (hW : Bd n W) (hv : v < n) : IsC n A W v (cmp n A W v) := by
  have hG : GC n A ((fun c => if c = 1 then fun _ => nI n else A), 0, 0) := ⟨rfl, fun i hi => rfl⟩
  obtain ⟨S, -, h⟩ := pieceOf_eq w hG hW hv
  exact Classical.epsilon_spec (p := fun S => IsC n A W v S) ⟨S, h⟩
theorem pieceOf_cmp {n : Nat} {A : Nat → Int32} {σ : WD} (w : GW n A) (hG : GC n A σ) {W : Int32} (hW : Bd n W) {v : Nat} (hv : v < n) : f_X0_pieceOf (nI v) W σ = some (cmp n A W v) := by
  obtain ⟨S, e, h⟩ := pieceOf_eq w hG hW hv
  rw [e, h.uniq (cmp_spec w hW hv)]
theorem componentOf_cmp {n : Nat} {A : Nat → Int32} {σ : WD} (w : GW n A) (hG : GR n A σ) {W : Int32} (hW : Bd n W) {v : Nat} (hv : v < n) : f_X7_componentOf (nI v) W σ = some (cmp n A W v) := by
  obtain ⟨S, e, h⟩ := componentOf_eq w hG hW hv
  rw [e, h.uniq (cmp_spec w hW hv)]
theorem cmp_self {n : Nat} {A : Nat → Int32} {W : Int32} {v : Nat} (w : GW n A) (hW : Bd n W) (hv : v < n) : bt (cmp n A W v) v = true := ((cmp_spec w hW hv).2 v hv).mpr (RC.here _ _ _)
/-- nodes left and pieces counted before node t -/
noncomputable def pcs (n : Nat) (A : Nat → Int32) (W o : Int32) : Nat → Int32 × Nat
  | 0 => (W, 0)
  | t + 1 => if bt (pcs n A W o t).1 t = true then (dif (pcs n A W o t).1 (cmp n A W t), (pcs n A W o t).2 + if o = 0 then 1 else pcn (cmp n A W t) % 2) else pcs n A W o t
theorem pcs_succ (n : Nat) (A : Nat → Int32) (W o : Int32) (t : Nat) : pcs n A W o (t + 1) = if bt (pcs n A W o t).1 t = true then (dif (pcs n A W o t).1 (cmp n A W t), (pcs n A W o t).2 + if o = 0 then 1 else pcn (cmp n A W t) % 2) else pcs n A W o t := rfl
theorem odd_a : ∀ k, k < 13 → nI k &&& 1 = nI (k % 2) := by decide +kernel
theorem odd_b : ∀ k, k < 13 → (nI k - nI k / 2 * 2 = 1 ↔ k % 2 = 1) := by decide +kernel
theorem pieces_eq {n : Nat} {A : Nat → Int32} {σ : WD} (w : GW n A) (hG : GC n A σ) {W : Int32} (hW : Bd n W) (o : Int32) : f_X0_pieces W o σ = some (nI (pcs n A W o n).2) := by
  have hn := w.2.1
  unfold f_X0_pieces f_X0_pieces_8
  refine lp_for (fun i => ((pcs n A W o i).1, nI (pcs n A W o i).2, nI i)) (a := 0) (b := n) (Nat.zero_le _) (fun i _ hi => ?_) ?_
  · show f_X0_pieces_b8 _ _ _ _ _ _ = _
    unfold f_X0_pieces_b8
    rw [hG.1, if_neg (nI_ge hi (by omega)), pcs_succ]
    by_cases hb : bt (pcs n A W o i).1 i = true
    · rw [if_neg (fun q => by rw [tb_zero (by omega), hb] at q; cases q), if_pos hb, pieceOf_cmp w hG hW hi, bv_eq, dif_eq, li_eq]
      have hC := (cmp_spec w hW hi).1
      have hc := pcn_le hn hC
      by_cases ho : o = 0
      · rw [if_pos ho, if_pos ho, nI_1, nI_1]
      · rw [if_neg ho, if_neg ho, bitCount_eq (hC.mono hn), bv_eq, odd_a _ (by omega), nI_add, li_eq, nI_1]
    · rw [if_pos ((tb_zero (by omega)).mpr (by simpa using hb)), if_neg hb, nI_1]
  · show f_X0_pieces_b8 _ _ _ _ _ _ = _
    unfold f_X0_pieces_b8
    rw [hG.1, if_pos (nI_le (Nat.le_refl n) (by omega))]
theorem componentsOf_eq {n : Nat} {A : Nat → Int32} {σ : WD} (w : GW n A) (hG : GR n A σ) {W : Int32} (hW : Bd n W) (o : Int32) : f_X7_componentsOf W o σ = some (nI (pcs n A W o n).2) := by
  have hn := w.2.1
  unfold f_X7_componentsOf f_X7_componentsOf_8
  refine lp_for (fun i => ((pcs n A W o i).1, nI (pcs n A W o i).2, nI i)) (a := 0) (b := n) (Nat.zero_le _) (fun i _ hi => ?_) ?_
  · show f_X7_componentsOf_b8 _ _ _ _ _ _ = _
    unfold f_X7_componentsOf_b8
    rw [hG.1, if_neg (nI_ge hi (by omega)), pcs_succ, has_eq (by omega), bv_eq]
    by_cases hb : bt (pcs n A W o i).1 i = true
    · rw [if_pos hb, if_pos hb, if_neg (by decide), componentOf_cmp w hG hW hi, bv_eq, dif_eq, li_eq]
      have hC := (cmp_spec w hW hi).1
      have hc := pcn_le hn hC
      by_cases ho : o = 0
      · rw [if_pos ho, if_pos ho, nI_1, nI_1]
      · rw [if_neg ho, if_neg ho, bits_eq, bv_eq, gz2]
        by_cases hd : pcn (cmp n A W i) % 2 = 1
        · rw [if_pos ((odd_b _ (by omega)).mpr hd), hd, nI_1, nI_1]
        · rw [if_neg (fun q => hd ((odd_b _ (by omega)).mp q)), show pcn (cmp n A W i) % 2 = 0 by omega, nI_1, Int32.add_zero]; rfl
    · rw [if_neg hb, if_neg hb, if_pos rfl, nI_1]
  · show f_X7_componentsOf_b8 _ _ _ _ _ _ = _
    unfold f_X7_componentsOf_b8
    rw [hG.1, if_pos (nI_le (Nat.le_refl n) (by omega))]
theorem cmp_ne0 {n : Nat} {A : Nat → Int32} {W : Int32} {v : Nat} (w : GW n A) (hW : Bd n W) (hv : v < n) : cmp n A W v ≠ 0 := fun q => by
  have := cmp_self w hW hv
  rw [q, b_0] at this
  cases this
theorem x_lowest_eq {n : Nat} {A : Nat → Int32} {σ : WD} (w : GW n A) (hG : GR n A σ) {v : Nat} (hv : v < n) : f_X7_lowest (nI v) σ = some (nI (lwn (cmp n A (al n) v))) := by
  have hn := w.2.1
  have hal : Bd n (al n) := Bd.al (by omega)
  unfold f_X7_lowest
  rw [hG.al, bv_eq, componentOf_cmp w hG hal hv, bv_eq]
  obtain ⟨l1, l2, l3⟩ := lwn_spec ((cmp_spec w hal hv).1.mono hn) (cmp_ne0 w hal hv)
  unfold f_X7_lowest_12
  refine lp_for (fun i => nI i) (a := 0) (b := lwn (cmp n A (al n) v)) (Nat.zero_le _) (fun i _ hi => ?_) ?_
  · show f_X7_lowest_b12 _ _ _ = _
    unfold f_X7_lowest_b12
    rw [has_eq (by omega), bv_eq, l3 i hi, if_pos (by decide), nI_1]
  · show f_X7_lowest_b12 _ _ _ = _
    unfold f_X7_lowest_b12
    rw [has_eq (by omega), bv_eq, l2, if_neg (by decide)]
