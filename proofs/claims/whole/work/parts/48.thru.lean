-- ===== the reference's search =====
theorem m_sg {X : Int32} {q x : Nat} (hq : q < 32) : bt (X ||| sg q) x = true ↔ bt X x = true ∨ x = q := by
  rw [m_or]
  constructor
  · rintro (h | h)
    · exact Or.inl h
    · rw [b_sg hq (lt32 h)] at h
      simp only [decide_eq_true_eq] at h
      exact Or.inr h
  · rintro (h | h)
    · exact Or.inl h
    · subst h; right; rw [b_sg hq hq]; simp
theorem step_eq {n : Nat} {A : Nat → Int32} {σ : WD} (w : GW n A) (hG : GR n A σ) {e : Nat} (he : e < n) (U : Int32) {k : Nat} (hk : k ≤ n) : (f_X7_step (nI e) U (nI k) σ = some (-1) ∧ ∀ i, k ≤ i → i < n → ¬ (bt (A e) i = true ∧ bt U i = false)) ∨ ∃ q, k ≤ q ∧ q < n ∧ f_X7_step (nI e) U (nI k) σ = some (nI q) ∧ (bt (A e) q = true ∧ bt U q = false) ∧ ∀ i, k ≤ i → i < q → ¬ (bt (A e) i = true ∧ bt U i = false) := by
  have hn := w.2.1
  have go : ∀ i, i < n → ¬ (bt (A e) i = true ∧ bt U i = false) → f_X7_step_b3 (nI e) U (nI i) σ = some (.inl (nI (i + 1))) := by
    intro i hi hno
    unfold f_X7_step_b3
    rw [hG.1, if_neg (nI_ge hi (by omega)), gi12 (by omega), nI_clamp (by omega), hG.2 e (by omega), has_eq (by omega), bv_eq, has_eq (by omega), bv_eq, nI_1]
    by_cases hA : bt (A e) i = true
    · rw [if_pos hA, if_neg (by decide)]
      have hU : bt U i = true := by
        cases q : bt U i
        · exact absurd ⟨hA, q⟩ hno
        · rfl
      rw [if_pos hU, if_neg (by decide)]
    · rw [if_neg hA, if_pos rfl]
  unfold f_X7_step f_X7_step_3
  rcases first_not (fun i => ¬ (bt (A e) (k + i) = true ∧ bt U (k + i) = false)) (n - k) with hall | ⟨m, m1, m2, m3⟩
  · left
    have hall2 : ∀ i, k ≤ i → i < n → ¬ (bt (A e) i = true ∧ bt U i = false) := fun i h1 h2 => by
      have := hall (i - k) (by omega)
      rw [show k + (i - k) = i by omega] at this
      exact this
    refine ⟨?_, hall2⟩
    refine lp_for (fun i => nI i) (a := k) (b := n) hk (fun i h1 h2 => ?_) ?_
    · exact go i h2 (hall2 i h1 h2)
    · show f_X7_step_b3 _ _ _ _ = _
      unfold f_X7_step_b3 f_X7_step_41
      rw [hG.1, if_pos (nI_le (Nat.le_refl n) (by omega)), if_pos (nI_le (Nat.le_refl n) (by omega)), mr_eq]
  · right
    have m2 := Classical.not_not.mp m2
    have m32 : ∀ i, k ≤ i → i < k + m → ¬ (bt (A e) i = true ∧ bt U i = false) := fun i h1 h2 => by
      have := m3 (i - k) (by omega)
      rw [show k + (i - k) = i by omega] at this
      exact this
    refine ⟨k + m, by omega, by omega, ?_, m2, m32⟩
    refine lp_for (fun i => nI i) (a := k) (b := k + m) (by omega) (fun i h1 h2 => ?_) ?_
    · exact go i (by omega) (m32 i h1 h2)
    · show f_X7_step_b3 _ _ _ _ = _
      unfold f_X7_step_b3 f_X7_step_41
      rw [hG.1, if_neg (nI_ge (by omega) (by omega)), if_neg (nI_ge (by omega) (by omega)), gi12 (by omega), nI_clamp (by omega), hG.2 e (by omega), has_eq (by omega), bv_eq, if_pos m2.1, if_neg (by decide), has_eq (by omega), bv_eq, m2.2, if_pos (by decide), mr_eq]
/-- what the search reaches from the end e, nodes from k on first -/
def RO (n : Nat) (A M : Nat → Int32) : Nat → Int32 → Nat → Nat → Nat → Prop
  | 0, _, _, _, _ => False
  | d + 1, U, e, k, x => ∃ w, k ≤ w ∧ w < n ∧ (bt (A e) w = true ∧ bt U w = false) ∧ (x = w ∨ (M w ≠ -1 ∧ RO n A M d (U ||| (sg w ||| sg (mtn M w))) (mtn M w) 0 x))
def RE (n : Nat) (A M : Nat → Int32) : Nat → Int32 → Nat → Nat → Nat → Prop
  | 0, _, _, _, _ => False
  | d + 1, U, e, k, x => ∃ w, k ≤ w ∧ w < n ∧ (bt (A e) w = true ∧ bt U w = false) ∧ M w ≠ -1 ∧ (x = mtn M w ∨ RE n A M d (U ||| (sg w ||| sg (mtn M w))) (mtn M w) 0 x)
def HF (σ τ : WD) : Prop := Fr [29, 37, 38] σ τ ∧ ∀ c, c ≠ 13 → c ≠ 14 → τ.1 29 c = σ.1 29 c
theorem HF.rf (σ : WD) : HF σ σ := ⟨Fr.rf _ _, fun _ _ _ => rfl⟩
theorem HF.tr {σ τ υ : WD} (h : HF σ τ) (h2 : HF τ υ) : HF σ υ := ⟨h.1.tr h2.1, fun c a b => (h2.2 c a b).trans (h.2 c a b)⟩
theorem HF.gr {n : Nat} {A : Nat → Int32} {σ τ : WD} (h : HF σ τ) (hG : GR n A σ) : GR n A τ := ⟨by rw [h.2 1 (by decide) (by decide)]; exact hG.1, fun i hi => by rw [h.1.1 30 (by decide)]; exact hG.2 i hi⟩
theorem HF.c37 {σ τ : WD} (h : HF σ τ) (j : Nat) (v : Int32) : HF σ (upi τ 37 j v) := ⟨h.1.upi (by decide) _ _, fun c a b => by rw [upi_get, if_neg (by decide)]; exact h.2 c a b⟩
theorem HF.c38 {σ τ : WD} (h : HF σ τ) (j : Nat) (v : Int32) : HF σ (upi τ 38 j v) := ⟨h.1.upi (by decide) _ _, fun c a b => by rw [upi_get, if_neg (by decide)]; exact h.2 c a b⟩
theorem HF.c13 {σ τ : WD} (h : HF σ τ) (v : Int32) : HF σ (upi τ 29 13 v) := ⟨h.1.upi (by decide) _ _, fun c a b => by rw [upi_get, if_pos rfl, upd_get, if_neg a]; exact h.2 c a b⟩
theorem HF.c14 {σ τ : WD} (h : HF σ τ) (v : Int32) : HF σ (upi τ 29 14 v) := ⟨h.1.upi (by decide) _ _, fun c a b => by rw [upi_get, if_pos rfl, upd_get, if_neg b]; exact h.2 c a b⟩
def popU (j : Nat) (U : Int32) (e e' : Nat) : Int32 := if j = 0 then U else U &&& ((sg e ^^^ (-1)) &&& (sg e' ^^^ (-1)))
theorem popU_eq {U : Int32} {q m : Nat} (hq : q < 32) (hm : m < 32) (h1 : bt U q = false) (h2 : bt U m = false) (j : Nat) : popU (j + 1) (U ||| (sg q ||| sg m)) m q = U := by
  unfold popU
  rw [if_neg (by omega)]
  refine s_ext (fun i => ?_)
  rcases Nat.lt_or_ge i 32 with hi | hi
  · rw [b_and, b_two hq hm hi, b_and, b_not hi, b_not hi, b_sg hm hi, b_sg hq hi]
    by_cases e1 : i = q
    · subst e1; simp [h1]
    · by_cases e2 : i = m
      · subst e2; simp [h2]
      · simp [e1, e2]
  · rw [b_big hi, b_big hi]
theorem goThrough_at {n : Nat} {A M : Nat → Int32} (w : GW n A) (h : MW n A M) {T : Nat} (hT : T ≤ 6) : ∀ (d j : Nat) (U : Int32) (e e' : Nat), d + j = T + 1 → e < n → e' < n → UV n M U → pcn U = 2 * j + 1 → ∀ (c k : Nat) (σ : WD), n - k = c → k ≤ n → GR n A σ → RM M σ → σ.1 37 (2 * j) = nI e → σ.1 38 (2 * j) = nI k → (1 ≤ j → σ.1 37 (2 * j - 1) = nI e') → (∀ i, i < k → wg n A M (d - 1) U e i = none) →
    (∃ p τ, wz n A M d U e = some p ∧ lp (fun s : Int32 × Int32 × WD => f_X7_goThrough_b33 (nI (2 * T + 1)) s.1 s.2.1 s.2.2) (nI (2 * j), U, σ) = some (1, τ) ∧ HF σ τ ∧ (∀ i, i ≤ 2 * j → τ.1 37 i = σ.1 37 i) ∧ ∀ i, i < p.length → τ.1 37 (2 * j + 1 + i) = nI (p.getD i 0)) ∨
    (wz n A M d U e = none ∧ ∃ τ, lp (fun s : Int32 × Int32 × WD => f_X7_goThrough_b33 (nI (2 * T + 1)) s.1 s.2.1 s.2.2) (nI (2 * j), U, σ) = lp (fun s : Int32 × Int32 × WD => f_X7_goThrough_b33 (nI (2 * T + 1)) s.1 s.2.1 s.2.2) (nI (2 * j) + (-2), popU j U e e', τ) ∧ HF σ τ ∧ (∀ i, i ≤ 2 * j → τ.1 37 i = σ.1 37 i) ∧ (∀ i, i < 2 * j → τ.1 38 i = σ.1 38 i) ∧ (∀ x, bt (τ.1 29 13) x = true ↔ bt (σ.1 29 13) x = true ∨ RO n A M d U e k x) ∧ ∀ x, bt (τ.1 29 14) x = true ↔ bt (σ.1 29 14) x = true ∨ RE n A M d U e k x) := by
  have hn := w.2.1
  -- the end of a level
  have pop : ∀ (j : Nat) (U : Int32) (e e' : Nat) (σ : WD), j ≤ 6 → σ.1 37 (2 * j) = nI e → (1 ≤ j → σ.1 37 (2 * j - 1) = nI e') → f_X7_goThrough_66 (nI (2 * T + 1)) (nI (2 * j)) U (-1) σ = some (.inl (nI (2 * j) + (-2), popU j U e e', σ)) := by
    intro j U e e' σ hj h1 h2
    unfold f_X7_goThrough_66 f_X7_goThrough_108
    rw [if_pos rfl]
    unfold popU
    by_cases hj0 : j = 0
    · subst hj0
      rw [if_pos (by decide), if_pos rfl, Int32.and_self]
    · obtain ⟨i, hi⟩ : ∃ i, 2 * j = i + 1 := ⟨2 * j - 1, by omega⟩
      have h3 := h2 (by omega)
      rw [show 2 * j - 1 = i by omega] at h3
      rw [hi] at h1 ⊢
      rw [if_neg (nI_nle (by omega) (by omega)), if_neg hj0, gi_in (by omega) (by decide), nI_pred, gi_in (by omega) (by decide), nI_clamp (by omega), nI_clamp (by omega), h1, h3, sg_eq, sg_eq]
  intro d
  induction d with
  | zero =>
    intro j U e e' hdj he he' hU hc c k σ _ _ hG hR h37 h38 h37' _
    have hj6 : j ≤ 6 := by
      have := pcn_le hn hU.1; omega
    refine Or.inr ⟨rfl, σ, lp_go ?_, HF.rf σ, fun _ _ => rfl, fun _ _ => rfl, fun x => ⟨Or.inl, fun q => q.elim id False.elim⟩, fun x => ⟨Or.inl, fun q => q.elim id False.elim⟩⟩
    dsimp only
    unfold f_X7_goThrough_b33
    rw [if_neg (nI_pos (by omega)), nI_1, if_pos (nI_lt (by omega) (by omega)), pop j U e e' σ hj6 h37 h37']
  | succ d ih =>
    intro j U e e' hdj he he' hU hc c
    have hpl := pcn_le hn hU.1
    have hj5 : j ≤ 5 := by omega
    induction c using Nat.strongRecOn with
    | _ c ihc =>
    intro k σ hck hk hG hR h37 h38 h37' hbef
    have hb33 : f_X7_goThrough_b33 (nI (2 * T + 1)) (nI (2 * j)) U σ = bv (f_X7_step (nI e) U (nI k) σ) (fun r59 => f_X7_goThrough_66 (nI (2 * T + 1)) (nI (2 * j)) U r59 σ) := by
      unfold f_X7_goThrough_b33
      rw [if_neg (nI_pos (by omega)), nI_1, if_neg (nI_nlt (by omega) (by omega)), gi_in (by omega) (by decide), gi_in (by omega) (by decide), nI_clamp (by omega), h37, h38]
    have nocond : ∀ i, ¬ (bt (A e) i = true ∧ bt U i = false) → wg n A M d U e i = none := fun i hi => by unfold wg; rw [if_neg hi]
    rcases step_eq w hG he U hk with ⟨s1, s2⟩ | ⟨q, q1, q2, s1, hcond, s2⟩
    · right
      refine ⟨?_, σ, lp_go ?_, HF.rf σ, fun _ _ => rfl, fun _ _ => rfl, fun x => ⟨Or.inl, fun q => ?_⟩, fun x => ⟨Or.inl, fun q => ?_⟩⟩
      · rw [wz_succ]
        refine fsm_none (fun i hi => ?_)
        rcases Nat.lt_or_ge i k with g | g
        · exact hbef i g
        · exact nocond i (s2 i g hi)
      · dsimp only
        rw [hb33, s1, bv_eq, pop j U e e' σ (by omega) h37 h37']
      · rcases q with q | ⟨v, v1, v2, v3, -⟩
        · exact q
        · exact absurd v3 (s2 v v1 v2)
      · rcases q with q | ⟨v, v1, v2, v3, -⟩
        · exact q
        · exact absurd v3 (s2 v v1 v2)
    · -- the node q is next
      obtain ⟨σa, hσa⟩ : ∃ s, s = upi (upi (upi σ 38 (2 * j) (nI (q + 1))) 29 13 (σ.1 29 13 ||| sg q)) 37 (2 * j + 1) (nI q) := ⟨_, rfl⟩
      have ha : HF σ σa := by rw [hσa]; exact (((HF.rf σ).c38 _ _).c13 _).c37 _ _
      have a37 : ∀ i, i ≤ 2 * j → σa.1 37 i = σ.1 37 i := fun i hi => by
        rw [hσa, upi_get, if_pos rfl, upd_get, if_neg (by omega), upi_get, if_neg (by decide), upi_get, if_neg (by decide)]
      have a37n : σa.1 37 (2 * j + 1) = nI q := by rw [hσa, upi_get, if_pos rfl, upd_get, if_pos rfl]
      have a38 : σa.1 38 (2 * j) = nI (q + 1) := by
        rw [hσa, upi_get, if_neg (by decide), upi_get, if_neg (by decide), upi_get, if_pos rfl, upd_get, if_pos rfl]
      have a38l : ∀ i, i < 2 * j → σa.1 38 i = σ.1 38 i := fun i hi => by
        rw [hσa, upi_get, if_neg (by decide), upi_get, if_neg (by decide), upi_get, if_pos rfl, upd_get, if_neg (by omega)]
      have a13 : σa.1 29 13 = σ.1 29 13 ||| sg q := by
        rw [hσa, upi_get, if_neg (by decide), upi_get, if_pos rfl, upd_get, if_pos rfl]
      have a14 : σa.1 29 14 = σ.1 29 14 := by
        rw [hσa, upi_get, if_neg (by decide), upi_get, if_pos rfl, upd_get, if_neg (by decide), upi_get, if_neg (by decide)]
      have hRa : RM M σa := hR.fr ha.1 (by decide)
      have hGa := ha.gr hG
      have h66 : f_X7_goThrough_b33 (nI (2 * T + 1)) (nI (2 * j)) U σ = if M q = -1 then (if nI (2 * j) + 1 = nI (2 * T + 1) then some (.inr (1, σa)) else f_X7_goThrough_170 (nI (2 * T + 1)) (nI (2 * j)) U (nI q) σa) else f_X7_goThrough_170 (nI (2 * T + 1)) (nI (2 * j)) U (nI q) σa := by
        rw [hb33, s1, bv_eq]
        unfold f_X7_goThrough_66
        rw [if_neg (nI_ne_m1 (by omega)), gi_in (by omega) (by decide), nI_clamp (by omega), lt_eq, lt_eq, nI_1, nI_1, gi_in (by omega) (by decide), nI_clamp (by omega), lt_eq, gi12 (by omega), nI_clamp (by omega), sg_eq]
        have e0 : (upi σ 38 (2 * j) (nI (q + 1))).1 29 13 = σ.1 29 13 := by rw [upi_get, if_neg (by decide)]
        rw [e0, ← hσa, hRa q (by omega)]
      have before : ∀ i, i < q → wg n A M d U e i = none := fun i hi => by
        rcases Nat.lt_or_ge i k with g | g
        · exact hbef i g
        · exact nocond i (s2 i g hi)
      by_cases hM : M q = -1
      · rw [if_pos hM] at h66
        by_cases hd0 : d = 0
        · -- the way is found
          left
          subst hd0
          have hjT : j = T := by omega
          rw [nI_1, if_pos (by rw [hjT])] at h66
          have hq : wg n A M 0 U e q = some [q] := by unfold wg; rw [if_pos hcond, if_pos hM, if_pos rfl]
          refine ⟨[q], σa, by rw [wz_succ]; exact fsm_some before hq q2, lp_end h66, ha, a37, fun i hi => ?_⟩
          have hi0 : i = 0 := by simp at hi; omega
          subst hi0
          exact a37n
        · rw [nI_1, if_neg (fun g => hd0 (by have := nI_inj (by omega) (by omega) g; omega))] at h66
          have h170 : f_X7_goThrough_170 (nI (2 * T + 1)) (nI (2 * j)) U (nI q) σa = some (.inl (nI (2 * j), U, σa)) := by
            unfold f_X7_goThrough_170
            rw [gi12 (by omega), nI_clamp (by omega), hRa q (by omega), if_pos hM]
          have go := lp_go (f := fun s : Int32 × Int32 × WD => f_X7_goThrough_b33 (nI (2 * T + 1)) s.1 s.2.1 s.2.2) (s := (nI (2 * j), U, σ)) (s' := (nI (2 * j), U, σa)) (h66.trans h170)
          have hq : wg n A M d U e q = none := by unfold wg; rw [if_pos hcond, if_pos hM, if_neg hd0]
          rcases ihc (n - (q + 1)) (by omega) (q + 1) σa rfl (by omega) hGa hRa (by rw [a37 _ (Nat.le_refl _)]; exact h37) a38 (fun g => by rw [a37 _ (by omega)]; exact h37' g) (fun i hi => by
            by_cases g : i = q
            · rw [g]; exact hq
            · exact before i (by omega)) with ⟨p, τ, p1, p2, p3, p4, p5⟩ | ⟨p1, τ, p2, p3, p4, p5, p6, p7⟩
          · left
            exact ⟨p, τ, p1, by rw [go]; exact p2, ha.tr p3, fun i hi => by rw [p4 i hi, a37 i hi], p5⟩
          · right
            refine ⟨p1, τ, by rw [go]; exact p2, ha.tr p3, fun i hi => by rw [p4 i hi, a37 i hi], fun i hi => by rw [p5 i hi, a38l i hi], fun x => ?_, fun x => ?_⟩
            · rw [p6 x, a13, m_sg (by omega)]
              constructor
              · rintro ((g | g) | ⟨v, v1, v2⟩)
                · exact Or.inl g
                · exact Or.inr ⟨q, q1, q2, hcond, Or.inl g⟩
                · exact Or.inr ⟨v, by omega, v2⟩
              · rintro (g | ⟨v, v1, v2, v3, v4⟩)
                · exact Or.inl (Or.inl g)
                · by_cases g : v = q
                  · subst g
                    rcases v4 with v4 | v4
                    · exact Or.inl (Or.inr v4)
                    · exact absurd hM v4.1
                  · rcases Nat.lt_or_ge v q with g2 | g2
                    · exact absurd v3 (s2 v v1 g2)
                    · exact Or.inr ⟨v, by omega, v2, v3, v4⟩
            · rw [p7 x, a14]
              constructor
              · rintro (g | ⟨v, v1, v2⟩)
                · exact Or.inl g
                · exact Or.inr ⟨v, by omega, v2⟩
              · rintro (g | ⟨v, v1, v2, v3, v4, v5⟩)
                · exact Or.inl g
                · by_cases g : v = q
                  · subst g; exact absurd hM v4
                  · rcases Nat.lt_or_ge v q with g2 | g2
                    · exact absurd v3 (s2 v v1 g2)
                    · exact Or.inr ⟨v, by omega, v2, v3, v4, v5⟩
      · -- the node q and its mate
        rw [if_neg hM] at h66
        obtain ⟨ma, mb, mc, md, me⟩ := h.mat (show q < 12 by omega) hM
        obtain ⟨mb1, mb2⟩ := h.back w (show q < 12 by omega) hM
        have mb3 := h.ne w (show q < 12 by omega) hM
        have hUm : bt U (mtn M q) = false := by rw [← hU.2 q q2 hM]; exact hcond.2
        have hpc := pcn_two (U := U) (show q < 12 by omega) (show mtn M q < 12 by omega) mb3 hcond.2 hUm
        have hU' := hU.step w h q2 hM
        obtain ⟨σb, hσb⟩ : ∃ s, s = upi (upi (upi σa 37 (2 * j + 2) (nI (mtn M q))) 29 14 (σa.1 29 14 ||| sg (mtn M q))) 38 (2 * j + 2) 0 := ⟨_, rfl⟩
        have hb : HF σa σb := by rw [hσb]; exact (((HF.rf σa).c37 _ _).c14 _).c38 _ _
        have b37 : ∀ i, i ≤ 2 * j + 1 → σb.1 37 i = σa.1 37 i := fun i hi => by
          rw [hσb, upi_get, if_neg (by decide), upi_get, if_neg (by decide), upi_get, if_pos rfl, upd_get, if_neg (by omega)]
        have b37n : σb.1 37 (2 * j + 2) = nI (mtn M q) := by
          rw [hσb, upi_get, if_neg (by decide), upi_get, if_neg (by decide), upi_get, if_pos rfl, upd_get, if_pos rfl]
        have b38n : σb.1 38 (2 * j + 2) = 0 := by rw [hσb, upi_get, if_pos rfl, upd_get, if_pos rfl]
        have b38 : ∀ i, i < 2 * j + 2 → σb.1 38 i = σa.1 38 i := fun i hi => by
          rw [hσb, upi_get, if_pos rfl, upd_get, if_neg (by omega), upi_get, if_neg (by decide), upi_get, if_neg (by decide)]
        have b14 : σb.1 29 14 = σa.1 29 14 ||| sg (mtn M q) := by
          rw [hσb, upi_get, if_neg (by decide), upi_get, if_pos rfl, upd_get, if_pos rfl]
        have b13 : σb.1 29 13 = σa.1 29 13 := by
          rw [hσb, upi_get, if_neg (by decide), upi_get, if_pos rfl, upd_get, if_neg (by decide), upi_get, if_neg (by decide)]
        have h170 : f_X7_goThrough_170 (nI (2 * T + 1)) (nI (2 * j)) U (nI q) σa = some (.inl (nI (2 * (j + 1)), U ||| (sg q ||| sg (mtn M q)), σb)) := by
          unfold f_X7_goThrough_170
          have m0 : σa.1 31 q = nI (mtn M q) := by rw [hRa q (by omega)]; exact mc
          have m1 : (upi σa 37 (2 * j + 2) (nI (mtn M q))).1 31 q = nI (mtn M q) := by rw [upi_get, if_neg (by decide)]; exact m0
          have m2 : (upi (upi σa 37 (2 * j + 2) (nI (mtn M q))) 29 14 (σa.1 29 14 ||| sg (mtn M q))).1 31 q = nI (mtn M q) := by rw [upi_get, if_neg (by decide)]; exact m1
          have m3 : (upi σa 37 (2 * j + 2) (nI (mtn M q))).1 29 14 = σa.1 29 14 := by rw [upi_get, if_neg (by decide)]
          rw [gi12 (by omega), nI_clamp (by omega), m0, if_neg (nI_ne_m1 (by omega)), gi12 (by omega), nI_2, gi_in (by omega) (by decide), nI_clamp (by omega), lt_eq, gi12 (by omega), m1, m3, sg_eq, lt_eq, gi12 (by omega), m2, sg_eq, sg_eq, li_eq, gi_in (by omega) (by decide), lt_eq, ← hσb]
          rfl
        have go := lp_go (f := fun s : Int32 × Int32 × WD => f_X7_goThrough_b33 (nI (2 * T + 1)) s.1 s.2.1 s.2.2) (s := (nI (2 * j), U, σ)) (s' := (nI (2 * (j + 1)), U ||| (sg q ||| sg (mtn M q)), σb)) (h66.trans h170)
        have hwg : wg n A M d U e q = (wz n A M d (U ||| (sg q ||| sg (mtn M q))) (mtn M q)).map (fun p => q :: mtn M q :: p) := by
          unfold wg
          rw [if_pos hcond, if_neg hM]
        rcases ih (j + 1) (U ||| (sg q ||| sg (mtn M q))) (mtn M q) q (by omega) mb q2 hU' (by omega) n 0 σb (by omega) (by omega) ((ha.tr hb).gr hG) (hR.fr (ha.tr hb).1 (by decide)) b37n b38n (fun _ => by
          rw [show 2 * (j + 1) - 1 = 2 * j + 1 by omega, b37 _ (Nat.le_refl _)]; exact a37n) (fun i hi => by omega) with ⟨p, τ, p1, p2, p3, p4, p5⟩ | ⟨p1, τ, p2, p3, p4, p5, p6, p7⟩
        · left
          refine ⟨q :: mtn M q :: p, τ, by rw [wz_succ]; exact fsm_some before (by rw [hwg, p1]; rfl) q2, by rw [go]; exact p2, ha.tr (hb.tr p3), fun i hi => by rw [p4 i (by omega), b37 i (by omega), a37 i hi], fun i hi => ?_⟩
          match i, hi with
          | 0, _ => rw [Nat.add_zero, p4 (2 * j + 1) (by omega), b37 _ (Nat.le_refl _)]; exact a37n
          | 1, _ => rw [p4 (2 * j + 1 + 1) (by omega)]; exact b37n
          | i + 2, hi =>
            rw [show 2 * j + 1 + (i + 2) = 2 * (j + 1) + 1 + i by omega, p5 i (by simp at hi; omega)]; rfl
        · have hqn : wg n A M d U e q = none := by rw [hwg, p1]; rfl
          rw [popU_eq (by omega) (by omega) hcond.2 hUm, show nI (2 * (j + 1)) + (-2) = nI (2 * j) by
            rw [show 2 * (j + 1) = 2 * j + 2 by omega, ← nI_2, Int32.add_assoc, show (2 : Int32) + -2 = 0 by decide, Int32.add_zero]] at p2
          have hτ : HF σ τ := ha.tr (hb.tr p3)
          have t37 : ∀ i, i ≤ 2 * j → τ.1 37 i = σ.1 37 i := fun i hi => by rw [p4 i (by omega), b37 i (by omega), a37 i hi]
          have t38 : ∀ i, i < 2 * j → τ.1 38 i = σ.1 38 i := fun i hi => by rw [p5 i (by omega), b38 i (by omega), a38l i hi]
          rcases ihc (n - (q + 1)) (by omega) (q + 1) τ rfl (by omega) (hτ.gr hG) (hR.fr hτ.1 (by decide)) (by rw [t37 _ (Nat.le_refl _)]; exact h37) (by rw [p5 _ (by omega), b38 _ (by omega)]; exact a38) (fun g => by rw [t37 _ (by omega)]; exact h37' g) (fun i hi => by
            by_cases g : i = q
            · rw [g]; exact hqn
            · exact before i (by omega)) with ⟨p, τ2, r1, r2, r3, r4, r5⟩ | ⟨r1, τ2, r2, r3, r4, r5, r6, r7⟩
          · left
            exact ⟨p, τ2, r1, by rw [go, p2]; exact r2, hτ.tr r3, fun i hi => by rw [r4 i hi, t37 i hi], r5⟩
          · right
            refine ⟨r1, τ2, by rw [go, p2]; exact r2, hτ.tr r3, fun i hi => by rw [r4 i hi, t37 i hi], fun i hi => by rw [r5 i hi, t38 i hi], fun x => ?_, fun x => ?_⟩
            · rw [r6 x, p6 x, b13, a13, m_sg (by omega)]
              constructor
              · rintro (((g | g) | g) | ⟨v, v1, v2⟩)
                · exact Or.inl g
                · exact Or.inr ⟨q, q1, q2, hcond, Or.inl g⟩
                · exact Or.inr ⟨q, q1, q2, hcond, Or.inr ⟨hM, g⟩⟩
                · exact Or.inr ⟨v, by omega, v2⟩
              · rintro (g | ⟨v, v1, v2, v3, v4⟩)
                · exact Or.inl (Or.inl (Or.inl g))
                · by_cases g : v = q
                  · subst g
                    rcases v4 with v4 | v4
                    · exact Or.inl (Or.inl (Or.inr v4))
                    · exact Or.inl (Or.inr v4.2)
                  · rcases Nat.lt_or_ge v q with g2 | g2
                    · exact absurd v3 (s2 v v1 g2)
                    · exact Or.inr ⟨v, by omega, v2, v3, v4⟩
            · rw [r7 x, p7 x, b14, a14, m_sg (by omega)]
              constructor
              · rintro (((g | g) | g) | ⟨v, v1, v2⟩)
                · exact Or.inl g
                · exact Or.inr ⟨q, q1, q2, hcond, hM, Or.inl g⟩
                · exact Or.inr ⟨q, q1, q2, hcond, hM, Or.inr g⟩
                · exact Or.inr ⟨v, by omega, v2⟩
              · rintro (g | ⟨v, v1, v2, v3, v4, v5⟩)
                · exact Or.inl (Or.inl (Or.inl g))
                · by_cases g : v = q
                  · subst g
                    rcases v5 with v5 | v5
                    · exact Or.inl (Or.inl (Or.inr v5))
                    · exact Or.inl (Or.inr v5)
                  · rcases Nat.lt_or_ge v q with g2 | g2
                    · exact absurd v3 (s2 v v1 g2)
                    · exact Or.inr ⟨v, by omega, v2, v3, v4, v5⟩
theorem goThrough_eq {n : Nat} {A M : Nat → Int32} {σ : WD} (w : GW n A) (hG : GR n A σ) (h : MW n A M) (hR : RM M σ) {r : Nat} (hr : r < n) (hr1 : M r = -1) {T : Nat} (hT : T ≤ 6) :
    (∃ p τ, wz n A M (T + 1) (sg r) r = some p ∧ f_X7_goThrough (nI r) (nI (2 * T + 1)) σ = some (1, τ) ∧ HF σ τ ∧ τ.1 37 0 = nI r ∧ ∀ i, i < p.length → τ.1 37 (1 + i) = nI (p.getD i 0)) ∨
    (wz n A M (T + 1) (sg r) r = none ∧ ∃ τ, f_X7_goThrough (nI r) (nI (2 * T + 1)) σ = some (0, τ) ∧ HF σ τ ∧ (∀ x, bt (τ.1 29 13) x = true ↔ RO n A M (T + 1) (sg r) r 0 x) ∧ ∀ x, bt (τ.1 29 14) x = true ↔ x = r ∨ RE n A M (T + 1) (sg r) r 0 x) := by
  have hn := w.2.1
  have g0 : ∀ {γ : Type} (k : Option γ), gi 0 14 k = k := fun k => gi_in (i := 0) (by decide) (by decide) k
  obtain ⟨σa, hσa⟩ : ∃ s, s = upi (upi (upi (upi σ 37 0 (nI r)) 38 0 0) 29 13 0) 29 14 (sg r) := ⟨_, rfl⟩
  have ha : HF σ σa := by rw [hσa]; exact ((((HF.rf σ).c37 _ _).c38 _ _).c13 _).c14 _
  have a37 : σa.1 37 0 = nI r := by rw [hσa]; simp [upi_get, upd_get]
  have a38 : σa.1 38 0 = 0 := by rw [hσa]; simp [upi_get, upd_get]
  have a13 : σa.1 29 13 = 0 := by rw [hσa]; simp [upi_get, upd_get]
  have a14 : σa.1 29 14 = sg r := by rw [hσa]; simp [upi_get, upd_get]
  have hgt : f_X7_goThrough (nI r) (nI (2 * T + 1)) σ = lp (fun s : Int32 × Int32 × WD => f_X7_goThrough_b33 (nI (2 * T + 1)) s.1 s.2.1 s.2.2) (nI (2 * 0), sg r, σa) := by
    unfold f_X7_goThrough f_X7_goThrough_33
    rw [li_eq, g0, lt_eq, g0, lt_eq, lt_eq, lt_eq, sg_eq, hσa]
    rfl
  rw [hgt]
  rcases goThrough_at w h hT (T + 1) 0 (sg r) r r rfl hr hr (ND.start w h hr hr1).1 (pcn_sg r (by omega)) n 0 σa rfl (Nat.zero_le _) (ha.gr hG) (hR.fr ha.1 (by decide)) a37 a38 (fun g => absurd g (by omega)) (fun i hi => by omega) with ⟨p, τ, p1, p2, p3, p4, p5⟩ | ⟨p1, τ, p2, p3, p4, p5, p6, p7⟩
  · left
    refine ⟨p, τ, p1, p2, ha.tr p3, by rw [p4 0 (Nat.le_refl _)]; exact a37, fun i hi => ?_⟩
    have := p5 i hi
    rw [show 2 * 0 + 1 + i = 1 + i by omega] at this
    exact this
  · right
    refine ⟨p1, τ, ?_, ha.tr p3, fun x => ?_, fun x => ?_⟩
    · rw [p2]
      refine lp_end ?_
      dsimp only
      unfold f_X7_goThrough_b33
      rw [if_pos (by decide)]
    · rw [p6 x, a13, b_0]
      exact ⟨fun g => g.elim (fun g => by cases g) id, Or.inr⟩
    · rw [p7 x, a14]
      constructor
      · rintro (g | g)
        · rw [b_sg (by omega) (lt32 g)] at g
          simp only [decide_eq_true_eq] at g
          exact Or.inl g
        · exact Or.inr g
      · rintro (g | g)
        · subst g; left; rw [b_sg (by omega) (by omega)]; simp
        · exact Or.inr g
