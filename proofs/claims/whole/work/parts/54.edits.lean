-- ===== calls: the frame of a case of the law =====
theorem upo_1 (σ : WD) (v : Int64) : (upo σ v).1 = σ.1 := rfl
theorem upo_2 (σ : WD) (v : Int64) : (upo σ v).2.2 = v := rfl
def Okr (fx : Option ((Int32 × WD) ⊕ Nat)) (e1 e2 : Nat) (g : WD → Option (Int32 × WD)) (k : Nat) (σ : WD) : Prop :=
  (∃ v τ υ, fx = some (.inl (v, τ)) ∧ g (upo τ v.toInt64) = some (v, υ) ∧ υ.1 29 0 = 0 ∧ υ.2.2 = v.toInt64 ∧ Ivt (k + 1) υ) ∨ (∃ e c b υ, fx = some (.inr e) ∧ ((e = e1 ∧ c = (1 : Int32)) ∨ (e ≠ e1 ∧ e = e2 ∧ c = 2)) ∧ g σ = some (b, υ) ∧ υ.1 29 0 = c ∧ Ivt (k + 1) υ)
theorem Okr.go {fx : Option ((Int32 × WD) ⊕ Nat)} {e1 e2 : Nat} {g : WD → Option (Int32 × WD)} {k : Nat} {σ : WD} (h : Okr fx e1 e2 g k σ) (l : Int32) : ∃ υ, bn (hl fx e1 e2 σ) (fun r σr => bn (g σr) (fun b σb => bv (f_X7_thrown σb) (fun t => if t = r then if r = 0 then if (lg_cmp (σb.2.2) ((b).toInt64)) = 0 then some (Sum.inl (l, σb) : (Int32 × WD) ⊕ Unit) else none else some (.inl (l, σb)) else none))) = some (.inl (l, υ)) ∧ Ivt (k + 1) υ := by
  rcases h with ⟨v, τ, υ, h1, h2, h3, h4, h5⟩ | ⟨e, c, b, υ, h1, h2, h3, h4, h5⟩
  · refine ⟨υ, ?_, h5⟩
    have e0 : hl fx e1 e2 σ = some (0, upo τ v.toInt64) := by rw [h1]; rfl
    unfold f_X7_thrown
    rw [e0, bn_eq, h2, bn_eq, bv_eq, h3, if_pos rfl, if_pos rfl, if_pos (by rw [h4]; exact (lg_cmp_eq _ _).mpr rfl)]
  · refine ⟨υ, ?_, h5⟩
    unfold f_X7_thrown
    rcases h2 with ⟨q1, q2⟩ | ⟨q0, q1, q2⟩
    · have e0 : hl fx e1 e2 σ = some (1, σ) := by rw [h1]; exact if_pos q1
      rw [e0, bn_eq, h3, bn_eq, bv_eq, h4, q2, if_pos rfl, if_neg (by decide)]
    · have e0 : hl fx e1 e2 σ = some (2, σ) := by
        rw [h1]
        show (if e = e1 then _ else if e = e2 then _ else _) = _
        rw [if_neg q0, if_pos q1]
      rw [e0, bn_eq, h3, bn_eq, bv_eq, h4, q2, if_pos rfl, if_neg (by decide)]
theorem Ivt.c0 {k : Nat} {σ : WD} (h : Ivt k σ) (v : Int32) : Ivt (k + 1) (upi σ 29 0 v) := by
  obtain ⟨n, A, M, c, len, B, kp, H, h1, h2, h3, h4⟩ := h
  exact ⟨n, A, M, c, len, B, kp, H, h1, by omega, h3.same (RTr.c0 σ v).sc, (RTr.c0 σ v).rp h4⟩
theorem ok_thr {fx : Option ((Int32 × WD) ⊕ Nat)} {e1 e2 : Nat} {g : WD → Option (Int32 × WD)} {k : Nat} {σ : WD} (I : Ivt k σ) {e : Nat} {c b : Int32} (h1 : fx = some (.inr e)) (h2 : (e = e1 ∧ c = (1 : Int32)) ∨ (e ≠ e1 ∧ e = e2 ∧ c = 2)) (h3 : g σ = some (b, upi σ 29 0 c)) : Okr fx e1 e2 g k σ := Or.inr ⟨e, c, b, _, h1, h2, h3, by rw [upi_get, if_pos rfl, upd_get, if_pos rfl], I.c0 c⟩
/-- what the reference's half of a call does -/
def RG (g : WD → Option (Int32 × WD)) (v : Int32) (P Q : WD → Prop) : Prop := ∀ σ, P σ → ∃ υ, g σ = some (v, υ) ∧ υ.1 29 0 = 0 ∧ υ.2 = σ.2 ∧ SameC σ υ ∧ Q υ
theorem ok_ret {fx : Option ((Int32 × WD) ⊕ Nat)} {e1 e2 : Nat} {g : WD → Option (Int32 × WD)} {k : Nat} {σ τ : WD} {v : Int32} {n n' : Nat} {A M A' M' B B' : Nat → Int32} {c' len len' kp kp' : Nat} {H H' : HT} (h1 : fx = some (.inl (v, τ))) (h2 : SameR σ τ) (h3 : CPt n' A' M' c' len' B' kp' H' τ) (h4 : RPt n A M len B kp H σ) (h5 : RG g v (RPt n A M len B kp H) (RPt n' A' M' len' B' kp' H')) (h6 : PVt n' A' M' len' kp' H') (h7 : c' ≤ 64 * (k + 1)) : Okr fx e1 e2 g k σ := by
  have hR : RPt n A M len B kp H (upo τ v.toInt64) := h4.same (fun c hc => by rw [upo_1]; exact h2 c hc)
  obtain ⟨υ, g1, g2, g3, g4, g5⟩ := h5 _ hR
  refine Or.inl ⟨v, τ, υ, h1, g1, g2, by rw [g3, upo_2], n', A', M', c', len', B', kp', H', h6, h7, ?_, g5⟩
  exact (h3.same (fun c _ => by rw [upo_1])).same g4
/-- a reader -/
theorem ok_rd {fx : Option ((Int32 × WD) ⊕ Nat)} {e1 e2 : Nat} {g : WD → Option (Int32 × WD)} {k : Nat} {σ τ : WD} {v : Int32} {n : Nat} {A M B : Nat → Int32} {c len kp : Nat} {H : HT} (hV : PVt n A M len kp H) (hc : c ≤ 64 * k) (hC : CPt n A M c len B kp H σ) (hR : RPt n A M len B kp H σ) (h1 : fx = some (.inl (v, τ))) (h2 : CTr n A σ τ) (h5 : RG g v (RPt n A M len B kp H) (RPt n A M len B kp H)) : Okr fx e1 e2 g k σ :=
  ok_ret h1 h2.sr (h2.cp hC) hR h5 hV (by omega)
/-- the answers are compared at once -/
theorem ok_dir {fx : Option (Int32 × WD)} {g : WD → Option (Int32 × WD)} {k : Nat} {σ τ : WD} {v : Int32} {n n' : Nat} {A M A' M' B B' : Nat → Int32} {c' len len' kp kp' : Nat} {H H' : HT} (h1 : fx = some (v, τ)) (h2 : SameR σ τ) (h3 : CPt n' A' M' c' len' B' kp' H' τ) (h4 : RPt n A M len B kp H σ) (h5 : RG g v (RPt n A M len B kp H) (RPt n' A' M' len' B' kp' H')) (h6 : PVt n' A' M' len' kp' H') (h7 : c' ≤ 64 * (k + 1)) (l : Int32) : ∃ υ, bn fx (fun r σr => bn (g σr) (fun r2 σ2 => if r = r2 then some (Sum.inl (l, σ2) : (Int32 × WD) ⊕ Unit) else none)) = some (.inl (l, υ)) ∧ Ivt (k + 1) υ := by
  obtain ⟨υ, g1, g2, g3, g4, g5⟩ := h5 τ (h4.same h2)
  refine ⟨υ, ?_, n', A', M', c', len', B', kp', H', h6, h7, h3.same g4, g5⟩
  rw [h1, bn_eq, g1, bn_eq, if_pos rfl]
-- ----- nodes
theorem req_ok {n : Nat} {A : Nat → Int32} {σ : WD} (w : GW n A) (hG : GC n A σ) {u : Nat} (hu : u < n) : f_X6_requireNode (nI u) σ = some (.inl ()) := by
  have hn := w.2.1
  unfold f_X6_requireNode
  rw [if_neg (nI_pos (by omega)), hG.1, if_pos (nI_lt hu (by omega))]
theorem req_no {n : Nat} {A : Nat → Int32} {σ : WD} (w : GW n A) (hG : GC n A σ) {a : Int32} (h : ¬ ∃ u, u < n ∧ a = nI u) : f_X6_requireNode a σ = some (.inr 3) := by
  have hn := w.2.1
  unfold f_X6_requireNode f_X6_requireNode_15
  by_cases h0 : a < 0
  · rw [if_pos h0]
  · obtain ⟨j, h1, h2⟩ := nI_of h0
    rw [if_neg h0, hG.1, if_neg (fun q => h ⟨j, by rw [h2, nI_lt_iff h1 (by omega)] at q; exact q, h2⟩)]
theorem nI_sub1 {n : Nat} (hn : 1 ≤ n) : nI n - 1 = nI (n - 1) := by
  obtain ⟨m, rfl⟩ : ∃ m, n = m + 1 := ⟨n - 1, by omega⟩
  rw [nI_pred]; rfl
theorem isN_ok {n : Nat} {A : Nat → Int32} {σ : WD} (w : GW n A) (hG : GR n A σ) {u : Nat} (hu : u < n) : f_X7_isNode (nI u) σ = some 1 := by
  have hn := w.2.1
  unfold f_X7_isNode f_X7_within
  rw [hG.1, nI_sub1 (by omega), if_neg (nI_pos (by omega)), if_neg (nI_nlt (by omega) (by omega)), bv_eq, gb1]
theorem isN_no {n : Nat} {A : Nat → Int32} {σ : WD} (w : GW n A) (hG : GR n A σ) {a : Int32} (h : ¬ ∃ u, u < n ∧ a = nI u) : f_X7_isNode a σ = some 0 := by
  have hn := w.2.1
  have h2n := w.1
  unfold f_X7_isNode f_X7_within
  rw [hG.1, nI_sub1 (by omega)]
  by_cases h0 : a < 0
  · rw [if_pos h0, bv_eq, gb0]
  · obtain ⟨j, h1, h2⟩ := nI_of h0
    have hj : n ≤ j := by
      rcases Nat.lt_or_ge j n with q | q
      · exact absurd ⟨j, q, h2⟩ h
      · exact q
    rw [if_neg h0, h2, if_pos ((nI_lt_iff (by omega) h1).mpr (by omega)), bv_eq, gb0]
-- ----- graphs
theorem Mo.bump {n n' : Nat} {A A' : Nat → Int32} {σ τ : WD} {c : Nat} (h : Mo n A σ) (hc : σ.1 1 2 = nI c) (hc2 : c < 2 ^ 30) (e : τ.1 22 5 = σ.1 22 5) (h2 : τ.1 1 2 = nI (c + 1)) : Mo n' A' τ := by
  have h0 := h.1
  rw [hc, Int32.le_iff_toInt_le, nI_toInt (by omega)] at h0
  refine ⟨?_, fun q => ?_⟩
  · rw [e, h2, Int32.le_iff_toInt_le, nI_toInt (by omega)]; omega
  · exfalso
    rw [e, h2] at q
    rw [q, nI_toInt (by omega)] at h0
    omega
def stE (A : Nat → Int32) (u v : Nat) (on : Bool) : Nat → Int32 := if bt (A u) v = on then A else flp A u v
theorem stE_gw {n : Nat} {A : Nat → Int32} (w : GW n A) {u v : Nat} (hu : u < n) (hv : v < n) (huv : u ≠ v) (on : Bool) : GW n (stE A u v on) := by
  unfold stE
  split
  · exact w
  · exact w.flp hu hv huv
def bI (b : Bool) : Int32 := if b = true then 1 else 0
theorem put_eq {n : Nat} {A : Nat → Int32} {σ : WD} {c : Nat} (w : GW n A) (hG : GC n A σ) (hM : Mo n A σ) (hc : σ.1 1 2 = nI c) (hc2 : c < 2 ^ 30) {u v : Nat} (hu : u < n) (hv : v < n) (huv : u ≠ v) (on : Bool) : ∃ τ, f_X0_put (nI u) (nI v) (bI on) σ = some τ ∧ Fr [1, 2] σ τ ∧ GC n (stE A u v on) τ ∧ Mo n (stE A u v on) τ ∧ ∃ c', c' ≤ c + 1 ∧ τ.1 1 2 = nI c' := by
  have hn := w.2.1
  unfold f_X0_put stE
  rw [joined_eq hG (by omega) (by omega), bv_eq]
  by_cases hb : bt (A u) v = on
  · rw [if_pos hb]
    have : (if bt (A u) v = true then (1 : Int32) else 0) = bI on := by rw [hb]; rfl
    rw [if_pos this]
    exact ⟨σ, rfl, Fr.rf _ _, hG, hM, c, by omega, hc⟩
  · rw [if_neg hb]
    have : ¬ (if bt (A u) v = true then (1 : Int32) else 0) = bI on := by
      unfold bI
      cases q : bt (A u) v <;> cases q2 : on <;> simp_all
    rw [if_neg this, gi12 (by omega), gi12 (by omega), lt_eq, gi12 (by omega), gi12 (by omega), nI_clamp (by omega), nI_clamp (by omega), lt_eq, lt_eq, sg_eq, sg_eq]
    have e1 : (upi (upi σ 2 u (σ.1 2 u ^^^ sg v)) 2 v ((upi σ 2 u (σ.1 2 u ^^^ sg v)).1 2 v ^^^ sg u)).1 1 2 = nI c := by
      rw [upi_get, if_neg (by decide), upi_get, if_neg (by decide)]; exact hc
    rw [e1, nI_1]
    refine ⟨_, rfl, (((Fr.rf _ _).upi (by decide) _ _).upi (by decide) _ _).upi (by decide) _ _, ⟨?_, fun i hi => ?_⟩, ?_, c + 1, Nat.le_refl _, by simp [upi_get, upd_get]⟩
    · simp [upi_get, upd_get]; exact hG.1
    · simp only [upi_get, upd_get, if_neg (show ¬ (2 : Nat) = 1 by decide), if_true, if_neg (fun q : v = u => huv q.symm)]
      unfold flp
      rw [upd_get, upd_get, hG.2 u (by omega), hG.2 v (by omega), hG.2 i hi]
    · exact hM.bump hc hc2 (by simp [upi_get]) (by simp [upi_get, upd_get])
theorem flip_eq {n : Nat} {A : Nat → Int32} {σ : WD} (w : GW n A) (hG : GR n A σ) {u v : Nat} (hu : u < n) (hv : v < n) (huv : u ≠ v) : ∃ τ, f_X7_flip (nI u) (nI v) σ = some τ ∧ Fr [30] σ τ ∧ GR n (flp A u v) τ := by
  have hn := w.2.1
  unfold f_X7_flip
  rw [gi12 (by omega), gi12 (by omega), lt_eq, gi12 (by omega), gi12 (by omega), nI_clamp (by omega), nI_clamp (by omega), lt_eq, sg_eq, sg_eq]
  refine ⟨_, rfl, ((Fr.rf _ _).upi (by decide) _ _).upi (by decide) _ _, ?_, fun i hi => ?_⟩
  · rw [upi_get, if_neg (by decide), upi_get, if_neg (by decide)]; exact hG.1
  · simp only [upi_get, upd_get, if_true, if_neg (fun q : v = u => huv q.symm)]
    unfold flp
    rw [upd_get, upd_get, hG.2 u (by omega), hG.2 v (by omega), hG.2 i hi]
theorem MW.edge {n : Nat} {A A' M : Nat → Int32} (h : MW n A M) (he : ∀ i, i < n → bt (A i) (mtn M i) = true → M i ≠ -1 → bt (A' i) (mtn M i) = true) : MW n A' M := fun i hi => by
  rcases h i hi with q | ⟨q1, q2, q3, q4, q5⟩
  · exact Or.inl q
  · by_cases g : M i = -1
    · exact Or.inl g
    · exact Or.inr ⟨q1, q2, q3, q4, he i q1 q5 g⟩
theorem MW.add {n : Nat} {A M : Nat → Int32} (w : GW n A) (h : MW n A M) {u v : Nat} (hu : u < n) (hv : v < n) (huv : u ≠ v) : MW n (stE A u v true) M := by
  have hn := w.2.1
  unfold stE
  by_cases hb : bt (A u) v = true
  · rw [if_pos hb]; exact h
  · rw [if_neg hb]
    refine h.edge (fun i hi q1 q2 => ?_)
    have hm := (h.mat (show i < 12 by omega) q2).2.1
    rw [flp_bt (by omega) (by omega) huv i (by omega), q1]
    have : ¬ ((i = u ∧ mtn M i = v) ∨ (i = v ∧ mtn M i = u)) := by
      rintro (⟨g1, g2⟩ | ⟨g1, g2⟩)
      · rw [g1] at q1 g2; rw [g2] at q1; exact hb q1
      · rw [g1] at q1 g2; rw [g2] at q1; exact hb (w.sy hv hu q1)
    simp [this]
/-- a node's edge taken out of the matching -/
def prt (M : Nat → Int32) (u : Nat) : Nat → Int32 := upd (upd M u (-1)) (mtn M u) (-1)
theorem part_eq {n : Nat} {A M : Nat → Int32} {σ : WD} (w : GW n A) (h : MW n A M) (hC : CM M σ) {u : Nat} (hu : u < n) (hM : M u ≠ -1) : ∃ τ, f_X3_part (nI u) σ = some τ ∧ Fr [4] σ τ ∧ CM (prt M u) τ := by
  have hn := w.2.1
  obtain ⟨a, b, c, d, e⟩ := h.mat (show u < 12 by omega) hM
  unfold f_X3_part
  rw [gi12 (by omega), nI_clamp (by omega), hC u (by omega), li_eq, if_neg hM, c, gi12 (by omega), nI_clamp (by omega), lt_eq, gi12 (by omega), lt_eq]
  refine ⟨_, rfl, ((Fr.rf _ _).upi (by decide) _ _).upi (by decide) _ _, fun i hi => ?_⟩
  unfold prt
  simp only [upi_get, upd_get, if_true]
  by_cases q1 : i = u
  · rw [if_pos q1]; split <;> first | rfl | rw [if_pos q1]
  · rw [if_neg q1]
    split
    · rfl
    · exact hC i hi
theorem x_part_eq {n : Nat} {A M : Nat → Int32} {σ : WD} (w : GW n A) (h : MW n A M) (hC : RM M σ) {u : Nat} (hu : u < n) (hM : M u ≠ -1) : ∃ τ, f_X7_part (nI u) σ = some τ ∧ Fr [31] σ τ ∧ RM (prt M u) τ := by
  have hn := w.2.1
  obtain ⟨a, b, c, d, e⟩ := h.mat (show u < 12 by omega) hM
  unfold f_X7_part
  rw [gi12 (by omega), nI_clamp (by omega), hC u (by omega), c, gi12 (by omega), nI_clamp (by omega), lt_eq, gi12 (by omega), lt_eq]
  refine ⟨_, rfl, ((Fr.rf _ _).upi (by decide) _ _).upi (by decide) _ _, fun i hi => ?_⟩
  unfold prt
  simp only [upi_get, upd_get, if_true]
  by_cases q1 : i = u
  · rw [if_pos q1]; split <;> first | rfl | rw [if_pos q1]
  · rw [if_neg q1]
    split
    · rfl
    · exact hC i hi
theorem prt_mw {n : Nat} {A M : Nat → Int32} (w : GW n A) (h : MW n A M) {u : Nat} (hu : u < n) (hM : M u ≠ -1) : MW n A (prt M u) := h.unjoin w (by have := w.2.1; omega) hM
/-- both nodes joined -/
def jnt (M : Nat → Int32) (u v : Nat) : Nat → Int32 := upd (upd M u (nI v)) v (nI u)
theorem join_eq {M : Nat → Int32} {σ : WD} (hC : CM M σ) {u v : Nat} (hu : u < 12) (hv : v < 12) : ∃ τ, f_X3_join (nI u) (nI v) σ = some τ ∧ Fr [4] σ τ ∧ CM (jnt M u v) τ := by
  unfold f_X3_join
  rw [gi12 hu, nI_clamp (by omega), lt_eq, gi12 hv, nI_clamp (by omega), lt_eq]
  refine ⟨_, rfl, ((Fr.rf _ _).upi (by decide) _ _).upi (by decide) _ _, fun i hi => ?_⟩
  unfold jnt
  simp only [upi_get, upd_get, if_true]
  split
  · rfl
  · split
    · rfl
    · exact hC i hi
theorem pair_eq {M : Nat → Int32} {σ : WD} (hC : RM M σ) {u v : Nat} (hu : u < 12) (hv : v < 12) : ∃ τ, f_X7_pair (nI u) (nI v) σ = some τ ∧ Fr [31] σ τ ∧ RM (jnt M u v) τ := by
  unfold f_X7_pair
  rw [gi12 hu, nI_clamp (by omega), lt_eq, gi12 hv, nI_clamp (by omega), lt_eq]
  refine ⟨_, rfl, ((Fr.rf _ _).upi (by decide) _ _).upi (by decide) _ _, fun i hi => ?_⟩
  unfold jnt
  simp only [upi_get, upd_get, if_true]
  split
  · rfl
  · split
    · rfl
    · exact hC i hi
-- the class's part behind save, and behind writes to the matching
theorem CPt.save {n : Nat} {A M : Nat → Int32} {c len : Nat} {B : Nat → Int32} {kp : Nat} {H : HT} {σ : WD} (h : CPt n A M c len B kp H σ) (hk : kp ≤ 4) : ∃ τ, f_X1_save σ = some τ ∧ SameR σ τ ∧ CPt n A M c len B (min (kp + 1) 4) (psh (A, M) H) τ := by
  obtain ⟨h1, h2, h3, h4, h5, h6⟩ := h
  obtain ⟨τ, e, f, h7⟩ := save_eq h1 h2 hk h6
  have f' := f.1
  exact ⟨τ, e, f.sr (by decide), h1.fr f (by decide) (by decide), h2.fr f (by decide), h3.of (f' 1 (by decide)) (f' 22 (by decide)) (f' 23 (by decide)) (f' 24 (by decide)) (f' 26 (by decide)), by rw [f' 1 (by decide)]; exact h4, ⟨by rw [f' 5 (by decide)]; exact h5.1, fun i hi => by rw [f' 6 (by decide)]; exact h5.2 i hi⟩, h7⟩
theorem CPt.mate {n : Nat} {A M M' : Nat → Int32} {c len : Nat} {B : Nat → Int32} {kp : Nat} {H : HT} {σ τ : WD} (h : CPt n A M c len B kp H σ) (f : Fr [4, 19, 20, 21] σ τ) (hM : CM M' τ) : CPt n A M' c len B kp H τ := by
  obtain ⟨h1, h2, h3, h4, h5, h6⟩ := h
  have f' := f.1
  exact ⟨h1.fr f (by decide) (by decide), hM, h3.of (f' 1 (by decide)) (f' 22 (by decide)) (f' 23 (by decide)) (f' 24 (by decide)) (f' 26 (by decide)), by rw [f' 1 (by decide)]; exact h4, ⟨by rw [f' 5 (by decide)]; exact h5.1, fun i hi => by rw [f' 6 (by decide)]; exact h5.2 i hi⟩, h6.of (fun x hx => f' x (by revert x; decide))⟩
theorem CPt.graph {n : Nat} {A A' M : Nat → Int32} {c c' len : Nat} {B : Nat → Int32} {kp : Nat} {H : HT} {σ τ : WD} (h : CPt n A M c len B kp H σ) (f : Fr [1, 2] σ τ) (hG : GC n A' τ) (hM : Mo n A' τ) (hc : τ.1 1 2 = nI c') : CPt n A' M c' len B kp H τ := by
  obtain ⟨h1, h2, h3, h4, h5, h6⟩ := h
  have f' := f.1
  exact ⟨hG, h2.fr f (by decide), hM, hc, ⟨by rw [f' 5 (by decide)]; exact h5.1, fun i hi => by rw [f' 6 (by decide)]; exact h5.2 i hi⟩, h6.of (fun x hx => f' x (by revert x; decide))⟩
theorem RPt.keep {n : Nat} {A M : Nat → Int32} {len : Nat} {B : Nat → Int32} {kp : Nat} {H : HT} {σ : WD} (h : RPt n A M len B kp H σ) (hk : kp ≤ 4) : ∃ τ, f_X7_keep σ = some τ ∧ SameC σ τ ∧ τ.2 = σ.2 ∧ τ.1 29 0 = σ.1 29 0 ∧ RPt n A M len B (min (kp + 1) 4) (psh (A, M) H) τ := by
  obtain ⟨h1, h2, h3, h4⟩ := h
  obtain ⟨τ, e, f, g, h7⟩ := keep_eq hk h1 h2 h4
  exact ⟨τ, e, f.sc (by decide), f.2, g 0 (by decide), ⟨by rw [g 1 (by decide)]; exact h1.1, fun i hi => by rw [f.1 30 (by decide)]; exact h1.2 i hi⟩, h2.fr f (by decide), ⟨by rw [g 6 (by decide)]; exact h3.1, fun i hi => by rw [f.1 33 (by decide)]; exact h3.2 i hi⟩, h7⟩
theorem RPt.mate {n : Nat} {A M M' : Nat → Int32} {len : Nat} {B : Nat → Int32} {kp : Nat} {H : HT} {σ τ : WD} (h : RPt n A M len B kp H σ) (f : HM σ τ) (hM : RM M' τ) : RPt n A M' len B kp H τ := by
  obtain ⟨h1, h2, h3, h4⟩ := h
  exact ⟨f.gr h1, hM, ⟨by rw [f.2 6 (by decide) (by decide)]; exact h3.1, fun i hi => by rw [f.1.1 33 (by decide)]; exact h3.2 i hi⟩, ⟨by rw [f.2 4 (by decide) (by decide)]; exact h4.1, fun j hj i hi => by rw [f.1.1 32 (by decide)]; exact h4.2 j hj i hi⟩⟩
theorem RPt.graph {n : Nat} {A A' M : Nat → Int32} {len : Nat} {B : Nat → Int32} {kp : Nat} {H : HT} {σ τ : WD} (h : RPt n A M len B kp H σ) (f : Fr [30] σ τ) (hG : GR n A' τ) : RPt n A' M len B kp H τ := by
  obtain ⟨h1, h2, h3, h4⟩ := h
  exact ⟨hG, h2.fr f (by decide), ⟨by rw [f.1 29 (by decide)]; exact h3.1, fun i hi => by rw [f.1 33 (by decide)]; exact h3.2 i hi⟩, ⟨by rw [f.1 29 (by decide)]; exact h4.1, fun j hj i hi => by rw [f.1 32 (by decide)]; exact h4.2 j hj i hi⟩⟩
theorem RPt.c0 {n : Nat} {A M : Nat → Int32} {len : Nat} {B : Nat → Int32} {kp : Nat} {H : HT} {σ : WD} (h : RPt n A M len B kp H σ) (v : Int32) : RPt n A M len B kp H (upi σ 29 0 v) := (RTr.c0 σ v).rp h
theorem c0_0 (σ : WD) (v : Int32) : (upi σ 29 0 v).1 29 0 = v := by rw [upi_get, if_pos rfl, upd_get, if_pos rfl]
