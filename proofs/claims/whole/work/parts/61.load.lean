-- ===== load =====
def lan (B : Nat → Int32) (j : Nat) : Nat := (B (qst B j) - 97).toNatClampNeg
def lbn (B : Nat → Int32) (j : Nat) : Nat := (B (qst B j + 1) - 97).toNatClampNeg
def lmk (B : Nat → Int32) (len j : Nat) : Bool := decide (qst B j + 2 < len) && decide (B (qst B j + 2) = 33)
theorem EB.an {n : Nat} {B : Nat → Int32} {j a b : Nat} (hn : n ≤ 12) (h : EB n B j a b) : lan B j = a ∧ lbn B j = b := by
  unfold lan lbn
  rw [h.2.2.1, h.2.2.2, nI_clamp (by have := h.1; have := h.2.1; omega), nI_clamp (by have := h.2.1; omega)]
  exact ⟨rfl, rfl⟩
/-- graph, matching and number behind one edge more -/
def ld1 (X : ((Nat → Int32) × (Nat → Int32)) × Nat) (a b : Nat) (m : Bool) : ((Nat → Int32) × (Nat → Int32)) × Nat := ((stE X.1.1 a b true, if m = true ∧ X.1.2 a = -1 ∧ X.1.2 b = -1 then jnt X.1.2 a b else X.1.2), X.2 + if bt (X.1.1 a) b = true then 0 else 1)
def lds (B : Nat → Int32) (len : Nat) (A M : Nat → Int32) : Nat → ((Nat → Int32) × (Nat → Int32)) × Nat
  | 0 => ((A, M), 0)
  | j + 1 => ld1 (lds B len A M j) (lan B j) (lbn B j) (lmk B len j)
theorem lds_succ (B : Nat → Int32) (len : Nat) (A M : Nat → Int32) (j : Nat) : lds B len A M (j + 1) = ld1 (lds B len A M j) (lan B j) (lbn B j) (lmk B len j) := rfl
theorem stE_has {n : Nat} {A : Nat → Int32} (w : GW n A) {a b : Nat} (ha : a < n) (hb : b < n) (hab : a ≠ b) : bt (stE A a b true a) b = true := by
  have hn := w.2.1
  unfold stE
  by_cases q : bt (A a) b = true
  · rw [if_pos q]; exact q
  · have q' : bt (A a) b = false := by simpa using q
    rw [if_neg q, flp_bt (by omega) (by omega) hab a (by omega), q']; simp
theorem ld1_ok {n : Nat} {X : ((Nat → Int32) × (Nat → Int32)) × Nat} (w : GW n X.1.1) (h : MW n X.1.1 X.1.2) {a b : Nat} (hab : a < b) (hb : b < n) (m : Bool) : GW n (ld1 X a b m).1.1 ∧ MW n (ld1 X a b m).1.1 (ld1 X a b m).1.2 := by
  have w' := stE_gw w (show a < n by omega) hb (show a ≠ b by omega) true
  have h' := h.add w (show a < n by omega) hb (show a ≠ b by omega)
  refine ⟨w', ?_⟩
  show MW n (stE X.1.1 a b true) (if m = true ∧ X.1.2 a = -1 ∧ X.1.2 b = -1 then jnt X.1.2 a b else X.1.2)
  split
  · rename_i q
    exact h'.join w' (by omega) (by omega) hb q.2.1 q.2.2 (stE_has w (by omega) hb (by omega))
  · exact h'
theorem lds_ok {n len : Nat} {A M B : Nat → Int32} (w : GW n A) (h : MW n A M) : ∀ {j : Nat}, (∀ i, i < j → ∃ a b, EB n B i a b) → GW n (lds B len A M j).1.1 ∧ MW n (lds B len A M j).1.1 (lds B len A M j).1.2
  | 0, _ => ⟨w, h⟩
  | j + 1, he => by
    obtain ⟨w1, h1⟩ := lds_ok w h (j := j) (fun i hi => he i (by omega))
    obtain ⟨a, b, hE⟩ := he j (by omega)
    obtain ⟨q1, q2⟩ := hE.an w.2.1
    rw [lds_succ, q1, q2]
    exact ld1_ok w1 h1 hE.1 hE.2.1 _
theorem addRead_eq {n : Nat} {X : ((Nat → Int32) × (Nat → Int32)) × Nat} {c len : Nat} {B : Nat → Int32} {kp : Nat} {H : HT} {σ : WD} (w : GW n X.1.1) (h : MW n X.1.1 X.1.2) (hC : CPt n X.1.1 X.1.2 c len B kp H σ) (hc : c < 2 ^ 30) {a b : Nat} (hab : a < b) (hb : b < n) (m : Bool) : ∃ τ c', c' ≤ c + 1 ∧ f_X6_addRead (nI a) (nI b) (bI m) σ = some (nI (if bt (X.1.1 a) b = true then 0 else 1), τ) ∧ SameR σ τ ∧ CPt n (ld1 X a b m).1.1 (ld1 X a b m).1.2 c' len B kp H τ := by
  have hn := w.2.1
  obtain ⟨σ2, e2, f2, g2, m2, c', c1, c2⟩ := put_eq w hC.1 hC.2.2.1 hC.2.2.2.1 hc (show a < n by omega) hb (show a ≠ b by omega) true
  have e2' : f_X0_put (nI a) (nI b) 1 σ = some σ2 := e2
  have p2 := hC.graph f2 g2 m2 c2
  have fin : ∀ s0, ∃ τ, f_X6_addRead_17 (nI a) (nI b) (bI m) s0 σ = some (s0, τ) ∧ SameR σ τ ∧ CPt n (ld1 X a b m).1.1 (ld1 X a b m).1.2 c' len B kp H τ := by
    intro s0
    unfold f_X6_addRead_17
    rw [e2', bv_eq, isExposed_eq p2.2.1 (by omega), bv_eq, isExposed_eq p2.2.1 (by omega), bv_eq]
    have stay : ¬ (m = true ∧ X.1.2 a = -1 ∧ X.1.2 b = -1) → SameR σ σ2 ∧ CPt n (ld1 X a b m).1.1 (ld1 X a b m).1.2 c' len B kp H σ2 := fun q => by
      refine ⟨f2.sr (by decide), ?_⟩
      show CPt n (stE X.1.1 a b true) (if m = true ∧ X.1.2 a = -1 ∧ X.1.2 b = -1 then jnt X.1.2 a b else X.1.2) c' len B kp H σ2
      rw [if_neg q]; exact p2
    cases m with
    | false =>
      rw [if_pos (show bI false = 0 from rfl)]
      exact ⟨σ2, rfl, stay (fun q => by cases q.1)⟩
    | true =>
      rw [if_neg (by decide)]
      by_cases q1 : X.1.2 a = -1
      · rw [if_pos q1, if_neg (by decide)]
        by_cases q2 : X.1.2 b = -1
        · rw [if_pos q2, if_neg (by decide)]
          obtain ⟨σ3, e3, f3, c3⟩ := join_eq p2.2.1 (show a < 12 by omega) (show b < 12 by omega)
          rw [e3, bv_eq]
          refine ⟨σ3, rfl, (f2.sr (by decide)).tr (f3.sr (by decide)), ?_⟩
          show CPt n (stE X.1.1 a b true) (if true = true ∧ X.1.2 a = -1 ∧ X.1.2 b = -1 then jnt X.1.2 a b else X.1.2) c' len B kp H σ3
          rw [if_pos ⟨rfl, q1, q2⟩]
          exact p2.mate (f3.mono (by decide)) c3
        · rw [if_neg q2, if_pos rfl]
          exact ⟨σ2, rfl, stay (fun q => q2 q.2.2)⟩
      · rw [if_neg q1, if_pos rfl]
        exact ⟨σ2, rfl, stay (fun q => q1 q.2.1)⟩
  unfold f_X6_addRead
  rw [joined_eq hC.1 (by omega) (by omega), bv_eq]
  cases hb' : bt (X.1.1 a) b
  · rw [if_pos (by decide)]
    obtain ⟨τ, h1, h2, h3⟩ := fin 1
    exact ⟨τ, c', c1, h1, h2, h3⟩
  · rw [if_neg (by decide)]
    obtain ⟨τ, h1, h2, h3⟩ := fin 0
    exact ⟨τ, c', c1, h1, h2, h3⟩
theorem x_load_step {n : Nat} {X : ((Nat → Int32) × (Nat → Int32)) × Nat} {len : Nat} {B : Nat → Int32} {kp : Nat} {H : HT} {σ : WD} (w : GW n X.1.1) (h : MW n X.1.1 X.1.2) (hR : RPt n X.1.1 X.1.2 len B kp H σ) {e j a b : Nat} (he : e < 21) (hj : j ≤ e) (hab : a < b) (hb : b < n) (m : Bool) (h16 : σ.1 29 16 = nI e) (t1 : σ.1 39 (3 * j) = nI a) (t2 : σ.1 39 (3 * j + 1) = nI b) (t3 : σ.1 39 (3 * j + 2) = bI m) : ∃ τ, f_X7_load_b45 (nI X.2) (nI j) σ = some (.inl (nI (ld1 X a b m).2, nI (j + 1), τ)) ∧ Fr [30, 31] σ τ ∧ RPt n (ld1 X a b m).1.1 (ld1 X a b m).1.2 len B kp H τ := by
  have hn := w.2.1
  unfold f_X7_load_b45
  rw [h16, if_neg (nI_nlt hj (by omega)), n3, gi90 (by omega), nI_clamp (by omega), t1, li_eq, nI_1, gi90 (by omega), nI_clamp (by omega), t2, li_eq, gi12 (by omega), nI_clamp (by omega), hR.1.2 a (by omega), has_eq (by omega), bv_eq]
  -- behind the flip
  have h98 : ∀ l1 s2, Fr [30] σ s2 → RPt n (stE X.1.1 a b true) X.1.2 len B kp H s2 → ∃ τ, f_X7_load_98 l1 (nI j) (nI a) (nI b) s2 = some (.inl (l1, nI (j + 1), τ)) ∧ Fr [30, 31] σ τ ∧ RPt n (ld1 X a b m).1.1 (ld1 X a b m).1.2 len B kp H τ := by
    intro l1 s2 f2 p2
    unfold f_X7_load_98
    have t3' : s2.1 39 (3 * j + 2) = bI m := by rw [f2.1 39 (by decide)]; exact t3
    rw [n3, nI_2, gi90 (by omega), nI_clamp (by omega), t3', gi12 (by omega), nI_clamp (by omega), p2.2.1 a (by omega), gi12 (by omega), nI_clamp (by omega), p2.2.1 b (by omega), nI_1]
    have stay : ¬ (m = true ∧ X.1.2 a = -1 ∧ X.1.2 b = -1) → Fr [30, 31] σ s2 ∧ RPt n (ld1 X a b m).1.1 (ld1 X a b m).1.2 len B kp H s2 := fun q => by
      refine ⟨f2.mono (by decide), ?_⟩
      show RPt n (stE X.1.1 a b true) (if m = true ∧ X.1.2 a = -1 ∧ X.1.2 b = -1 then jnt X.1.2 a b else X.1.2) len B kp H s2
      rw [if_neg q]; exact p2
    cases m with
    | false =>
      rw [if_neg (by decide)]
      exact ⟨s2, rfl, stay (fun q => by cases q.1)⟩
    | true =>
      rw [if_pos (show bI true = 1 from rfl)]
      by_cases q1 : X.1.2 a = -1
      · rw [if_pos q1]
        by_cases q2 : X.1.2 b = -1
        · rw [if_pos q2]
          obtain ⟨s3, e3, f3, c3⟩ := pair_eq p2.2.1 (show a < 12 by omega) (show b < 12 by omega)
          rw [e3, bv_eq]
          refine ⟨s3, rfl, (f2.mono (by decide)).tr (f3.mono (by decide)), ?_⟩
          show RPt n (stE X.1.1 a b true) (if true = true ∧ X.1.2 a = -1 ∧ X.1.2 b = -1 then jnt X.1.2 a b else X.1.2) len B kp H s3
          rw [if_pos ⟨rfl, q1, q2⟩]
          exact p2.mate (HM.of f3) c3
        · rw [if_neg q2]
          exact ⟨s2, rfl, stay (fun q => q2 q.2.2)⟩
      · rw [if_neg q1]
        exact ⟨s2, rfl, stay (fun q => q1 q.2.1)⟩
  have hE : stE X.1.1 a b true = if bt (X.1.1 a) b = true then X.1.1 else flp X.1.1 a b := rfl
  have h2 : (ld1 X a b m).2 = X.2 + if bt (X.1.1 a) b = true then 0 else 1 := rfl
  rw [h2]
  by_cases q : bt (X.1.1 a) b = true
  · rw [if_pos q] at hE
    rw [if_pos q, if_pos q, if_neg (by decide)]
    exact h98 (nI X.2) σ (Fr.rf _ _) (by rw [hE]; exact hR)
  · rw [if_neg q] at hE
    rw [if_neg q, if_neg q, if_pos rfl]
    obtain ⟨s2, e2, f2, g2⟩ := flip_eq w hR.1 (show a < n by omega) hb (show a ≠ b by omega)
    rw [e2, bv_eq, nI_1]
    exact h98 (nI (X.2 + 1)) s2 f2 (by rw [hE]; exact hR.graph f2 g2)
theorem stq_abs {n : Nat} {B : Nat → Int32} {i : Nat} (h : stq n B i = 4) : ∀ {j : Nat}, i ≤ j → stq n B j = 4
  | 0, q => by rw [show i = 0 by omega] at h; exact h
  | j + 1, q => by
    by_cases e : i = j + 1
    · rw [← e]; exact h
    · rw [stq_succ, stq_abs h (j := j) (by omega)]
      unfold sta
      rw [if_neg (by decide), if_neg (by decide), if_neg (by decide), if_neg (by decide)]
theorem case_load {k : Nat} {σ : WD} (hk : k < 512) (I : Ivt k σ) : Okr (f_X6_load σ) 1 1 (fun s => f_X7_load s) k σ := by
  obtain ⟨n, A, M, c, len, B, kp, H, ⟨w, hM, hlen, hv⟩, hc, hC, hR⟩ := I
  have hn := w.2.1
  unfold f_X6_load
  rw [hC.1.1, isComplete_eq hC.2.2.2.2.1 hlen, bv_eq]
  by_cases hcp : stq n B len = 2 ∨ stq n B len = 3
  · rw [if_pos hcp, if_neg (by decide)]
    have hep : epq n B len = len := by
      obtain ⟨l1, l2, l3⟩ := epq_spec n B len
      rcases Nat.lt_or_ge (epq n B len) len with q | q
      · have := stq_abs (l3 q) (j := len) (by omega)
        omega
      · omega
    -- the edges
    have pure : ∀ e τ, PQ n B len e τ → e < 21 ∧ (∀ j, j ≤ e → qst B j + 2 ≤ len) ∧ (len = qst B e + 2 ∨ len = qst B e + 3) ∧ (∀ j, j < e → lmk B len j = decide (B (qst B j + 2) = 33)) ∧ (∀ j, j ≤ e → EJ n B j (bI (lmk B len j)) τ) ∧ (lmk B len e = true ↔ len = qst B e + 3) := by
      intro e τ hQ
      obtain ⟨p1, p2, p3, p4, p5⟩ := hQ
      have hend : (stq n B len = 2 ∧ len = qst B e + 2 ∧ EJ n B e 0 τ) ∨ (stq n B len = 3 ∧ len = qst B e + 3 ∧ B (qst B e + 2) = 33 ∧ EJ n B e 1 τ) := by
        rcases p5 with ⟨s0, -⟩ | ⟨s0, -⟩ | q | q
        · omega
        · omega
        · exact Or.inl q
        · exact Or.inr q
      have hle : qst B e + 2 ≤ len := by rcases hend with q | q <;> omega
      have hlow : ∀ j, j < e → qst B j + 3 ≤ qst B e := fun j hj => by
        have := qst_up B (i := j) (j := e) (by omega)
        omega
      have hmk : ∀ j, j < e → lmk B len j = decide (B (qst B j + 2) = 33) := fun j hj => by
        unfold lmk
        have := hlow j hj
        rw [decide_eq_true (show qst B j + 2 < len by omega), Bool.true_and]
      have hmke : lmk B len e = true ↔ len = qst B e + 3 := by
        unfold lmk
        simp only [Bool.and_eq_true, decide_eq_true_eq]
        rcases hend with q | q
        · constructor
          · rintro ⟨g, -⟩; omega
          · intro g; omega
        · exact ⟨fun _ => q.2.1, fun _ => ⟨by omega, q.2.2.1⟩⟩
      refine ⟨by omega, fun j hj => ?_, ?_, hmk, fun j hj => ?_, hmke⟩
      · by_cases q : j = e
        · rw [q]; exact hle
        · have := hlow j (by omega); omega
      · rcases hend with q | q
        · exact Or.inl q.2.1
        · exact Or.inr q.2.1
      · by_cases q : j = e
        · rw [q]
          rcases hend with g | g
          · have : lmk B len e = false := by
              cases r : lmk B len e
              · rfl
              · have := hmke.mp r; omega
            rw [this]; exact g.2.2
          · rw [hmke.mpr g.2.1]; exact g.2.2.2
        · have := p4 j (by omega)
          rw [hmk j (by omega)]
          by_cases r : B (qst B j + 2) = 33
          · rw [if_pos r] at this; rw [decide_eq_true r]; exact this
          · rw [if_neg r] at this; rw [decide_eq_false r]; exact this
    obtain ⟨τ0, e0, x0, hq0⟩ := rightLength_eq w hR.1 hR.2.2.1 hlen
    obtain ⟨e, hQ⟩ := hq0 hep
    obtain ⟨he, hpos, hend, hmk, hEJ, hmke⟩ := pure e τ0 hQ
    have hEB : ∀ i, i ≤ e → ∃ a b, EB n B i a b := fun i hi => by
      obtain ⟨a, b, h1, -⟩ := hEJ i hi
      exact ⟨a, b, h1⟩
    -- the class
    have hcl : ∃ τ c', c' ≤ c + (e + 1) ∧ f_X6_load_27 σ = some (nI (lds B len A M (e + 1)).2, τ) ∧ SameR σ τ ∧ CPt n (lds B len A M (e + 1)).1.1 (lds B len A M (e + 1)).1.2 c' 0 B (min (kp + 1) 4) (psh (A, M) H) τ := by
      unfold f_X6_load_27 f_X6_load_46
      obtain ⟨σ1, e1, s1, p1⟩ := hC.save hv.1
      rw [e1, bv_eq]
      obtain ⟨pos, hposd⟩ : ∃ pos : Nat → Nat, ∀ j, pos j = if j ≤ e then qst B j else qst B e + (if lmk B len e = true then 4 else 3) := ⟨_, fun _ => rfl⟩
      obtain ⟨s', ⟨τ, c', hs', hc', hsr, hp⟩, el⟩ := lp_inv (f := fun s : Int32 × Int32 × WD => f_X6_load_b46 s.1 s.2.1 s.2.2) (fun j s => ∃ τ c', s = (nI (lds B len A M j).2, nI (pos j), τ) ∧ c' ≤ c + j ∧ SameR σ τ ∧ CPt n (lds B len A M j).1.1 (lds B len A M j).1.2 c' len B (min (kp + 1) 4) (psh (A, M) H) τ) (a := 0) (b := e + 1) (Nat.zero_le _) (s := (0, 0, σ1)) ⟨σ1, c, by rw [hposd, if_pos (Nat.zero_le e)]; rfl, by omega, s1, p1⟩ (fun j s _ hj hs => by
        obtain ⟨τ, c', rfl, hc', hsr, hp⟩ := hs
        obtain ⟨a, b, hE⟩ := hEB j (by omega)
        obtain ⟨q1, q2⟩ := hE.an hn
        obtain ⟨w1, m1⟩ := lds_ok (len := len) w hM (B := B) (j := j) (fun i hi => hEB i (by omega))
        have hpj : pos j = qst B j := by rw [hposd, if_pos (by omega)]
        have hlj := hpos j (by omega)
        have hb5 := hp.2.2.2.2.1
        have hmj : f_X2_isMarked (nI (qst B j)) τ = some (bI (lmk B len j)) := by
          unfold f_X2_isMarked lmk
          rw [hb5.1, nI_2]
          by_cases g : qst B j + 2 < len
          · rw [if_neg (nI_ge g (by omega)), gi60 (by omega), nI_clamp (by omega), hb5.2 _ g, decide_eq_true g, Bool.true_and]
            by_cases g2 : B (qst B j + 2) = 33
            · rw [if_pos g2, decide_eq_true g2]; rfl
            · rw [if_neg g2, decide_eq_false g2]; rfl
          · rw [if_pos (nI_le (by omega) (by omega)), decide_eq_false g]; rfl
        have hn1 : f_X2_nodeAt (nI (qst B j)) τ = some (nI a) := by
          unfold f_X2_nodeAt
          rw [gi60 (by omega), nI_clamp (by omega), hb5.2 _ (by omega), hE.2.2.1]
        have hn2 : f_X2_nodeAt (nI (qst B j + 1)) τ = some (nI b) := by
          unfold f_X2_nodeAt
          rw [gi60 (by omega), nI_clamp (by omega), hb5.2 _ (by omega), hE.2.2.2]
        obtain ⟨τ2, c2, d1, d2, d3, d4⟩ := addRead_eq w1 m1 hp (by omega) hE.1 hE.2.1 (lmk B len j)
        have hnext : (if bI (lmk B len j) = 0 then qst B j + 3 else qst B j + 4) = pos (j + 1) := by
          rw [hposd]
          by_cases g : j = e
          · rw [if_neg (show ¬ j + 1 ≤ e by omega), g]
            cases lmk B len e
            · rfl
            · rfl
          · rw [if_pos (show j + 1 ≤ e by omega), qst_succ, hmk j (by omega)]
            by_cases g2 : B (qst B j + 2) = 33
            · rw [decide_eq_true g2, if_neg (by decide), if_pos g2]
            · rw [decide_eq_false g2, if_pos (by decide), if_neg g2]
        refine ⟨(nI (lds B len A M (j + 1)).2, nI (pos (j + 1)), τ2), ?_, τ2, c2, rfl, by omega, hsr.tr d3, by rw [lds_succ, q1, q2]; exact d4⟩
        have hcnt : nI (lds B len A M j).2 + nI (if bt ((lds B len A M j).1.1 a) b = true then 0 else 1) = nI (lds B len A M (j + 1)).2 := by
          rw [nI_add, lds_succ, q1, q2]; rfl
        dsimp only
        unfold f_X6_load_b46
        rw [hpj, hb5.1, nI_1, if_neg (nI_ge (by omega) (by omega)), hmj, bv_eq, hn1, bv_eq, hn2, bv_eq, d2, bn_eq, hcnt, ← hnext]
        have e3 : nI (qst B j) + 3 = nI (qst B j + 3) := nI_add _ 3
        have e4 : nI (qst B j) + 4 = nI (qst B j + 4) := nI_add _ 4
        rw [e3, e4]
        cases lmk B len j
        · rw [if_pos (by decide), if_pos (by decide)]
        · rw [if_neg (by decide), if_neg (by decide)])
      rw [el, hs']
      obtain ⟨h1, h2, h3, h4, h5, h6⟩ := hp
      have f : Fr [5] τ (upi τ 5 1 0) := (Fr.rf _ _).upi (by decide) _ _
      have f' := f.1
      have hpe : len ≤ pos (e + 1) + 1 ∧ pos (e + 1) < 100 := by
        rw [hposd, if_neg (by omega)]
        have := hpos e (Nat.le_refl e)
        by_cases g : lmk B len e = true
        · rw [if_pos g]
          have := hmke.mp g
          omega
        · rw [if_neg g]
          rcases hend with q | q
          · omega
          · exact absurd (hmke.mpr q) g
      refine ⟨upi τ 5 1 0, c', hc', lp_end ?_, hsr.tr (f.sr (by decide)), h1.fr f (by decide) (by decide), h2.fr f (by decide), h3.of (f' 1 (by decide)) (f' 22 (by decide)) (f' 23 (by decide)) (f' 24 (by decide)) (f' 26 (by decide)), by rw [f' 1 (by decide)]; exact h4, ⟨by rw [upi_get, if_pos rfl, upd_get, if_pos rfl]; rfl, fun i hi => by omega⟩, h6.of (fun x hx => f' x (by revert x; decide))⟩
      dsimp only
      unfold f_X6_load_b46 f_X6_load_109
      rw [h5.1, nI_1, if_pos (nI_le hpe.1 (by omega)), lt_eq, mr_eq]
    obtain ⟨τ, c', hc', ecl, hs, hC'⟩ := hcl
    rw [ecl, ml_eq]
    obtain ⟨wE, mE⟩ := lds_ok (len := len) w hM (B := B) (j := e + 1) (fun i hi => hEB i (by omega))
    refine ok_ret rfl hs hC' hR (fun s hs => ?_) ⟨wE, mE, by omega, hv.push w hM⟩ (by omega)
    -- the reference
    obtain ⟨t0, f0, x1, hq1⟩ := rightLength_eq w hs.1 hs.2.2.1 hlen
    obtain ⟨e', hQ'⟩ := hq1 hep
    obtain ⟨he', hpos', hend', hmk', hEJ', hmke'⟩ := pure e' t0 hQ'
    have hee : e' = e := by
      have b1 : qst B e' = qst B e ∨ qst B e' + 1 = qst B e ∨ qst B e' = qst B e + 1 := by omega
      rcases Nat.lt_trichotomy e' e with g | g | g
      · have := qst_up B (i := e') (j := e) (by omega); omega
      · exact g
      · have := qst_up B (i := e) (j := e') (by omega); omega
    subst hee
    show ∃ υ, f_X7_load s = _ ∧ _
    unfold f_X7_load
    have h6 : t0.1 29 6 = nI len := by rw [x1.2 6 (by decide) (by decide)]; exact hs.2.2.1.1
    have h15 : ¬ t0.1 29 15 ≤ 1 := by
      rw [hQ'.1]
      exact nI_ge (a := 1) (by omega) (by omega)
    rw [f0, bn_eq, h6, if_pos (by rw [hep]), if_neg h15]
    unfold f_X7_load_25
    have pt0 := x1.rt.rp hs
    obtain ⟨s1, e1, sc1, d1, z1, p1⟩ := (pt0.c0 0).keep hv.1
    rw [lt_eq, c0_0, if_pos le0, e1, bv_eq]
    -- what keep leaves of the edges
    have k39 : s1.1 39 = t0.1 39 := by
      have := keep_eq hv.1 (pt0.c0 0).1 (pt0.c0 0).2.1 (pt0.c0 0).2.2.2
      obtain ⟨y, y1, y2, y3, -⟩ := this
      rw [e1] at y1
      have := Option.some.inj y1
      rw [this, y2.1 39 (by decide), upi_get, if_neg (by decide)]
    have k16 : s1.1 29 16 = nI e' := by
      have := keep_eq hv.1 (pt0.c0 0).1 (pt0.c0 0).2.1 (pt0.c0 0).2.2.2
      obtain ⟨y, y1, y2, y3, -⟩ := this
      rw [e1] at y1
      have := Option.some.inj y1
      rw [this, y3 16 (by decide), upi_get, if_pos rfl, upd_get, if_neg (by decide)]
      exact hQ'.2.1
    unfold f_X7_load_45
    obtain ⟨s', ⟨τ2, hs', hf, hp⟩, el⟩ := lp_inv (f := fun s : Int32 × Int32 × WD => f_X7_load_b45 s.1 s.2.1 s.2.2) (fun j t => ∃ τ2, t = (nI (lds B len A M j).2, nI j, τ2) ∧ Fr [30, 31] s1 τ2 ∧ RPt n (lds B len A M j).1.1 (lds B len A M j).1.2 len B (min (kp + 1) 4) (psh (A, M) H) τ2) (a := 0) (b := e' + 1) (Nat.zero_le _) (s := (0, 0, s1)) ⟨s1, rfl, Fr.rf _ _, p1⟩ (fun j t _ hj ht => by
      obtain ⟨τ2, rfl, hf, hp⟩ := ht
      obtain ⟨a, b, hE, u1, u2, u3⟩ := hEJ' j (by omega)
      obtain ⟨q1, q2⟩ := hE.an hn
      obtain ⟨w1, m1⟩ := lds_ok (len := len) w hM (B := B) (j := j) (fun i hi => hEB i (by omega))
      have e39 : τ2.1 39 = t0.1 39 := by rw [hf.1 39 (by decide), k39]
      obtain ⟨τ3, g1, g2, g3⟩ := x_load_step w1 m1 hp (e := e') (j := j) he' (by omega) hE.1 hE.2.1 (lmk B len j) (by rw [hf.1 29 (by decide)]; exact k16) (by rw [e39]; exact u1) (by rw [e39]; exact u2) (by rw [e39]; exact u3)
      refine ⟨_, g1, τ3, ?_, hf.tr g2, ?_⟩
      · rw [lds_succ, q1, q2]
      · rw [lds_succ, q1, q2]; exact g3)
    have el' : lp (fun s : Int32 × Int32 × WD => f_X7_load_b45 s.1 s.2.1 s.2.2) (0, 0, s1) = lp (fun s : Int32 × Int32 × WD => f_X7_load_b45 s.1 s.2.1 s.2.2) s' := el
    rw [el', hs']
    obtain ⟨h1, h2, h3, h4⟩ := hp
    have e29 : τ2.1 29 = s1.1 29 := hf.1 29 (by decide)
    refine ⟨upi τ2 29 6 0, lp_end ?_, ?_, ?_, ?_, ⟨?_, fun i hi => ?_⟩, fun i hi => ?_, ⟨?_, fun i hi => by omega⟩, ?_, fun j hj i hi => ?_⟩
    · dsimp only
      unfold f_X7_load_b45 f_X7_load_146
      rw [e29, k16, if_pos (nI_lt (by omega) (by omega)), lt_eq, mr_eq]
    · rw [upi_get, if_pos rfl, upd_get, if_neg (by decide), e29, z1, c0_0]
    · show τ2.2 = s.2
      rw [hf.2, d1]
      exact x1.1.2
    · exact (x1.rt.sc.tr (SameC.c0 t0 0)).tr (sc1.tr ((hf.sc (by decide)).tr (((Fr.rf [29] τ2).upi (by decide) _ _).sc (by decide))))
    · rw [upi_get, if_pos rfl, upd_get, if_neg (by decide)]; exact h1.1
    · rw [upi_get, if_neg (by decide)]; exact h1.2 i hi
    · rw [upi_get, if_neg (by decide)]; exact h2 i hi
    · rw [upi_get, if_pos rfl, upd_get, if_pos rfl]; rfl
    · rw [upi_get, if_pos rfl, upd_get, if_neg (by decide)]; exact h4.1
    · rw [upi_get, if_neg (by decide)]; exact h4.2 j hj i hi
  · rw [if_neg hcp, if_pos rfl]
    obtain ⟨τ0, e0, x0, hq0⟩ := rightLength_eq w hR.1 hR.2.2.1 hlen
    have p0 := x0.rt.rp hR
    refine Or.inr ⟨1, 1, 0, upi τ0 29 0 1, rfl, Or.inl ⟨rfl, rfl⟩, ?_, c0_0 τ0 1, n, A, M, c, len, B, kp, H, ⟨w, hM, hlen, hv⟩, by omega, (hC.same x0.rt.sc).same (SameC.c0 τ0 1), p0.c0 1⟩
    show f_X7_load σ = _
    have h24 : f_X7_load_24 τ0 = some (0, upi τ0 29 0 1) := by
      unfold f_X7_load_24 f_X7_load_25
      rw [lt_eq, c0_0, if_neg nle1]
    unfold f_X7_load
    have h6 : τ0.1 29 6 = nI len := p0.2.2.1.1
    rw [e0, bn_eq, h6]
    by_cases q : epq n B len = len
    · obtain ⟨e, hQ⟩ := hq0 q
      have hle : stq n B len ≤ 1 := by
        rcases hQ.2.2.2.2 with ⟨s0, -⟩ | ⟨s0, -⟩ | ⟨s0, -⟩ | ⟨s0, -⟩ <;> omega
      rw [if_pos (by rw [q]), hQ.1, if_pos (show nI (stq n B len) ≤ (1 : Int32) from nI_le hle (by decide)), h24]
    · have := (epq_spec n B len).1
      rw [if_neg (fun g => q (nI_inj (by omega) (by omega) g)), h24]
