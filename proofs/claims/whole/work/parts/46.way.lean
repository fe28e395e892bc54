-- ===== the way of an exposed node: the rule, and the class =====
def fsm (g : Nat → Option (List Nat)) (n : Nat) : Option (List Nat) := (List.range n).findSome? g
theorem fsm_succ (g : Nat → Option (List Nat)) (n : Nat) : fsm g (n + 1) = (fsm g n).or (g n) := by
  unfold fsm
  rw [List.range_succ, List.findSome?_append]
  simp
theorem fsm_none {g : Nat → Option (List Nat)} : ∀ {n : Nat}, (∀ i, i < n → g i = none) → fsm g n = none
  | 0, _ => rfl
  | n + 1, h => by rw [fsm_succ, fsm_none (fun i hi => h i (by omega)), h n (by omega)]; rfl
theorem fsm_some {g : Nat → Option (List Nat)} {k : Nat} {p : List Nat} (h1 : ∀ i, i < k → g i = none) (h2 : g k = some p) : ∀ {n : Nat}, k < n → fsm g n = some p
  | 0, h => by omega
  | n + 1, h => by
    rw [fsm_succ]
    by_cases e : k = n
    · subst e
      rw [fsm_none h1, h2]; rfl
    · rw [fsm_some h1 h2 (n := n) (by omega)]; rfl
theorem fsm_ex {g : Nat → Option (List Nat)} {n : Nat} {p : List Nat} (h : fsm g n = some p) : ∃ k, k < n ∧ g k = some p ∧ ∀ i, i < k → g i = none := by
  rcases first_not (fun i => g i = none) n with q | ⟨k, q1, q2, q3⟩
  · rw [fsm_none q] at h; cases h
  · cases hk : g k with
    | none => exact absurd hk q2
    | some p2 =>
      rw [fsm_some q3 hk q1] at h
      exact ⟨k, q1, by rw [← h]; exact hk, q3⟩
/-- the first way through d - 1 more pairs, from the end e, with the nodes U used -/
def wz (n : Nat) (A M : Nat → Int32) : Nat → Int32 → Nat → Option (List Nat)
  | 0, _, _ => none
  | d + 1, U, e => fsm (fun w => if bt (A e) w = true ∧ bt U w = false then (if M w = -1 then (if d = 0 then some [w] else none) else (wz n A M d (U ||| (sg w ||| sg (mtn M w))) (mtn M w)).map (fun p => w :: mtn M w :: p)) else none) n
def wg (n : Nat) (A M : Nat → Int32) (d : Nat) (U : Int32) (e w : Nat) : Option (List Nat) := if bt (A e) w = true ∧ bt U w = false then (if M w = -1 then (if d = 0 then some [w] else none) else (wz n A M d (U ||| (sg w ||| sg (mtn M w))) (mtn M w)).map (fun p => w :: mtn M w :: p)) else none
theorem wz_succ (n : Nat) (A M : Nat → Int32) (d : Nat) (U : Int32) (e : Nat) : wz n A M (d + 1) U e = fsm (wg n A M d U e) n := rfl
/-- a used set holds pairs whole -/
def UV (n : Nat) (M : Nat → Int32) (U : Int32) : Prop := Bd n U ∧ ∀ x, x < n → M x ≠ -1 → bt U x = bt U (mtn M x)
theorem b_two {U : Int32} {w m i : Nat} (hw : w < 32) (hm : m < 32) (hi : i < 32) : bt (U ||| (sg w ||| sg m)) i = (bt U i || (decide (i = w) || decide (i = m))) := by rw [b_or, b_or, b_sg hw hi, b_sg hm hi]
theorem UV.step {n : Nat} {A M : Nat → Int32} (w : GW n A) (h : MW n A M) {U : Int32} (hU : UV n M U) {x : Nat} (hx : x < n) (hM : M x ≠ -1) : UV n M (U ||| (sg x ||| sg (mtn M x))) := by
  have hn := w.2.1
  obtain ⟨a, b, c, d, e⟩ := h.mat (show x < 12 by omega) hM
  obtain ⟨b1, b2⟩ := h.back w (show x < 12 by omega) hM
  refine ⟨hU.1.or ((Bd.sg a (by omega)).or (Bd.sg b (by omega))), fun y hy hN => ?_⟩
  obtain ⟨a', b', -, -, -⟩ := h.mat (show y < 12 by omega) hN
  obtain ⟨c1, c2⟩ := h.back w (show y < 12 by omega) hN
  rw [b_two (by omega) (by omega) (by omega), b_two (by omega) (by omega) (by omega), hU.2 y hy hN]
  congr 1
  by_cases e1 : y = x
  · subst e1; simp
  · by_cases e2 : y = mtn M x
    · have e3 : mtn M y = x := by rw [e2]; exact b2
      rw [e3]; simp [e2]
    · have e3 : mtn M y ≠ x := fun q => e2 (by rw [← q]; exact c2.symm)
      have e4 : mtn M y ≠ mtn M x := fun q => e1 (by rw [← c2, q, b2])
      simp [e1, e2, e3, e4]
theorem pcn_add {T : Int32} {v : Nat} (hv : v < 12) (hT : bt T v = false) : pcn (T ||| sg v) = pcn T + 1 := by
  rw [pcn_cl (x := T ||| sg v) (a := v) hv (by rw [b_or, b_sg (by omega) (by omega)]; simp)]
  congr 1
  refine congrArg pcn (s_ext (fun i => ?_))
  rcases Nat.lt_or_ge i 32 with hi | hi
  · rw [b_cl (by omega) hi, b_or, b_sg (by omega) hi]
    by_cases e : i = v
    · subst e; simp [hT]
    · simp [e]
  · rw [b_big hi, b_big hi]
theorem pcn_two {U : Int32} {x m : Nat} (hx : x < 12) (hm : m < 12) (hxm : m ≠ x) (h1 : bt U x = false) (h2 : bt U m = false) : pcn (U ||| (sg x ||| sg m)) = pcn U + 2 := by
  rw [← Int32.or_assoc, pcn_add hm (by rw [b_or, b_sg (by omega) (by omega), h2]; simp [hxm]), pcn_add hx h1]
theorem wz_len {n : Nat} {A M : Nat → Int32} (w : GW n A) (h : MW n A M) : ∀ {d : Nat} {U : Int32} {e : Nat} {p : List Nat}, UV n M U → wz n A M (d + 1) U e = some p → pcn U + 2 * d + 1 ≤ n ∧ 2 * d ≤ pcn (dif (msk M n) U) ∧ p.length = 2 * d + 1
  | 0, U, e, p, hU, hp => by
    have hn := w.2.1
    rw [wz_succ] at hp
    obtain ⟨k, k1, k2, k3⟩ := fsm_ex hp
    unfold wg at k2
    split at k2
    · rename_i hk
      split at k2
      · rename_i hM
        rw [if_pos rfl] at k2
        have hU1 : Bd n (U ||| sg k) := hU.1.or (Bd.sg k1 (by omega))
        have h1 := pcn_le hn hU1
        rw [pcn_add (by omega) hk.2] at h1
        refine ⟨by omega, by omega, ?_⟩
        rw [← Option.some.inj k2]; rfl
      · cases k2
    · cases k2
  | d + 1, U, e, p, hU, hp => by
    have hn := w.2.1
    rw [wz_succ] at hp
    obtain ⟨k, k1, k2, k3⟩ := fsm_ex hp
    unfold wg at k2
    split at k2
    · rename_i hk
      split at k2
      · rw [if_neg (by omega)] at k2; cases k2
      · rename_i hM
        obtain ⟨a, b, c, d', e'⟩ := h.mat (show k < 12 by omega) hM
        obtain ⟨b1, b2⟩ := h.back w (show k < 12 by omega) hM
        have b3 := h.ne w (show k < 12 by omega) hM
        cases hz : wz n A M (d + 1) (U ||| (sg k ||| sg (mtn M k))) (mtn M k) with
        | none => rw [hz] at k2; cases k2
        | some p2 =>
          rw [hz] at k2
          obtain ⟨i1, i2, i3⟩ := wz_len w h (hU.step w h k1 hM) hz
          have hm : bt U (mtn M k) = false := by rw [← hU.2 k k1 hM]; exact hk.2
          have e1 := pcn_two (U := U) (show k < 12 by omega) (show mtn M k < 12 by omega) b3 hk.2 hm
          have e2 : dif (msk M n) (U ||| (sg k ||| sg (mtn M k))) = cl (cl (dif (msk M n) U) k) (mtn M k) := s_ext (fun i => by
            rcases Nat.lt_or_ge i 32 with hi | hi
            · rw [b_dif hi, b_two (by omega) (by omega) hi, b_cl (by omega) hi, b_cl (by omega) hi, b_dif hi]
              by_cases q1 : i = k <;> by_cases q2 : i = mtn M k <;> simp [q1, q2]
            · rw [b_big hi, b_big hi])
          have c1 := pcn_cl (x := dif (msk M n) U) (a := k) (by omega) (m_dif.mpr ⟨(msk_iff (by omega)).mpr ⟨k1, hM⟩, hk.2⟩)
          have c2 := pcn_cl (x := cl (dif (msk M n) U) k) (a := mtn M k) (by omega) ((m_cl (by omega)).mpr ⟨m_dif.mpr ⟨(msk_iff (by omega)).mpr ⟨b, b1⟩, hm⟩, b3⟩)
          rw [e2] at i2
          refine ⟨by omega, by omega, ?_⟩
          have e3 := Option.some.inj k2
          rw [← e3]
          simp only [List.length_cons, i3]; omega
    · cases k2
/-- the pair's number of a node -/
def pix (M : Nat → Int32) (x : Nat) : Nat := szq M (min x (mtn M x))
/-- the nodes U and the pairs P say the same, with the root r -/
def ND (n : Nat) (M : Nat → Int32) (r : Nat) (U P : Int32) : Prop := UV n M U ∧ ∀ x, x < n → (M x = -1 → (bt U x = true ↔ x = r)) ∧ (M x ≠ -1 → (bt U x = true ↔ bt P (pix M x) = true))
theorem ND.start {n : Nat} {A M : Nat → Int32} (w : GW n A) (h : MW n A M) {r : Nat} (hr : r < n) (hr1 : M r = -1) : ND n M r (sg r) 0 := by
  have hn := w.2.1
  refine ⟨⟨Bd.sg hr (by omega), fun x hx hM => ?_⟩, fun x hx => ⟨fun hM => ?_, fun hM => ?_⟩⟩
  · obtain ⟨a, b, c, d, e⟩ := h.mat (show x < 12 by omega) hM
    obtain ⟨b1, b2⟩ := h.back w (show x < 12 by omega) hM
    rw [b_sg (by omega) (by omega), b_sg (by omega) (by omega)]
    have e1 : x ≠ r := fun q => by rw [q] at hM; exact hM hr1
    have e2 : mtn M x ≠ r := fun q => by rw [q] at b1; exact b1 hr1
    simp [e1, e2]
  · rw [b_sg (by omega) (by omega)]; simp
  · rw [b_sg (by omega) (by omega), b_0]
    have e1 : x ≠ r := fun q => by rw [q] at hM; exact hM hr1
    simp [e1]
theorem pbq_pix {M : Nat → Int32} {x : Nat} (hM : M x ≠ -1) : pbq M x = sg (pix M x) := by unfold pbq pix; rw [if_neg hM]
theorem pix_lt {n : Nat} {A M : Nat → Int32} (w : GW n A) (h : MW n A M) {x : Nat} (hx : x < 12) (hM : M x ≠ -1) : pix M x < 6 := by
  obtain ⟨i, h1, h2, h3⟩ := pbq_sg w h hx hM
  unfold pix; omega
theorem sg_and {P : Int32} {i : Nat} (hi : i < 32) : sg i &&& P = 0 ↔ bt P i = false := by
  constructor
  · intro q
    have := congrArg (fun x => bt x i) q
    simp only [b_and, b_sg hi hi, b_0] at this
    simpa using this
  · intro q
    refine s_ext (fun j => ?_)
    rw [m_an, b_0]
    constructor
    · rintro ⟨q1, q2⟩
      rw [b_sg hi (lt32 q1)] at q1
      simp only [decide_eq_true_eq] at q1
      rw [q1, q] at q2; exact q2
    · intro q; cases q
theorem sg_ne0 {i : Nat} (hi : i < 32) : sg i ≠ 0 := fun q => by
  have := congrArg (fun x => bt x i) q
  simp only [b_sg hi hi, b_0] at this
  simp at this
theorem ND.step {n : Nat} {A M : Nat → Int32} (w : GW n A) (h : MW n A M) {r : Nat} {U P : Int32} (hN : ND n M r U P) {x : Nat} (hx : x < n) (hM : M x ≠ -1) : ND n M r (U ||| (sg x ||| sg (mtn M x))) (P ||| sg (pix M x)) := by
  have hn := w.2.1
  obtain ⟨a, b, c, d, e⟩ := h.mat (show x < 12 by omega) hM
  obtain ⟨b1, b2⟩ := h.back w (show x < 12 by omega) hM
  have hp := pix_lt w h (show x < 12 by omega) hM
  refine ⟨hN.1.step w h hx hM, fun y hy => ⟨fun hY => ?_, fun hY => ?_⟩⟩
  · rw [b_two (by omega) (by omega) (by omega), ← (hN.2 y hy).1 hY]
    have e1 : y ≠ x := fun q => by rw [q] at hY; exact hM hY
    have e2 : y ≠ mtn M x := fun q => by rw [q] at hY; exact b1 hY
    simp [e1, e2]
  · have hq := pix_lt w h (show y < 12 by omega) hY
    rw [b_two (by omega) (by omega) (by omega), b_or, b_sg (by omega) (by omega)]
    have e1 := (hN.2 y hy).2 hY
    have e2 := pbq_same w h (show x < 12 by omega) (show y < 12 by omega) hM hY
    have e3 : pix M y = pix M x ↔ y = x ∨ y = mtn M x := by rw [← e2]; exact ⟨fun q => q.symm, fun q => q.symm⟩
    simp only [Bool.or_eq_true, decide_eq_true_eq]
    rw [e1, e3]
theorem gi64 {γ : Type} {x : Int32} (h : Bd 6 x) (k : Option γ) : gi x 64 k = k := by
  refine if_neg (fun q => ?_)
  rcases q with q | q
  · exact bd_in (h.mono (by decide)) (Or.inl q)
  · have := ix_lt_pow (n := 6) (by decide) h
    have : x.toNatClampNeg < 64 := this
    omega
/-- what the search has marked leads nowhere -/
def MIw (n : Nat) (A M : Nat → Int32) (r T j : Nat) (σ : WD) : Prop := ∀ P U e, Bd 6 P → j ≤ pcn P → e < n → ND n M r U P → bt (σ.1 20 (ix P)) e = true → wz n A M (T + 1 - pcn P) U e = none
theorem nI_2 (a : Nat) : nI a + 2 = nI (a + 2) := nI_add a 2
theorem MIw.cong {n : Nat} {A M : Nat → Int32} {r T j : Nat} {σ τ : WD} (h : MIw n A M r T j σ) (e : τ.1 20 = σ.1 20) : MIw n A M r T j τ := fun P U x h1 h2 h3 h4 h5 => h P U x h1 h2 h3 h4 (by rw [← e]; exact h5)
theorem followWay_eq {n : Nat} {A M : Nat → Int32} (w : GW n A) (h : MW n A M) {r : Nat} (hr : r < n) (hr1 : M r = -1) {T : Nat} (hT : T ≤ 5) : ∀ (t j fu : Nat) (P U : Int32) (e : Nat) (σ : WD), t + j = T → t < fu → GC n A σ → CM M σ → PBs n M σ → Bd 6 P → pcn P = j → ND n M r U P → e < n → σ.1 21 (2 * j) = nI e → σ.1 21 0 = nI r → MIw n A M r T j σ →
    ∃ τ, Fr [20, 21] σ τ ∧ (∀ i, i ≤ 2 * j → τ.1 21 i = σ.1 21 i) ∧ ((∃ p, f_X5_followWay fu (nI (2 * j)) P (nI t) σ = some (1, τ) ∧ wz n A M (t + 1) U e = some p ∧ ∀ i, i < p.length → τ.1 21 (2 * j + 1 + i) = nI (p.getD i 0)) ∨ (f_X5_followWay fu (nI (2 * j)) P (nI t) σ = some (0, τ) ∧ wz n A M (t + 1) U e = none ∧ MIw n A M r T j τ ∧ ∀ P', Bd 6 P' → pcn P' < j → τ.1 20 (ix P') = σ.1 20 (ix P'))) := by
  have hn := w.2.1
  intro t
  induction t with
  | zero =>
    intro j fu P U e σ htj hfu hG hC hB hP hPj hN he h21 h210 hI
    obtain ⟨fu, rfl⟩ : ∃ f, fu = f + 1 := ⟨fu - 1, by omega⟩
    have hj : j = T := by omega
    have hff : f_X5_followWay (fu + 1) (nI (2 * j)) P (nI 0) σ = f_X5_followWay_0 (f_X5_followWay fu) (nI (2 * j)) P (nI 0) σ := rfl
    rw [hff]
    unfold f_X5_followWay_0
    rw [gi12 (by omega), nI_clamp (by omega), h21, li_eq, gi64 hP]
    by_cases hb : bt (σ.1 20 (ix P)) e = true
    · rw [if_neg (fun q => by rw [tb_zero (by omega)] at q; rw [hb] at q; cases q)]
      refine ⟨σ, Fr.rf _ _, fun _ _ => rfl, Or.inr ⟨rfl, ?_, hI, fun _ _ _ => rfl⟩⟩
      have := hI P U e hP (by omega) he hN hb
      rw [hPj, show T + 1 - j = 0 + 1 by omega] at this
      exact this
    · rw [if_pos ((tb_zero (by omega)).mpr (by simpa using hb)), gi64 hP, gi64 hP, sg_eq, lt_eq]
      obtain ⟨σ1, hσ1⟩ : ∃ s, s = upi σ 20 (ix P) (σ.1 20 (ix P) ||| sg e) := ⟨_, rfl⟩
      have hσ1' : upi σ 20 (P : Int32).toNatClampNeg (σ.1 20 (P : Int32).toNatClampNeg ||| sg e) = σ1 := hσ1.symm
      rw [hσ1']
      have f1 : Fr [20, 21] σ σ1 := by rw [hσ1]; exact (Fr.rf _ _).upi (by decide) _ _
      have c21 : σ1.1 21 = σ.1 21 := by rw [hσ1, upi_get, if_neg (by decide)]
      -- what holds while the loop runs
      have stp : ∀ x τ, x < n → Fr [21] σ1 τ → (∀ i, i ≤ 2 * j → τ.1 21 i = σ.1 21 i) → ∃ τ2, Fr [21] σ1 τ2 ∧ (∀ i, i ≤ 2 * j → τ2.1 21 i = σ.1 21 i) ∧ ((wg n A M 0 U e x = none ∧ f_X5_followWay_b40 (f_X5_followWay fu) (nI (2 * j)) P (nI 0) (nI e) (nI x) τ = some (.inl (nI (x + 1), τ2))) ∨ (wg n A M 0 U e x = some [x] ∧ f_X5_followWay_b40 (f_X5_followWay fu) (nI (2 * j)) P (nI 0) (nI e) (nI x) τ = some (.inr (1, τ2)) ∧ τ2.1 21 (2 * j + 1) = nI x)) := by
        intro x τ hx hf hc
        have fall : Fr [20, 21] σ τ := f1.tr (hf.mono (by decide))
        have hGt := hG.fr fall (by decide) (by decide)
        have hBt : τ.1 19 x = pbq M x := by rw [fall.1 19 (by decide)]; exact hB x hx
        have hb40 : f_X5_followWay_b40 (f_X5_followWay fu) (nI (2 * j)) P (nI 0) (nI e) (nI x) τ = if bt (A e) x = true then bn (f_X5_followWayTo (f_X5_followWay fu) (nI x) (nI (2 * j)) P (nI 0) τ) (fun r72 σ72 => if r72 = 0 then some (.inl ((nI x + 1), σ72)) else some (.inr (1, σ72))) else some (.inl (nI x + 1, τ)) := by
          unfold f_X5_followWay_b40
          rw [hGt.1, if_neg (nI_ge hx (by omega)), joined_eq hGt (by omega) (by omega), bv_eq]
          by_cases hA : bt (A e) x = true
          · rw [if_pos hA, if_pos hA, if_neg (by decide)]
          · rw [if_neg hA, if_neg hA, if_pos rfl]
        by_cases hA : bt (A e) x = true
        · rw [if_pos hA] at hb40
          have f2 : Fr [21] σ1 (upi τ 21 (2 * j + 1) (nI x)) := hf.upi (by decide) _ _
          have hc2 : ∀ i, i ≤ 2 * j → (upi τ 21 (2 * j + 1) (nI x)).1 21 i = σ.1 21 i := fun i hi => by
            rw [upi_get, if_pos rfl, upd_get, if_neg (by omega)]; exact hc i hi
          have hto : f_X5_followWayTo (f_X5_followWay fu) (nI x) (nI (2 * j)) P (nI 0) τ = if pbq M x = 0 then (if nI x = nI r then some (0, upi τ 21 (2 * j + 1) (nI x)) else some (1, upi τ 21 (2 * j + 1) (nI x))) else some (0, upi τ 21 (2 * j + 1) (nI x)) := by
            unfold f_X5_followWayTo
            have g0 : ∀ {γ : Type} (k : Option γ), gi 0 12 k = k := fun k => gi_in (i := 0) (by decide) (by decide) k
            have c0 : (upi τ 21 (2 * j + 1) (nI x)).1 21 (0 : Int32).toNatClampNeg = nI r := by
              show (upi τ 21 (2 * j + 1) (nI x)).1 21 0 = nI r
              rw [hc2 0 (by omega)]; exact h210
            rw [gi12 (by omega), nI_clamp (by omega), hBt, li_eq, if_pos (show nI 0 = 0 from rfl), nI_1, gi12 (by omega), nI_clamp (by omega), lt_eq, g0, c0]
          refine ⟨upi τ 21 (2 * j + 1) (nI x), f2, hc2, ?_⟩
          by_cases hM : M x = -1
          · have hp0 : pbq M x = 0 := by unfold pbq; rw [if_pos hM]
            rw [if_pos hp0] at hto
            by_cases hxr : x = r
            · left
              rw [if_pos (by rw [hxr])] at hto
              rw [hb40, hto, bn_eq, if_pos rfl, nI_1]
              refine ⟨?_, rfl⟩
              unfold wg
              rw [if_neg (fun q => by rw [((hN.2 x hx).1 hM).mpr hxr] at q; cases q.2)]
            · right
              rw [if_neg (fun q => hxr (nI_inj (by omega) (by omega) q))] at hto
              rw [hb40, hto, bn_eq, if_neg (by decide)]
              have hU : bt U x = false := by
                cases q : bt U x
                · rfl
                · exact absurd (((hN.2 x hx).1 hM).mp q) hxr
              unfold wg
              rw [if_pos ⟨hA, hU⟩, if_pos hM, if_pos rfl]
              refine ⟨rfl, rfl, ?_⟩
              rw [upi_get, if_pos rfl, upd_get, if_pos rfl]
          · left
            have hp6 := pix_lt w h (show x < 12 by omega) hM
            rw [if_neg (by rw [pbq_pix hM]; exact sg_ne0 (by omega))] at hto
            rw [hb40, hto, bn_eq, if_pos rfl, nI_1]
            refine ⟨?_, rfl⟩
            unfold wg
            by_cases hU : bt (A e) x = true ∧ bt U x = false
            · rw [if_pos hU, if_neg hM]; rfl
            · rw [if_neg hU]
        · refine ⟨τ, hf, hc, Or.inl ⟨?_, ?_⟩⟩
          · unfold wg
            rw [if_neg (fun q => hA q.1)]
          · rw [hb40, if_neg hA, nI_1]
      unfold f_X5_followWay_40
      rcases first_not (fun x => wg n A M 0 U e x = none) n with hall | ⟨k, k1, k2, k3⟩
      · obtain ⟨s', ⟨τ, hs', hf, hc⟩, el⟩ := lp_inv (f := fun s : Int32 × WD => f_X5_followWay_b40 (f_X5_followWay fu) (nI (2 * j)) P (nI 0) (nI e) s.1 s.2) (fun i s => ∃ τ, s = (nI i, τ) ∧ Fr [21] σ1 τ ∧ ∀ i, i ≤ 2 * j → τ.1 21 i = σ.1 21 i) (a := 0) (b := n) (Nat.zero_le _) (s := (0, σ1)) ⟨σ1, rfl, Fr.rf _ _, fun i _ => by rw [c21]⟩ (fun x s _ hx hs => by
          obtain ⟨τ, rfl, hf, hc⟩ := hs
          obtain ⟨τ2, f2, c2, q | q⟩ := stp x τ hx hf hc
          · exact ⟨_, q.2, τ2, rfl, f2, c2⟩
          · rw [hall x hx] at q; cases q.1)
        rw [el, hs']
        have fall : Fr [20, 21] σ τ := f1.tr (hf.mono (by decide))
        refine ⟨τ, fall, hc, Or.inr ⟨lp_end ?_, by rw [wz_succ]; exact fsm_none hall, ?_, ?_⟩⟩
        · dsimp only
          unfold f_X5_followWay_b40
          rw [(hG.fr fall (by decide) (by decide)).1, if_pos (nI_le (Nat.le_refl n) (by omega))]
        · intro P' U' e' g1 g2 g3 g4 g5
          rw [hf.1 20 (by decide), hσ1, upi_get, if_pos rfl, upd_get] at g5
          by_cases eP : ix P' = ix P
          · have eP2 := ix_inj (g1.mono (by decide)) (hP.mono (by decide)) eP
            subst eP2
            rw [if_pos rfl, b_or, b_sg (by omega) (by omega), Bool.or_eq_true] at g5
            rcases g5 with g5 | g5
            · exact hI P' U' e' g1 g2 g3 g4 g5
            · simp only [decide_eq_true_eq] at g5
              subst g5
              have : U' = U := s_ext (fun i => by
                constructor
                · intro q
                  have hi := b_lt g4.1.1 q
                  by_cases hM : M i = -1
                  · exact ((hN.2 i hi).1 hM).mpr (((g4.2 i hi).1 hM).mp q)
                  · exact ((hN.2 i hi).2 hM).mpr (((g4.2 i hi).2 hM).mp q)
                · intro q
                  have hi := b_lt hN.1.1 q
                  by_cases hM : M i = -1
                  · exact ((g4.2 i hi).1 hM).mpr (((hN.2 i hi).1 hM).mp q)
                  · exact ((g4.2 i hi).2 hM).mpr (((hN.2 i hi).2 hM).mp q))
              rw [this, hPj, show T + 1 - j = 0 + 1 by omega, wz_succ]
              exact fsm_none hall
          · rw [if_neg eP] at g5
            exact hI P' U' e' g1 g2 g3 g4 g5
        · intro P' g1 g2
          rw [hf.1 20 (by decide), hσ1, upi_get, if_pos rfl, upd_get, if_neg]
          intro eP
          have eP2 := ix_inj (g1.mono (by decide)) (hP.mono (by decide)) eP
          rw [eP2] at g2; omega
      · obtain ⟨s', ⟨τ, hs', hf, hc⟩, el⟩ := lp_inv (f := fun s : Int32 × WD => f_X5_followWay_b40 (f_X5_followWay fu) (nI (2 * j)) P (nI 0) (nI e) s.1 s.2) (fun i s => ∃ τ, s = (nI i, τ) ∧ Fr [21] σ1 τ ∧ ∀ i, i ≤ 2 * j → τ.1 21 i = σ.1 21 i) (a := 0) (b := k) (Nat.zero_le _) (s := (0, σ1)) ⟨σ1, rfl, Fr.rf _ _, fun i _ => by rw [c21]⟩ (fun x s _ hx hs => by
          obtain ⟨τ, rfl, hf, hc⟩ := hs
          obtain ⟨τ2, f2, c2, q | q⟩ := stp x τ (by omega) hf hc
          · exact ⟨_, q.2, τ2, rfl, f2, c2⟩
          · rw [k3 x hx] at q; cases q.1)
        obtain ⟨τ2, f2, c2, q | q⟩ := stp k τ k1 hf hc
        · exact absurd q.1 k2
        · rw [el, hs']
          refine ⟨τ2, f1.tr (f2.mono (by decide)), c2, Or.inl ⟨[k], lp_end q.2.1, by rw [wz_succ]; exact fsm_some k3 q.1 k1, fun i hi => ?_⟩⟩
          have hi0 : i = 0 := by simp at hi; omega
          subst hi0
          exact q.2.2
  | succ t ih =>
    intro j fu P U e σ htj hfu hG hC hB hP hPj hN he h21 h210 hI
    obtain ⟨fu, rfl⟩ : ∃ f, fu = f + 1 := ⟨fu - 1, by omega⟩
    have hff : f_X5_followWay (fu + 1) (nI (2 * j)) P (nI (t + 1)) σ = f_X5_followWay_0 (f_X5_followWay fu) (nI (2 * j)) P (nI (t + 1)) σ := rfl
    rw [hff]
    unfold f_X5_followWay_0
    rw [gi12 (by omega), nI_clamp (by omega), h21, li_eq, gi64 hP]
    by_cases hb : bt (σ.1 20 (ix P)) e = true
    · rw [if_neg (fun q => by rw [tb_zero (by omega)] at q; rw [hb] at q; cases q)]
      refine ⟨σ, Fr.rf _ _, fun _ _ => rfl, Or.inr ⟨rfl, ?_, hI, fun _ _ _ => rfl⟩⟩
      have := hI P U e hP (by omega) he hN hb
      rw [hPj, show T + 1 - j = t + 1 + 1 by omega] at this
      exact this
    · rw [if_pos ((tb_zero (by omega)).mpr (by simpa using hb)), gi64 hP, gi64 hP, sg_eq, lt_eq]
      obtain ⟨σ1, hσ1⟩ : ∃ s, s = upi σ 20 (ix P) (σ.1 20 (ix P) ||| sg e) := ⟨_, rfl⟩
      have hσ1' : upi σ 20 (P : Int32).toNatClampNeg (σ.1 20 (P : Int32).toNatClampNeg ||| sg e) = σ1 := hσ1.symm
      rw [hσ1']
      have f1 : Fr [20, 21] σ σ1 := by rw [hσ1]; exact (Fr.rf _ _).upi (by decide) _ _
      have c21 : σ1.1 21 = σ.1 21 := by rw [hσ1, upi_get, if_neg (by decide)]
      have same : ∀ P', Bd 6 P' → P' ≠ P → σ1.1 20 (ix P') = σ.1 20 (ix P') := fun P' g1 g2 => by
        rw [hσ1, upi_get, if_pos rfl, upd_get, if_neg (fun eP => g2 (ix_inj (g1.mono (by decide)) (hP.mono (by decide)) eP))]
      have hI1 : MIw n A M r T (j + 1) σ1 := fun P' U' e' g1 g2 g3 g4 g5 => by
        have hne : P' ≠ P := fun q => by rw [q, hPj] at g2; omega
        rw [same P' g1 hne] at g5
        exact hI P' U' e' g1 (by omega) g3 g4 g5
      have stp : ∀ x τ, x < n → Fr [20, 21] σ1 τ → (∀ i, i ≤ 2 * j → τ.1 21 i = σ.1 21 i) → MIw n A M r T (j + 1) τ → (∀ P', Bd 6 P' → pcn P' < j + 1 → τ.1 20 (ix P') = σ1.1 20 (ix P')) → ∃ τ2, Fr [20, 21] σ1 τ2 ∧ (∀ i, i ≤ 2 * j → τ2.1 21 i = σ.1 21 i) ∧ ((wg n A M (t + 1) U e x = none ∧ f_X5_followWay_b40 (f_X5_followWay fu) (nI (2 * j)) P (nI (t + 1)) (nI e) (nI x) τ = some (.inl (nI (x + 1), τ2)) ∧ MIw n A M r T (j + 1) τ2 ∧ ∀ P', Bd 6 P' → pcn P' < j + 1 → τ2.1 20 (ix P') = σ1.1 20 (ix P')) ∨ (∃ p, wg n A M (t + 1) U e x = some p ∧ f_X5_followWay_b40 (f_X5_followWay fu) (nI (2 * j)) P (nI (t + 1)) (nI e) (nI x) τ = some (.inr (1, τ2)) ∧ ∀ i, i < p.length → τ2.1 21 (2 * j + 1 + i) = nI (p.getD i 0))) := by
        intro x τ hx hf hc hIt hlow
        have fall : Fr [20, 21] σ τ := f1.tr hf
        have hGt := hG.fr fall (by decide) (by decide)
        have hCt := hC.fr fall (by decide)
        have hBt : τ.1 19 x = pbq M x := by rw [fall.1 19 (by decide)]; exact hB x hx
        have stay : wg n A M (t + 1) U e x = none → f_X5_followWay_b40 (f_X5_followWay fu) (nI (2 * j)) P (nI (t + 1)) (nI e) (nI x) τ = some (.inl (nI (x + 1), τ)) → ∃ τ2, Fr [20, 21] σ1 τ2 ∧ (∀ i, i ≤ 2 * j → τ2.1 21 i = σ.1 21 i) ∧ ((wg n A M (t + 1) U e x = none ∧ f_X5_followWay_b40 (f_X5_followWay fu) (nI (2 * j)) P (nI (t + 1)) (nI e) (nI x) τ = some (.inl (nI (x + 1), τ2)) ∧ MIw n A M r T (j + 1) τ2 ∧ ∀ P', Bd 6 P' → pcn P' < j + 1 → τ2.1 20 (ix P') = σ1.1 20 (ix P')) ∨ (∃ p, wg n A M (t + 1) U e x = some p ∧ f_X5_followWay_b40 (f_X5_followWay fu) (nI (2 * j)) P (nI (t + 1)) (nI e) (nI x) τ = some (.inr (1, τ2)) ∧ ∀ i, i < p.length → τ2.1 21 (2 * j + 1 + i) = nI (p.getD i 0))) := fun q1 q2 => ⟨τ, hf, hc, Or.inl ⟨q1, q2, hIt, hlow⟩⟩
        have hb40 : f_X5_followWay_b40 (f_X5_followWay fu) (nI (2 * j)) P (nI (t + 1)) (nI e) (nI x) τ = if bt (A e) x = true then bn (f_X5_followWayTo (f_X5_followWay fu) (nI x) (nI (2 * j)) P (nI (t + 1)) τ) (fun r72 σ72 => if r72 = 0 then some (.inl ((nI x + 1), σ72)) else some (.inr (1, σ72))) else some (.inl (nI x + 1, τ)) := by
          unfold f_X5_followWay_b40
          rw [hGt.1, if_neg (nI_ge hx (by omega)), joined_eq hGt (by omega) (by omega), bv_eq]
          by_cases hA : bt (A e) x = true
          · rw [if_pos hA, if_pos hA, if_neg (by decide)]
          · rw [if_neg hA, if_neg hA, if_pos rfl]
        by_cases hA : bt (A e) x = true
        · rw [if_pos hA] at hb40
          have ht0 : ¬ nI (t + 1) = 0 := nI_ne0 (by omega) (by omega)
          by_cases hM : M x = -1
          · refine stay ?_ ?_
            · unfold wg
              by_cases hU : bt (A e) x = true ∧ bt U x = false
              · rw [if_pos hU, if_pos hM, if_neg (by omega)]
              · rw [if_neg hU]
            · rw [hb40]
              unfold f_X5_followWayTo
              have hp0 : pbq M x = 0 := by unfold pbq; rw [if_pos hM]
              rw [gi12 (by omega), nI_clamp (by omega), hBt, li_eq, if_neg ht0, hp0, if_pos rfl, bn_eq, if_pos rfl, nI_1]
          · have hp6 := pix_lt w h (show x < 12 by omega) hM
            obtain ⟨a, b, c, d, e'⟩ := h.mat (show x < 12 by omega) hM
            obtain ⟨b1, b2⟩ := h.back w (show x < 12 by omega) hM
            by_cases hPx : bt P (pix M x) = true
            · refine stay ?_ ?_
              · unfold wg
                rw [if_neg (fun q => by rw [((hN.2 x hx).2 hM).mpr hPx] at q; cases q.2)]
              · rw [hb40]
                unfold f_X5_followWayTo
                rw [gi12 (by omega), nI_clamp (by omega), hBt, li_eq, if_neg ht0, pbq_pix hM, if_neg (sg_ne0 (by omega)), if_neg (fun q => by rw [sg_and (by omega), hPx] at q; cases q), bn_eq, if_pos rfl, nI_1]
            · have hPx' : bt P (pix M x) = false := by simpa using hPx
              have hUx : bt U x = false := by
                cases q : bt U x
                · rfl
                · rw [((hN.2 x hx).2 hM).mp q] at hPx'; cases hPx'
              have hwg : wg n A M (t + 1) U e x = (wz n A M (t + 1) (U ||| (sg x ||| sg (mtn M x))) (mtn M x)).map (fun p => x :: mtn M x :: p) := by
                unfold wg
                rw [if_pos ⟨hA, hUx⟩, if_neg hM]
              obtain ⟨τa, hτa⟩ : ∃ s, s = upi (upi τ 21 (2 * j + 1) (nI x)) 21 (2 * j + 2) (nI (mtn M x)) := ⟨_, rfl⟩
              have fa : Fr [20, 21] σ1 τa := by rw [hτa]; exact (hf.upi (by decide) _ _).upi (by decide) _ _
              have ca20 : τa.1 20 = τ.1 20 := by rw [hτa, upi_get, if_neg (by decide), upi_get, if_neg (by decide)]
              have ca : ∀ i, i ≤ 2 * j → τa.1 21 i = σ.1 21 i := fun i hi => by
                rw [hτa, upi_get, if_pos rfl, upd_get, if_neg (by omega), upi_get, if_pos rfl, upd_get, if_neg (by omega)]; exact hc i hi
              have falla : Fr [20, 21] σ τa := f1.tr fa
              have hIa : MIw n A M r T (j + 1) τa := hIt.cong ca20
              have e22 : τa.1 21 (2 * (j + 1)) = nI (mtn M x) := by
                rw [hτa, upi_get, if_pos rfl, upd_get, if_pos (by omega)]
              have e21 : τa.1 21 (2 * j + 1) = nI x := by
                rw [hτa, upi_get, if_pos rfl, upd_get, if_neg (by omega), upi_get, if_pos rfl, upd_get, if_pos rfl]
              obtain ⟨τ2, g1, g2, g3⟩ := ih (j + 1) fu (P ||| sg (pix M x)) (U ||| (sg x ||| sg (mtn M x))) (mtn M x) τa (by omega) (by omega) (hG.fr falla (by decide) (by decide)) (hC.fr falla (by decide)) (fun y hy => by rw [falla.1 19 (by decide)]; exact hB y hy) (hP.or (Bd.sg hp6 (by omega))) (by rw [pcn_add (by omega) hPx', hPj]) (hN.step w h hx hM) b e22 (by rw [ca 0 (by omega)]; exact h210) hIa
              have hto : ∀ (bb : Int32), (bb = 0 ∨ bb = 1) → f_X5_followWay fu (nI (2 * (j + 1))) (P ||| sg (pix M x)) (nI t) τa = some (bb, τ2) → f_X5_followWayTo (f_X5_followWay fu) (nI x) (nI (2 * j)) P (nI (t + 1)) τ = some (bb, τ2) := by
                intro bb hbb hcall
                unfold f_X5_followWayTo
                rw [gi12 (by omega), nI_clamp (by omega), hBt, li_eq, if_neg ht0, pbq_pix hM, if_neg (sg_ne0 (by omega)), if_pos ((sg_and (by omega)).mpr hPx'), nI_1, gi12 (by omega), nI_clamp (by omega), lt_eq, gi12 (by omega), nI_2, gi12 (by omega), nI_clamp (by omega), lt_eq]
                have e4 : (upi τ 21 (2 * j + 1) (nI x)).1 4 x = nI (mtn M x) := by
                  rw [upi_get, if_neg (by decide), hCt x (by omega)]; exact c
                rw [e4, ← hτa, nI_pred, show 2 * j + 2 = 2 * (j + 1) by omega, hcall, bn_eq]
                exact if_pos hbb
              rcases g3 with ⟨p, p1, p2, p3⟩ | ⟨p1, p2, p3, p4⟩
              · refine ⟨τ2, fa.tr g1, fun i hi => by rw [g2 i (by omega)]; exact ca i hi, Or.inr ⟨x :: mtn M x :: p, by rw [hwg, p2]; rfl, ?_, fun i hi => ?_⟩⟩
                · rw [hb40, hto 1 (Or.inr rfl) p1, bn_eq, if_neg (by decide)]
                · match i, hi with
                  | 0, _ => rw [Nat.add_zero, g2 (2 * j + 1) (by omega)]; exact e21
                  | 1, _ => rw [show 2 * j + 1 + 1 = 2 * (j + 1) by omega, g2 _ (Nat.le_refl _)]; exact e22
                  | i + 2, hi =>
                    rw [show 2 * j + 1 + (i + 2) = 2 * (j + 1) + 1 + i by omega, p3 i (by simp at hi; omega)]; rfl
              · refine ⟨τ2, fa.tr g1, fun i hi => by rw [g2 i (by omega)]; exact ca i hi, Or.inl ⟨by rw [hwg, p2]; rfl, ?_, p3, fun P' q1 q2 => ?_⟩⟩
                · rw [hb40, hto 0 (Or.inl rfl) p1, bn_eq, if_pos rfl, nI_1]
                · rw [p4 P' q1 q2, ca20]; exact hlow P' q1 q2
        · refine stay ?_ ?_
          · unfold wg
            rw [if_neg (fun q => hA q.1)]
          · rw [hb40, if_neg hA, nI_1]
      unfold f_X5_followWay_40
      rcases first_not (fun x => wg n A M (t + 1) U e x = none) n with hall | ⟨k, k1, k2, k3⟩
      · obtain ⟨s', ⟨τ, hs', hf, hc, hIt, hlow⟩, el⟩ := lp_inv (f := fun s : Int32 × WD => f_X5_followWay_b40 (f_X5_followWay fu) (nI (2 * j)) P (nI (t + 1)) (nI e) s.1 s.2) (fun i s => ∃ τ, s = (nI i, τ) ∧ Fr [20, 21] σ1 τ ∧ (∀ i, i ≤ 2 * j → τ.1 21 i = σ.1 21 i) ∧ MIw n A M r T (j + 1) τ ∧ ∀ P', Bd 6 P' → pcn P' < j + 1 → τ.1 20 (ix P') = σ1.1 20 (ix P')) (a := 0) (b := n) (Nat.zero_le _) (s := (0, σ1)) ⟨σ1, rfl, Fr.rf _ _, fun i _ => by rw [c21], hI1, fun _ _ _ => rfl⟩ (fun x s _ hx hs => by
          obtain ⟨τ, rfl, hf, hc, hIt, hlow⟩ := hs
          obtain ⟨τ2, f2, c2, q | ⟨p, q⟩⟩ := stp x τ hx hf hc hIt hlow
          · exact ⟨_, q.2.1, τ2, rfl, f2, c2, q.2.2⟩
          · rw [hall x hx] at q; cases q.1)
        rw [el, hs']
        have fall : Fr [20, 21] σ τ := f1.tr hf
        have hnone : wz n A M (t + 1 + 1) U e = none := by rw [wz_succ]; exact fsm_none hall
        refine ⟨τ, fall, hc, Or.inr ⟨lp_end ?_, hnone, ?_, ?_⟩⟩
        · dsimp only
          unfold f_X5_followWay_b40
          rw [(hG.fr fall (by decide) (by decide)).1, if_pos (nI_le (Nat.le_refl n) (by omega))]
        · intro P' U' e' g1 g2 g3 g4 g5
          rcases Nat.eq_or_lt_of_le g2 with g2 | g2
          · rw [hlow P' g1 (by omega)] at g5
            by_cases eP : P' = P
            · subst eP
              rw [hσ1, upi_get, if_pos rfl, upd_get, if_pos rfl, b_or, b_sg (by omega) (by omega), Bool.or_eq_true] at g5
              rcases g5 with g5 | g5
              · exact hI P' U' e' g1 (by omega) g3 g4 g5
              · simp only [decide_eq_true_eq] at g5
                subst g5
                have : U' = U := s_ext (fun i => by
                  constructor
                  · intro q
                    have hi := b_lt g4.1.1 q
                    by_cases hM : M i = -1
                    · exact ((hN.2 i hi).1 hM).mpr (((g4.2 i hi).1 hM).mp q)
                    · exact ((hN.2 i hi).2 hM).mpr (((g4.2 i hi).2 hM).mp q)
                  · intro q
                    have hi := b_lt hN.1.1 q
                    by_cases hM : M i = -1
                    · exact ((g4.2 i hi).1 hM).mpr (((hN.2 i hi).1 hM).mp q)
                    · exact ((g4.2 i hi).2 hM).mpr (((hN.2 i hi).2 hM).mp q))
                rw [this, hPj, show T + 1 - j = t + 1 + 1 by omega]
                exact hnone
            · rw [same P' g1 eP] at g5
              exact hI P' U' e' g1 (by omega) g3 g4 g5
          · exact hIt P' U' e' g1 (by omega) g3 g4 g5
        · intro P' g1 g2
          rw [hlow P' g1 (by omega), same P' g1 (fun q => by rw [q] at g2; omega)]
      · obtain ⟨s', ⟨τ, hs', hf, hc, hIt, hlow⟩, el⟩ := lp_inv (f := fun s : Int32 × WD => f_X5_followWay_b40 (f_X5_followWay fu) (nI (2 * j)) P (nI (t + 1)) (nI e) s.1 s.2) (fun i s => ∃ τ, s = (nI i, τ) ∧ Fr [20, 21] σ1 τ ∧ (∀ i, i ≤ 2 * j → τ.1 21 i = σ.1 21 i) ∧ MIw n A M r T (j + 1) τ ∧ ∀ P', Bd 6 P' → pcn P' < j + 1 → τ.1 20 (ix P') = σ1.1 20 (ix P')) (a := 0) (b := k) (Nat.zero_le _) (s := (0, σ1)) ⟨σ1, rfl, Fr.rf _ _, fun i _ => by rw [c21], hI1, fun _ _ _ => rfl⟩ (fun x s _ hx hs => by
          obtain ⟨τ, rfl, hf, hc, hIt, hlow⟩ := hs
          obtain ⟨τ2, f2, c2, q | ⟨p, q⟩⟩ := stp x τ (by omega) hf hc hIt hlow
          · exact ⟨_, q.2.1, τ2, rfl, f2, c2, q.2.2⟩
          · rw [k3 x hx] at q; cases q.1)
        obtain ⟨τ2, f2, c2, q | ⟨p, q⟩⟩ := stp k τ k1 hf hc hIt hlow
        · exact absurd q.1 k2
        · rw [el, hs']
          exact ⟨τ2, f1.tr f2, c2, Or.inl ⟨p, lp_end q.2.1, by rw [wz_succ]; exact fsm_some k3 q.1 k1, q.2.2⟩⟩
