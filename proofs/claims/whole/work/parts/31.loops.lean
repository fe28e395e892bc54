-- ===== loops, guards, worlds =====
theorem lp_up {S R : Type} {f : S → Option (S ⊕ R)} (st : Nat → S) {a b : Nat} (hab : a ≤ b) (hs : ∀ i, a ≤ i → i < b → f (st i) = some (.inl (st (i + 1)))) : lp f (st a) = lp f (st b) := by
  obtain ⟨m, rfl⟩ : ∃ m, b = a + m := ⟨b - a, by omega⟩
  clear hab
  induction m with
  | zero => rfl
  | succ m ih => rw [ih (fun i h1 h2 => hs i h1 (by omega)), lp_go (hs (a + m) (by omega) (by omega))]; rfl
/-- a loop that counts up to its end, and what comes then -/
theorem lp_for {S R : Type} {f : S → Option (S ⊕ R)} (st : Nat → S) {a b : Nat} {r : R} (hab : a ≤ b) (hs : ∀ i, a ≤ i → i < b → f (st i) = some (.inl (st (i + 1)))) (he : f (st b) = some (.inr r)) : lp f (st a) = some r := by
  rw [lp_up st hab hs, lp_end he]
theorem gi_in {γ : Type} {i n : Nat} (h : i < n) (hn : n < 2 ^ 31) (k : Option γ) : gi (nI i) n k = k := if_neg (nI_in h hn)
theorem gi12 {γ : Type} {i : Nat} (h : i < 12) (k : Option γ) : gi (nI i) 12 k = k := gi_in h (by decide) k
theorem gi_bd {γ : Type} {x : Int32} (h : Bd 12 x) (k : Option γ) : gi x 4096 k = k := if_neg (bd_in h)
theorem gz2 {γ : Type} (k : Option γ) : gz 2 k = k := if_neg (by decide)
theorem gz4 {γ : Type} (k : Option γ) : gz 4 k = k := if_neg (by decide)
theorem lt_eq {γ : Type} (s : WD) (k : WD → Option γ) : lt s k = k s := rfl
theorem li_eq {γ : Type} (v : Int32) (k : Int32 → Option γ) : li v k = k v := rfl
theorem ll_eq {γ : Type} (v : Int64) (k : Int64 → Option γ) : ll v k = k v := rfl
theorem bn_eq {α β γ : Type} (a : α) (b : β) (k : α → β → Option γ) : bn (some (a, b)) k = k a b := rfl
theorem bv_eq {α γ : Type} (a : α) (k : α → Option γ) : bv (some a) k = k a := rfl
theorem bq_eq {α γ : Type} (a : α) (k : α → Option γ) : bq (some (.inl a)) k = k a := rfl
theorem bx_eq {α γ : Type} (a : α) (k : α → Option (γ ⊕ Nat)) : bx (some (.inl a)) k = k a := rfl
theorem bx_er {α γ : Type} (e : Nat) (k : α → Option (γ ⊕ Nat)) : bx (some (.inr e) : Option (α ⊕ Nat)) k = some (.inr e) := rfl
theorem ml_eq {γ : Type} (a : γ) : ml (some a) = some (.inl a) := rfl
theorem mr_eq {S γ : Type} (a : γ) : (mr (some a) : Option (S ⊕ γ)) = some (.inr a) := rfl
theorem gb0 {γ : Type} (k : Option γ) : gb 0 k = k := rfl
theorem gb1 {γ : Type} (k : Option γ) : gb 1 k = k := rfl
theorem upi_get (σ : WD) (k j : Nat) (v : Int32) (c : Nat) : (upi σ k j v).1 c = if c = k then upd (σ.1 k) j v else σ.1 c := rfl
theorem ups_get (σ : WD) (k : Nat) (f : Nat → Int32) (c : Nat) : (ups σ k f).1 c = if c = k then f else σ.1 c := rfl
theorem upd_get (f : Nat → Int32) (j : Nat) (v : Int32) (i : Nat) : upd f j v i = if i = j then v else f i := rfl
theorem nI_inj {a b : Nat} (ha : a < 2 ^ 31) (hb : b < 2 ^ 31) (h : nI a = nI b) : a = b := by
  have := congrArg Int32.toInt h
  rw [nI_toInt ha, nI_toInt hb] at this
  omega
theorem nI_le_iff {a b : Nat} (ha : a < 2 ^ 31) (hb : b < 2 ^ 31) : nI a ≤ nI b ↔ a ≤ b := by
  rw [Int32.le_iff_toInt_le, nI_toInt ha, nI_toInt hb]; omega
theorem nI_lt_iff {a b : Nat} (ha : a < 2 ^ 31) (hb : b < 2 ^ 31) : nI a < nI b ↔ a < b := by
  rw [Int32.lt_iff_toInt_lt, nI_toInt ha, nI_toInt hb]; omega
theorem nI_ne_m1 {a : Nat} (ha : a < 2 ^ 31) : ¬ nI a = -1 := by
  intro h
  have := congrArg Int32.toInt h
  rw [nI_toInt ha] at this
  have e : (-1 : Int32).toInt = -1 := by decide
  rw [e] at this
  omega
/-- the worlds differ at most at the cells K -/
def Fr (K : List Nat) (σ τ : WD) : Prop := (∀ c, c ∉ K → τ.1 c = σ.1 c) ∧ τ.2 = σ.2
theorem Fr.rf (K : List Nat) (σ : WD) : Fr K σ σ := ⟨fun _ _ => rfl, rfl⟩
theorem Fr.tr {K : List Nat} {σ τ υ : WD} (h : Fr K σ τ) (h2 : Fr K τ υ) : Fr K σ υ := ⟨fun c hc => (h2.1 c hc).trans (h.1 c hc), h2.2.trans h.2⟩
theorem Fr.mono {K K2 : List Nat} {σ τ : WD} (h : Fr K σ τ) (hk : ∀ c, c ∈ K → c ∈ K2) : Fr K2 σ τ := ⟨fun c hc => h.1 c (fun q => hc (hk c q)), h.2⟩
theorem Fr.upi {K : List Nat} {σ τ : WD} (h : Fr K σ τ) {k : Nat} (hk : k ∈ K) (j : Nat) (v : Int32) : Fr K σ (upi τ k j v) := ⟨fun c hc => by rw [upi_get, if_neg (show ¬ c = k from fun e => hc (e ▸ hk))]; exact h.1 c hc, h.2⟩
theorem Fr.ups {K : List Nat} {σ τ : WD} (h : Fr K σ τ) {k : Nat} (hk : k ∈ K) (f : Nat → Int32) : Fr K σ (ups τ k f) := ⟨fun c hc => by rw [ups_get, if_neg (show ¬ c = k from fun e => hc (e ▸ hk))]; exact h.1 c hc, h.2⟩
def smn (g : Nat → Nat) : Nat → Nat
  | 0 => 0
  | k + 1 => smn g k + g k
theorem smn_congr {g h : Nat → Nat} : ∀ {n : Nat}, (∀ i, i < n → g i = h i) → smn g n = smn h n
  | 0, _ => rfl
  | n + 1, e => by rw [smn, smn, smn_congr (fun i hi => e i (by omega)), e n (by omega)]
-- ===== the graph, as the class and as the reference hold it =====
def GC (n : Nat) (A : Nat → Int32) (σ : WD) : Prop := σ.1 1 0 = nI n ∧ ∀ i, i < 12 → σ.1 2 i = A i
def GR (n : Nat) (A : Nat → Int32) (σ : WD) : Prop := σ.1 29 1 = nI n ∧ ∀ i, i < 12 → σ.1 30 i = A i
def GW (n : Nat) (A : Nat → Int32) : Prop := 2 ≤ n ∧ n ≤ 12 ∧ (∀ i, i < 12 → Bd n (A i)) ∧ (∀ i j, i < 12 → j < 12 → bt (A i) j = bt (A j) i) ∧ ∀ i, i < 12 → bt (A i) i = false
theorem GW.bd {n : Nat} {A : Nat → Int32} (h : GW n A) {i : Nat} (hi : i < 12) : Bd 12 (A i) := (h.2.2.1 i hi).mono h.2.1
theorem GC.al {n : Nat} {A : Nat → Int32} {σ : WD} (h : GC n A σ) : f_X0_all σ = some (al n) := by unfold f_X0_all; rw [h.1]; rfl
theorem GR.al {n : Nat} {A : Nat → Int32} {σ : WD} (h : GR n A σ) : f_X7_all σ = some (al n) := by unfold f_X7_all; rw [h.1]; rfl
theorem has_eq {x : Int32} {k : Nat} (hk : k < 32) (σ : WD) : f_X7_has x (nI k) σ = some (if bt x k then 1 else 0) := by
  unfold f_X7_has
  rw [tb_eq hk]
  cases bt x k <;> rfl
theorem joined_eq {n : Nat} {A : Nat → Int32} {σ : WD} (h : GC n A σ) {i j : Nat} (hi : i < 12) (hj : j < 32) : f_X0_joined (nI i) (nI j) σ = some (if bt (A i) j then 1 else 0) := by
  unfold f_X0_joined
  rw [gi12 hi, nI_clamp (by omega), h.2 i hi, tb_eq hj]
  cases bt (A i) j <;> rfl
theorem bits_eq {x : Int32} (σ : WD) : f_X7_bits x σ = some (nI (pcn x)) := by
  unfold f_X7_bits f_X7_bits_4
  have key : lp (fun s : Int32 × Int32 => f_X7_bits_b4 x s.1 s.2 σ) ((fun i => (nI (((List.range i).filter (fun i => bt x i)).length), nI i)) 0) = some (nI (pcn x)) := by
    refine lp_for (fun i => (nI (((List.range i).filter (fun i => bt x i)).length), nI i)) (a := 0) (b := 12) (by omega) (fun i _ hi => ?_) ?_
    · show f_X7_bits_b4 x _ _ σ = _
      unfold f_X7_bits_b4
      rw [if_neg (show ¬ (12 : Int32) ≤ nI i from nI_ge hi (by decide)), li_eq, tb_eq (by omega), List.range_succ, List.filter_append]
      cases hb : bt x i
      · simp [hb, nI_succ]
      · simp [hb, nI_succ]
    · show f_X7_bits_b4 x _ _ σ = _
      unfold f_X7_bits_b4
      rw [if_pos (show (12 : Int32) ≤ nI 12 by decide)]
      rfl
  exact key
/-- twice the number of edges -/
def dgs (A : Nat → Int32) : Nat → Nat := smn (fun i => pcn (A i))
theorem edges_eq {n : Nat} {A : Nat → Int32} {σ : WD} (h : GC n A σ) (w : GW n A) : f_X0_edges σ = some (nI (dgs A n) / 2) := by
  unfold f_X0_edges f_X0_edges_4
  refine lp_for (fun i => (nI (dgs A i), nI i)) (a := 0) (b := n) (by omega) (fun i _ hi => ?_) ?_
  · have hn := w.2.1
    show f_X0_edges_b4 _ _ σ = _
    unfold f_X0_edges_b4
    rw [h.1, if_neg (nI_ge hi (by omega)), gi12 (by omega), nI_clamp (by omega), h.2 i (by omega), bitCount_eq (w.bd (by omega)), bv_eq, nI_succ]
    show _ = some (Sum.inl (nI (dgs A i + pcn (A i)), _))
    rw [nI_add]
  · show f_X0_edges_b4 _ _ σ = _
    unfold f_X0_edges_b4 f_X0_edges_30
    rw [h.1, if_pos (nI_le (Nat.le_refl n) (by have := w.2.1; omega)), gz2, mr_eq]
theorem edgeCount_eq {n : Nat} {A : Nat → Int32} {σ : WD} (h : GR n A σ) (w : GW n A) : f_X7_edgeCount σ = some (nI (dgs A n) / 2) := by
  unfold f_X7_edgeCount f_X7_edgeCount_4
  refine lp_for (fun i => (nI (dgs A i), nI i)) (a := 0) (b := n) (by omega) (fun i _ hi => ?_) ?_
  · have hn := w.2.1
    show f_X7_edgeCount_b4 _ _ σ = _
    unfold f_X7_edgeCount_b4
    rw [h.1, if_neg (nI_ge hi (by omega)), gi12 (by omega), nI_clamp (by omega), h.2 i (by omega), bits_eq, bv_eq, nI_succ]
    show _ = some (Sum.inl (nI (dgs A i + pcn (A i)), _))
    rw [nI_add]
  · show f_X7_edgeCount_b4 _ _ σ = _
    unfold f_X7_edgeCount_b4 f_X7_edgeCount_30
    rw [h.1, if_pos (nI_le (Nat.le_refl n) (by have := w.2.1; omega)), gz2, mr_eq]
