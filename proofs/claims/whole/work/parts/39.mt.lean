-- ===== how many nodes a set has =====
def pct (x : Int32) (t : Nat) : Nat := ((List.range t).filter (fun i => bt x i)).length
theorem pct_succ (x : Int32) (t : Nat) : pct x (t + 1) = pct x t + if bt x t = true then 1 else 0 := by
  unfold pct
  rw [List.range_succ, List.filter_append, List.length_append]
  cases h : bt x t <;> simp [h]
theorem pct_zero (x : Int32) : pct x 0 = 0 := rfl
theorem pcn_pct (x : Int32) : pcn x = pct x 12 := rfl
theorem lt32 {x : Int32} {i : Nat} (h : bt x i = true) : i < 32 := by
  rcases Nat.lt_or_ge i 32 with h2 | h2
  · exact h2
  · rw [b_big h2] at h; cases h
theorem m_cl {x : Int32} {k i : Nat} (hk : k < 32) : bt (cl x k) i = true ↔ bt x i = true ∧ i ≠ k := by
  rcases Nat.lt_or_ge i 32 with h | h
  · rw [b_cl hk h]; simp
  · rw [b_big h, b_big h]; simp
theorem m_an {x y : Int32} {i : Nat} : bt (x &&& y) i = true ↔ bt x i = true ∧ bt y i = true := by rw [b_and]; simp
theorem m_or {x y : Int32} {i : Nat} : bt (x ||| y) i = true ↔ bt x i = true ∨ bt y i = true := by rw [b_or]; simp
/-- x without the nodes of y -/
def dif (x y : Int32) : Int32 := x &&& (y ^^^ (-1))
theorem dif_eq (x y : Int32) : x &&& (y ^^^ (-1)) = dif x y := rfl
theorem b_dif {x y : Int32} {i : Nat} (hi : i < 32) : bt (dif x y) i = (bt x i && !bt y i) := by unfold dif; rw [b_and, b_not hi]
theorem m_dif {x y : Int32} {i : Nat} : bt (dif x y) i = true ↔ bt x i = true ∧ bt y i = false := by
  rcases Nat.lt_or_ge i 32 with h | h
  · rw [b_dif h]; simp
  · rw [b_big h, b_big h]; simp
theorem Bd.dif {n : Nat} {x : Int32} (h : Bd n x) (y : Int32) : Bd n (dif x y) := h.and_left _
theorem s_ext {x y : Int32} (h : ∀ i, bt x i = true ↔ bt y i = true) : x = y := b_ext (fun i _ => by
  have := h i
  cases q : bt x i <;> cases r : bt y i <;> simp_all)
theorem pct_congr {x y : Int32} : ∀ {t : Nat}, (∀ i, i < t → bt x i = bt y i) → pct x t = pct y t
  | 0, _ => rfl
  | t + 1, h => by rw [pct_succ, pct_succ, pct_congr (fun i hi => h i (by omega)), h t (by omega)]
theorem pct_le (x : Int32) : ∀ t, pct x t ≤ t
  | 0 => Nat.le_refl _
  | t + 1 => by have := pct_le x t; rw [pct_succ]; split <;> omega
theorem pct_split {x y : Int32} : ∀ {t : Nat}, t ≤ 32 → pct x t = pct (x &&& y) t + pct (dif x y) t
  | 0, _ => rfl
  | t + 1, ht => by
    rw [pct_succ, pct_succ, pct_succ, pct_split (x := x) (y := y) (t := t) (by omega), b_and, b_dif (by omega)]
    cases bt x t <;> cases bt y t <;> simp <;> omega
theorem pct_bd {x : Int32} {n : Nat} (h : Bd n x) : ∀ {t : Nat}, n ≤ t → t ≤ 32 → pct x t = pct x n
  | 0, h1, _ => by rw [show n = 0 by omega]
  | t + 1, h1, h2 => by
    by_cases e : n = t + 1
    · rw [e]
    · rw [pct_succ, h t (by omega) (by omega), pct_bd h (t := t) (by omega) (by omega)]; simp
theorem pcn_le {n : Nat} {x : Int32} (hn : n ≤ 12) (h : Bd n x) : pcn x ≤ n := by
  rw [pcn_pct, pct_bd h hn (by omega)]; exact pct_le x n
theorem pcn_split (x y : Int32) : pcn x = pcn (x &&& y) + pcn (dif x y) := pct_split (by omega)
theorem pct_cl {x : Int32} {a : Nat} (ha : a < 32) (hb : bt x a = true) : ∀ {t : Nat}, t ≤ 32 → pct x t = pct (cl x a) t + if a < t then 1 else 0
  | 0, _ => rfl
  | t + 1, ht => by
    rw [pct_succ, pct_succ, pct_cl ha hb (t := t) (by omega), b_cl ha (by omega)]
    by_cases e : t = a
    · subst e; simp [hb]
    · have : (a < t + 1) = (a < t) := propext (by omega)
      simp [e, this]; omega
theorem pcn_cl {x : Int32} {a : Nat} (ha : a < 12) (hb : bt x a = true) : pcn x = pcn (cl x a) + 1 := by
  have := pct_cl (x := x) (a := a) (by omega) hb (t := 12) (by omega)
  rw [if_pos ha] at this
  exact this
theorem pcn_zero : pcn 0 = 0 := by decide +kernel
theorem pct_ex {x : Int32} : ∀ {t : Nat}, pct x t ≠ 0 → ∃ i, i < t ∧ bt x i = true
  | 0, h => absurd rfl h
  | t + 1, h => by
    by_cases e : bt x t = true
    · exact ⟨t, by omega, e⟩
    · rw [pct_succ, if_neg e] at h
      obtain ⟨i, h1, h2⟩ := pct_ex (t := t) (by omega)
      exact ⟨i, by omega, h2⟩
theorem pcn_ex {x : Int32} (h : pcn x ≠ 0) : ∃ i, i < 12 ∧ bt x i = true := pct_ex h
theorem pct_al : ∀ n, n < 13 → pcn (al n) = n := by decide +kernel
-- ===== matchings of a size inside a set =====
def Mt (A : Nat → Int32) : Nat → Int32 → Prop
  | 0, _ => True
  | k + 1, S => ∃ a b, bt S a = true ∧ bt S b = true ∧ a ≠ b ∧ bt (A a) b = true ∧ Mt A k (cl (cl S a) b)
theorem Mt.mono {A : Nat → Int32} : ∀ {k : Nat} {S T : Int32}, Mt A k S → (∀ i, bt S i = true → bt T i = true) → Mt A k T
  | 0, _, _, _, _ => trivial
  | k + 1, S, T, h, hs => by
    obtain ⟨a, b, h1, h2, h3, h4, h5⟩ := h
    have ha := lt32 h1
    have hb := lt32 h2
    refine ⟨a, b, hs a h1, hs b h2, h3, h4, h5.mono (fun i hi => ?_)⟩
    rw [m_cl hb, m_cl ha] at hi ⊢
    exact ⟨⟨hs i hi.1.1, hi.1.2⟩, hi.2⟩
theorem Mt.less {A : Nat → Int32} : ∀ {k : Nat} {S : Int32}, Mt A (k + 1) S → Mt A k S
  | 0, _, _ => trivial
  | k + 1, S, h => by
    obtain ⟨a, b, h1, h2, h3, h4, h5⟩ := h
    exact ⟨a, b, h1, h2, h3, h4, h5.less⟩
theorem Mt.le {A : Nat → Int32} {k j : Nat} {S : Int32} (h : Mt A k S) (hj : j ≤ k) : Mt A j S := by
  obtain ⟨d, rfl⟩ : ∃ d, k = j + d := ⟨k - j, by omega⟩
  clear hj
  induction d with
  | zero => exact h
  | succ d ih => exact ih (Mt.less h)
theorem cl_comm (S : Int32) (a b : Nat) : cl (cl S a) b = cl (cl S b) a := by
  unfold cl
  rw [Int32.and_assoc, Int32.and_comm (sg a ^^^ -1), ← Int32.and_assoc]
theorem GW.sy {n : Nat} {A : Nat → Int32} (w : GW n A) {i j : Nat} (hi : i < n) (hj : j < n) (h : bt (A i) j = true) : bt (A j) i = true := by
  have hn := w.2.1
  rw [← w.2.2.2.1 i j (by omega) (by omega)]; exact h
/-- a matching leaves node v exposed, or gives it a mate -/
theorem Mt.atv {n : Nat} {A : Nat → Int32} (w : GW n A) : ∀ {k : Nat} {S : Int32} {v : Nat}, Bd n S → bt S v = true → Mt A k S → Mt A k (cl S v) ∨ ∃ j x, k = j + 1 ∧ bt S x = true ∧ x ≠ v ∧ bt (A v) x = true ∧ Mt A j (cl (cl S v) x)
  | 0, _, _, _, _, _ => Or.inl trivial
  | k + 1, S, v, hS, hv, h => by
    obtain ⟨a, b, h1, h2, h3, h4, h5⟩ := h
    have ha := lt32 h1
    have hb := lt32 h2
    have hv32 := lt32 hv
    by_cases e1 : v = a
    · subst e1
      exact Or.inr ⟨k, b, rfl, h2, fun e => h3 e.symm, h4, h5⟩
    · by_cases e2 : v = b
      · subst e2
        exact Or.inr ⟨k, a, rfl, h1, h3, w.sy (b_lt hS h1) (b_lt hS h2) h4, by rw [cl_comm]; exact h5⟩
      · have hv2 : bt (cl (cl S a) b) v = true := by rw [m_cl hb, m_cl ha]; exact ⟨⟨hv, e1⟩, e2⟩
        rcases Mt.atv w ((hS.cl a).cl b) hv2 h5 with q | ⟨j, x, q1, q2, q3, q4, q5⟩
        · left
          refine ⟨a, b, (m_cl hv32).mpr ⟨h1, fun e => e1 e.symm⟩, (m_cl hv32).mpr ⟨h2, fun e => e2 e.symm⟩, h3, h4, ?_⟩
          rw [cl_comm S v a, cl_comm (cl S a) v b]; exact q
        · right
          rw [m_cl hb, m_cl ha] at q2
          have hx := lt32 q2.1.1
          refine ⟨k, x, rfl, q2.1.1, q3, q4, ?_⟩
          rw [q1]
          refine ⟨a, b, ?_, ?_, h3, h4, ?_⟩
          · rw [m_cl hx, m_cl hv32]; exact ⟨⟨h1, fun e => e1 e.symm⟩, fun e => q2.1.2 e.symm⟩
          · rw [m_cl hx, m_cl hv32]; exact ⟨⟨h2, fun e => e2 e.symm⟩, fun e => q2.2 e.symm⟩
          · rw [cl_comm (cl S v) x a, cl_comm S v a, cl_comm (cl (cl S a) v) x b, cl_comm (cl S a) v b]; exact q5
theorem Mt.two {A : Nat → Int32} : ∀ {k : Nat} {S : Int32}, Bd 12 S → Mt A k S → 2 * k ≤ pcn S
  | 0, _, _, _ => Nat.zero_le _
  | k + 1, S, hS, h => by
    obtain ⟨a, b, h1, h2, h3, h4, h5⟩ := h
    have ha := b_lt hS h1
    have hb := b_lt hS h2
    have := Mt.two ((hS.cl a).cl b) h5
    have e1 := pcn_cl ha h1
    have e2 := pcn_cl (x := cl S a) hb ((m_cl (by omega)).mpr ⟨h2, fun e => h3 e.symm⟩)
    omega
theorem cmb_fst (p q : Nat × Nat) : (cmb p q).1 = max p.1 q.1 := by
  unfold cmb
  split
  · rw [Nat.max_def]; split <;> omega
  · split
    · rw [Nat.max_def]; split <;> omega
    · rw [Nat.max_def]; split <;> omega
theorem mf_fst {D : Int32 → Nat × Nat} {a R : Int32} {v k : Nat} : ∀ {t : Nat}, k ≤ (mf D a R v t).1 ↔ k ≤ (D R).1 ∨ ∃ x, v + 1 ≤ x ∧ x < v + 1 + t ∧ bt R x = true ∧ bt a x = true ∧ k ≤ (D (cl R x)).1 + 1
  | 0 => by
    unfold mf
    constructor
    · exact Or.inl
    · rintro (h | ⟨x, h1, h2, -⟩)
      · exact h
      · omega
  | t + 1 => by
    rw [mf_succ]
    have ih := mf_fst (D := D) (a := a) (R := R) (v := v) (k := k) (t := t)
    split
    · rename_i hw
      rw [cmb_fst]
      simp only [Bool.and_eq_true] at hw
      have : k ≤ max (mf D a R v t).1 (shf (D (cl R (v + 1 + t)))).1 ↔ k ≤ (mf D a R v t).1 ∨ k ≤ (D (cl R (v + 1 + t))).1 + 1 := by
        show k ≤ max _ ((D (cl R (v + 1 + t))).1 + 1) ↔ _
        omega
      rw [this, ih]
      constructor
      · rintro ((h | ⟨x, h1, h2, h3⟩) | h)
        · exact Or.inl h
        · exact Or.inr ⟨x, h1, by omega, h3⟩
        · exact Or.inr ⟨v + 1 + t, by omega, by omega, hw.1, hw.2, h⟩
      · rintro (h | ⟨x, h1, h2, h3⟩)
        · exact Or.inl (Or.inl h)
        · by_cases e : x = v + 1 + t
          · subst e; exact Or.inr h3.2.2
          · exact Or.inl (Or.inr ⟨x, h1, by omega, h3⟩)
    · rename_i hw
      rw [ih]
      simp only [Bool.and_eq_true] at hw
      constructor
      · rintro (h | ⟨x, h1, h2, h3⟩)
        · exact Or.inl h
        · exact Or.inr ⟨x, h1, by omega, h3⟩
      · rintro (h | ⟨x, h1, h2, h3⟩)
        · exact Or.inl h
        · by_cases e : x = v + 1 + t
          · subst e; exact absurd ⟨h3.1, h3.2.1⟩ hw
          · exact Or.inr ⟨x, h1, by omega, h3⟩
theorem Mt_iff {n : Nat} {A : Nat → Int32} (w : GW n A) : ∀ (m : Nat) (S : Int32), pcn S ≤ m → Bd n S → ∀ k, Mt A k S ↔ k ≤ (DS n A S).1 := by
  have hn := w.2.1
  intro m
  induction m with
  | zero =>
    intro S hm hS k
    have h0 : ∀ i, i < n → bt S i = false := fun i hi => by
      cases q : bt S i
      · rfl
      · have := pcn_cl (show i < 12 by omega) q; omega
    rw [DS_empty h0]
    constructor
    · intro h
      have := Mt.two (hS.mono hn) h
      show k ≤ 0
      omega
    · intro h
      have : k = 0 := by have h : k ≤ 0 := h; omega
      subst this; trivial
  | succ m ih =>
    intro S hm hS k
    by_cases hS0 : S = 0
    · subst hS0
      exact ih 0 (by rw [pcn_zero]; omega) hS k
    · obtain ⟨l1, l2, l3⟩ := lwn_spec (hS.mono hn) hS0
      obtain ⟨v, hv⟩ : ∃ v, v = lwn S := ⟨_, rfl⟩
      rw [← hv] at l1 l2 l3
      have hvn := b_lt hS l2
      have c1 := pcn_cl l1 l2
      rw [DS_step (by omega) hvn l2 l3, mf_fst, ← ih (cl S v) (by omega) (hS.cl v) k]
      constructor
      · intro h
        rcases Mt.atv w hS l2 h with q | ⟨j, x, q1, q2, q3, q4, q5⟩
        · exact Or.inl q
        · right
          have hx := b_lt hS q2
          have hb : bt (cl S v) x = true := (m_cl (by omega)).mpr ⟨q2, q3⟩
          have c2 := pcn_cl (show x < 12 by omega) hb
          refine ⟨x, ?_, by omega, hb, q4, ?_⟩
          · rcases Nat.lt_or_ge v x with h | h
            · exact h
            · rw [l3 x (by omega)] at q2; cases q2
          · have := (ih (cl (cl S v) x) (by omega) ((hS.cl v).cl x) j).mp q5
            omega
      · rintro (h | ⟨x, h1, h2, h3, h4, h5⟩)
        · exact h.mono (fun i hi => ((m_cl (by omega)).mp hi).1)
        · cases k with
          | zero => trivial
          | succ k =>
            have hx := b_lt (hS.cl v) h3
            have c2 := pcn_cl (show x < 12 by omega) h3
            refine ⟨v, x, l2, ((m_cl (by omega)).mp h3).1, by omega, h4, ?_⟩
            exact (ih (cl (cl S v) x) (by omega) ((hS.cl v).cl x) k).mpr (by omega)
theorem Mt_DS {n : Nat} {A : Nat → Int32} (w : GW n A) {S : Int32} (hS : Bd n S) (k : Nat) : Mt A k S ↔ k ≤ (DS n A S).1 := Mt_iff w _ S (Nat.le_refl _) hS k
/-- the exchange: of u, v, w, where v can be left out and u, w together -/
theorem Mt.swap {n : Nat} {A : Nat → Int32} (w : GW n A) : ∀ (m : Nat) {k : Nat} {S : Int32} {u v t : Nat}, pcn S ≤ m → Bd n S → bt S u = true → bt S v = true → bt S t = true → u ≠ v → t ≠ v → u ≠ t → Mt A k (cl (cl S u) t) → Mt A k (cl S v) → Mt A k (cl (cl S u) v) ∨ Mt A k (cl (cl S t) v) ∨ Mt A (k + 1) S := by
  have hn := w.2.1
  intro m
  induction m with
  | zero =>
    intro k S u v t hm hS hu hv ht _ _ _ _ _
    have := pcn_cl (show u < 12 from by have := b_lt hS hu; omega) hu
    omega
  | succ m ih =>
    intro k S u v t hm hS hu hv ht h1 h2 h3 h4 h5
    have bu := b_lt hS hu
    have bv := b_lt hS hv
    have btt := b_lt hS ht
    have hv2 : bt (cl (cl S u) t) v = true := by rw [m_cl (by omega), m_cl (by omega)]; exact ⟨⟨hv, fun e => h1 e.symm⟩, fun e => h2 e.symm⟩
    rcases Mt.atv w ((hS.cl u).cl t) hv2 h4 with q | ⟨j, x, q1, q2, q3, q4, q5⟩
    · left
      exact q.mono (fun i hi => by rw [m_cl (by omega), m_cl (by omega), m_cl (by omega)] at hi; rw [m_cl (by omega), m_cl (by omega)]; exact ⟨hi.1.1, hi.2⟩)
    · subst q1
      rw [m_cl (by omega), m_cl (by omega)] at q2
      obtain ⟨⟨x1, x2⟩, x3⟩ := q2
      have bxx := b_lt hS x1
      have hx2 : bt (cl S v) x = true := (m_cl (by omega)).mpr ⟨x1, q3⟩
      rcases Mt.atv w (hS.cl v) hx2 h5 with r | ⟨i, y, r1, r2, r3, r4, r5⟩
      · right; right
        exact ⟨v, x, hv, x1, fun e => q3 e.symm, q4, r⟩
      · have r1 : j = i := by omega
        subst r1
        rw [m_cl (by omega)] at r2
        have byy := b_lt hS r2.1
        by_cases e1 : y = u
        · subst e1
          right; left
          refine ⟨x, y, ?_, ?_, fun e => r3 e.symm, r4, ?_⟩
          · rw [m_cl (by omega), m_cl (by omega)]; exact ⟨⟨x1, x3⟩, q3⟩
          · rw [m_cl (by omega), m_cl (by omega)]; exact ⟨⟨r2.1, h3⟩, h1⟩
          · refine q5.mono (fun i hi => ?_)
            simp only [m_cl (show y < 32 by omega), m_cl (show t < 32 by omega), m_cl (show v < 32 by omega), m_cl (show x < 32 by omega)] at hi ⊢
            exact ⟨⟨⟨⟨hi.1.1.1.1, hi.1.1.2⟩, hi.1.2⟩, hi.2⟩, hi.1.1.1.2⟩
        · by_cases e2 : y = t
          · subst e2
            left
            refine ⟨x, y, ?_, ?_, fun e => r3 e.symm, r4, ?_⟩
            · rw [m_cl (by omega), m_cl (by omega)]; exact ⟨⟨x1, x2⟩, q3⟩
            · rw [m_cl (by omega), m_cl (by omega)]; exact ⟨⟨r2.1, fun e => h3 e.symm⟩, h2⟩
            · refine q5.mono (fun i hi => ?_)
              simp only [m_cl (show y < 32 by omega), m_cl (show u < 32 by omega), m_cl (show v < 32 by omega), m_cl (show x < 32 by omega)] at hi ⊢
              exact ⟨⟨⟨⟨hi.1.1.1.1, hi.1.1.1.2⟩, hi.1.2⟩, hi.2⟩, hi.1.1.2⟩
          · have c1 := pcn_cl (show v < 12 by omega) hv
            have c2 := pcn_cl (show x < 12 by omega) hx2
            have hu' : bt (cl (cl S v) x) u = true := by rw [m_cl (by omega), m_cl (by omega)]; exact ⟨⟨hu, h1⟩, fun e => x2 e.symm⟩
            have ht' : bt (cl (cl S v) x) t = true := by rw [m_cl (by omega), m_cl (by omega)]; exact ⟨⟨ht, h2⟩, fun e => x3 e.symm⟩
            have hy' : bt (cl (cl S v) x) y = true := by rw [m_cl (by omega), m_cl (by omega)]; exact ⟨r2, r3⟩
            have k1 : Mt A j (cl (cl (cl (cl S v) x) u) t) := q5.mono (fun i hi => by
              simp only [m_cl (show u < 32 by omega), m_cl (show t < 32 by omega), m_cl (show v < 32 by omega), m_cl (show x < 32 by omega)] at hi ⊢
              exact ⟨⟨⟨⟨hi.1.1.1.1, hi.1.2⟩, hi.2⟩, hi.1.1.1.2⟩, hi.1.1.2⟩)
            have hX : ∀ z, bt S z = true → z ≠ v → z ≠ x → z ≠ y → Mt A j (cl (cl (cl (cl S v) x) z) y) → Mt A (j + 1) (cl (cl S z) v) := by
              intro z z1 z2 z3 z4 hz
              have bz := b_lt hS z1
              refine ⟨x, y, ?_, ?_, fun e => r3 e.symm, r4, ?_⟩
              · rw [m_cl (by omega), m_cl (by omega)]; exact ⟨⟨x1, fun e => z3 e.symm⟩, q3⟩
              · rw [m_cl (by omega), m_cl (by omega)]; exact ⟨⟨r2.1, fun e => z4 e.symm⟩, r2.2⟩
              · refine hz.mono (fun i hi => ?_)
                simp only [m_cl (show y < 32 by omega), m_cl (show z < 32 by omega), m_cl (show v < 32 by omega), m_cl (show x < 32 by omega)] at hi ⊢
                exact ⟨⟨⟨⟨hi.1.1.1.1, hi.1.2⟩, hi.1.1.1.2⟩, hi.1.1.2⟩, hi.2⟩
            rcases ih (by omega) ((hS.cl v).cl x) hu' hy' ht' (fun e => e1 e.symm) (fun e => e2 e.symm) h3 k1 r5 with g | g | g
            · exact Or.inl (hX u hu h1 (fun e => x2 e.symm) (fun e => e1 e.symm) g)
            · exact Or.inr (Or.inl (hX t ht h2 (fun e => x3 e.symm) (fun e => e2 e.symm) g))
            · exact Or.inr (Or.inr ⟨v, x, hv, x1, fun e => q3 e.symm, q4, g⟩)
