-- ===== sizes and numbers of maximum matchings, set by set =====
/-- the better of two (size, number); at the same size the numbers add up -/
def cmb (p q : Nat × Nat) : Nat × Nat := if p.1 < q.1 then q else if p.1 = q.1 then (p.1, p.2 + q.2) else p
def shf (p : Nat × Nat) : Nat × Nat := (p.1 + 1, p.2)
/-- node v and the rest R: exposed, or with one of the t nodes behind v -/
def mf (D : Int32 → Nat × Nat) (a R : Int32) (v : Nat) : Nat → Nat × Nat
  | 0 => D R
  | t + 1 => if (bt R (v + 1 + t) && bt a (v + 1 + t)) = true then cmb (mf D a R v t) (shf (D (cl R (v + 1 + t)))) else mf D a R v t
/-- the last m of n nodes -/
def dp (n : Nat) (A : Nat → Int32) : Nat → Int32 → Nat × Nat
  | 0 => fun _ => (0, 1)
  | m + 1 => fun S => if bt S (n - (m + 1)) = true then mf (dp n A m) (A (n - (m + 1))) (cl S (n - (m + 1))) (n - (m + 1)) m else dp n A m S
def DS (n : Nat) (A : Nat → Int32) (S : Int32) : Nat × Nat := dp n A n S
theorem cmb_pos {p q : Nat × Nat} (hp : 1 ≤ p.2) (hq : 1 ≤ q.2) : 1 ≤ (cmb p q).2 := by
  unfold cmb; split
  · exact hq
  · split
    · show 1 ≤ p.2 + q.2; omega
    · exact hp
theorem cmb_le {p q : Nat × Nat} {k : Nat} (hp : p.1 ≤ k) (hq : q.1 ≤ k) : (cmb p q).1 ≤ k := by
  unfold cmb; split
  · exact hq
  · split
    · exact hp
    · exact hp
theorem cmb_sum (p q : Nat × Nat) : (cmb p q).2 ≤ p.2 + q.2 := by
  unfold cmb; split
  · omega
  · split
    · exact Nat.le_refl _
    · omega
theorem mf_pos {D : Int32 → Nat × Nat} (hD : ∀ S, 1 ≤ (D S).2) (a R : Int32) (v : Nat) : ∀ t, 1 ≤ (mf D a R v t).2
  | 0 => hD R
  | t + 1 => by
    unfold mf; split
    · exact cmb_pos (mf_pos hD a R v t) (hD _)
    · exact mf_pos hD a R v t
theorem dp_pos (n : Nat) (A : Nat → Int32) : ∀ m S, 1 ≤ (dp n A m S).2
  | 0, _ => Nat.le_refl _
  | m + 1, S => by
    unfold dp; split
    · exact mf_pos (dp_pos n A m) _ _ _ _
    · exact dp_pos n A m S
theorem DS_pos (n : Nat) (A : Nat → Int32) (S : Int32) : 1 ≤ (DS n A S).2 := dp_pos n A n S
theorem mf_le {D : Int32 → Nat × Nat} {k : Nat} (hD : ∀ S, (D S).1 ≤ k) (a R : Int32) (v : Nat) : ∀ t, (mf D a R v t).1 ≤ k + 1
  | 0 => Nat.le_succ_of_le (hD R)
  | t + 1 => by
    unfold mf; split
    · exact cmb_le (mf_le hD a R v t) (Nat.succ_le_succ (hD _))
    · exact mf_le hD a R v t
theorem dp_le (n : Nat) (A : Nat → Int32) : ∀ m S, (dp n A m S).1 ≤ m
  | 0, _ => Nat.le_refl _
  | m + 1, S => by
    unfold dp; split
    · exact mf_le (dp_le n A m) _ _ _ _
    · exact Nat.le_succ_of_le (dp_le n A m S)
theorem DS_le (n : Nat) (A : Nat → Int32) (S : Int32) : (DS n A S).1 ≤ n := dp_le n A n S
/-- only the bits of the last m nodes matter -/
theorem mf_congr {D : Int32 → Nat × Nat} {a R R2 : Int32} {v n t : Nat} (hn : n ≤ 32) (hD : ∀ S S2, (∀ i, v + 1 ≤ i → i < n → bt S i = bt S2 i) → D S = D S2) (ht : v + 1 + t ≤ n) (h : ∀ i, v + 1 ≤ i → i < n → bt R i = bt R2 i) : mf D a R v t = mf D a R2 v t := by
  induction t with
  | zero => exact hD _ _ h
  | succ t ih =>
    unfold mf
    rw [h (v + 1 + t) (by omega) (by omega), ih (by omega), hD (cl R (v + 1 + t)) (cl R2 (v + 1 + t)) (fun i h1 h2 => by rw [b_cl (by omega) (by omega), b_cl (by omega) (by omega), h i h1 h2])]
theorem dp_congr {n : Nat} (hn : n ≤ 32) (A : Nat → Int32) : ∀ {m : Nat} {S S2 : Int32}, m ≤ n → (∀ i, n - m ≤ i → i < n → bt S i = bt S2 i) → dp n A m S = dp n A m S2
  | 0, _, _, _, _ => rfl
  | m + 1, S, S2, hm, h => by
    unfold dp
    rw [h (n - (m + 1)) (by omega) (by omega), dp_congr hn A (m := m) (by omega) (fun i h1 h2 => h i (by omega) h2)]
    split
    · exact mf_congr hn (fun S S2 hS => dp_congr hn A (by omega) (fun i h1 h2 => hS i (by omega) h2)) (by omega) (fun i h1 h2 => by rw [b_cl (by omega) (by omega), b_cl (by omega) (by omega), h i (by omega) h2])
    · rfl
theorem dp_low {n : Nat} {A : Nat → Int32} {S : Int32} : ∀ {v : Nat}, v ≤ n → (∀ i, i < v → bt S i = false) → dp n A n S = dp n A (n - v) S
  | 0, _, _ => rfl
  | v + 1, hv, h => by
    rw [dp_low (v := v) (by omega) (fun i hi => h i (by omega))]
    obtain ⟨m, hm⟩ : ∃ m, n - v = m + 1 := ⟨n - v - 1, by omega⟩
    rw [hm, show n - (v + 1) = m by omega]
    show (if bt S (n - (m + 1)) = true then _ else dp n A m S) = _
    rw [show n - (m + 1) = v by omega, h v (by omega)]
    rfl
/-- a set by its lowest node -/
theorem DS_step {n : Nat} {A : Nat → Int32} {S : Int32} {v : Nat} (hn : n ≤ 32) (hv : v < n) (hb : bt S v = true) (h : ∀ i, i < v → bt S i = false) : DS n A S = mf (DS n A) (A v) (cl S v) v (n - 1 - v) := by
  unfold DS
  rw [dp_low (v := v) (by omega) h]
  obtain ⟨m, hm⟩ : ∃ m, n - v = m + 1 := ⟨n - v - 1, by omega⟩
  rw [hm]
  show (if bt S (n - (m + 1)) = true then _ else _) = _
  rw [show n - (m + 1) = v by omega, if_pos hb, show n - 1 - v = m by omega]
  have key : ∀ T, (∀ i, i ≤ v → bt T i = false) → dp n A m T = dp n A n T := by
    intro T hT
    rw [dp_low (v := v + 1) (by omega) (fun i hi => hT i (by omega)), show n - (v + 1) = m by omega]
  have hcl : ∀ i, i ≤ v → bt (cl S v) i = false := by
    intro i hi
    rw [b_cl (by omega) (by omega)]
    by_cases e : i = v
    · simp [e]
    · simp [h i (by omega)]
  have hmf : ∀ t, v + 1 + t ≤ n → mf (dp n A m) (A v) (cl S v) v t = mf (fun S => dp n A n S) (A v) (cl S v) v t := by
    intro t ht
    induction t with
    | zero => exact key _ hcl
    | succ t ih =>
      unfold mf
      rw [ih (by omega), key (cl (cl S v) (v + 1 + t)) (fun i hi => by rw [b_cl (by omega) (by omega), hcl i hi]; rfl)]
  exact hmf m (by omega)
theorem DS_empty {n : Nat} {A : Nat → Int32} {S : Int32} (h : ∀ i, i < n → bt S i = false) : DS n A S = (0, 1) := by
  unfold DS
  rw [dp_low (v := n) (Nat.le_refl n) h, Nat.sub_self]
  rfl
-- how large the numbers get: involutions
def inv : Nat → Nat
  | 0 => 1
  | 1 => 1
  | k + 2 => inv (k + 1) + (k + 1) * inv k
def cnt (n : Nat) : Nat → Int32 → Nat
  | 0, _ => 0
  | m + 1, S => (if bt S (n - (m + 1)) = true then 1 else 0) + cnt n m S
theorem cnt_succ (n m : Nat) (S : Int32) : cnt n (m + 1) S = (if bt S (n - (m + 1)) = true then 1 else 0) + cnt n m S := rfl
theorem cnt_le (n : Nat) : ∀ m S, cnt n m S ≤ m
  | 0, _ => Nat.le_refl _
  | m + 1, S => by have := cnt_le n m S; unfold cnt; split <;> omega
theorem cnt_congr {n : Nat} : ∀ {m : Nat} {S S2 : Int32}, m ≤ n → (∀ i, n - m ≤ i → i < n → bt S i = bt S2 i) → cnt n m S = cnt n m S2
  | 0, _, _, _, _ => rfl
  | m + 1, S, S2, hm, h => by unfold cnt; rw [h (n - (m + 1)) (by omega) (by omega), cnt_congr (m := m) (by omega) (fun i h1 h2 => h i (by omega) h2)]
theorem cnt_cl {n : Nat} (hn : n ≤ 32) : ∀ {m : Nat} {S : Int32} {w : Nat}, m ≤ n → n - m ≤ w → w < n → bt S w = true → cnt n m S = cnt n m (cl S w) + 1
  | 0, _, _, _, _, _, _ => by omega
  | m + 1, S, w, hm, h1, h2, hb => by
    unfold cnt
    by_cases e : w = n - (m + 1)
    · rw [← e, hb, b_cl (by omega) (by omega), hb, cnt_congr (m := m) (S := cl S w) (S2 := S) (by omega) (fun i h3 h4 => by rw [b_cl (by omega) (by omega)]; simp; intro _ e2; omega)]
      simp; omega
    · rw [cnt_cl hn (m := m) (by omega) (by omega) h2 hb, b_cl (x := S) (k := w) (by omega) (by omega)]
      simp only [show (n - (m + 1)) ≠ w from fun e2 => e e2.symm, ne_eq, not_false_eq_true, decide_true, Bool.and_true]
      omega
/-- how many of the nodes behind v, up to t of them, are in R -/
def cup (R : Int32) (v : Nat) : Nat → Nat
  | 0 => 0
  | t + 1 => cup R v t + if bt R (v + 1 + t) = true then 1 else 0
theorem cup_succ (R : Int32) (v t : Nat) : cup R v (t + 1) = cup R v t + if bt R (v + 1 + t) = true then 1 else 0 := rfl
theorem cup_cnt {n : Nat} (R : Int32) (v : Nat) : ∀ t, v + 1 + t ≤ n → cup R v t + cnt n (n - (v + 1 + t)) R = cnt n (n - (v + 1)) R
  | 0, _ => by simp [cup]
  | t + 1, h => by
    have ih := cup_cnt (n := n) R v t (by omega)
    rw [← ih]
    obtain ⟨m, hm⟩ : ∃ m, n - (v + 1 + t) = m + 1 := ⟨n - (v + 1 + t) - 1, by omega⟩
    rw [hm, show n - (v + 1 + (t + 1)) = m by omega]
    rw [cup_succ, cnt_succ, show n - (m + 1) = v + 1 + t by omega]
    omega
theorem inv_pos : ∀ k, 1 ≤ inv k
  | 0 => Nat.le_refl _
  | 1 => Nat.le_refl _
  | k + 2 => Nat.le_trans (inv_pos (k + 1)) (Nat.le_add_right _ _)
theorem inv_succ : ∀ c, inv (c + 1) = inv c + c * inv (c - 1)
  | 0 => rfl
  | c + 1 => rfl
theorem inv_mono {a b : Nat} (h : a ≤ b) : inv a ≤ inv b := by
  obtain ⟨d, rfl⟩ : ∃ d, b = a + d := ⟨b - a, by omega⟩
  clear h
  induction d with
  | zero => exact Nat.le_refl _
  | succ d ih => exact Nat.le_trans ih (by show inv (a + d) ≤ inv (a + d + 1); rw [inv_succ]; exact Nat.le_add_right _ _)
theorem dp_inv {n : Nat} (hn : n ≤ 32) (A : Nat → Int32) : ∀ m S, m ≤ n → (dp n A m S).2 ≤ inv (cnt n m S)
  | 0, _, _ => Nat.le_refl _
  | m + 1, S, hm => by
    unfold dp; split
    · rename_i hb
      obtain ⟨v, hv⟩ : ∃ v, v = n - (m + 1) := ⟨_, rfl⟩
      rw [← hv] at hb ⊢
      have hc : cnt n (m + 1) S = cnt n m (cl S v) + 1 := by
        rw [cnt_succ, ← hv, if_pos hb, cnt_congr (m := m) (S := S) (S2 := cl S v) (by omega) (fun i h1 h2 => by rw [b_cl (by omega) (by omega)]; simp; intro _ e; omega)]
        omega
      rw [hc, inv_succ]
      have key : ∀ t, v + 1 + t ≤ n → (mf (dp n A m) (A v) (cl S v) v t).2 ≤ inv (cnt n m (cl S v)) + cup (cl S v) v t * inv (cnt n m (cl S v) - 1) := by
        intro t
        induction t with
        | zero => intro _; exact Nat.le_trans (dp_inv hn A m _ (by omega)) (Nat.le_add_right _ _)
        | succ t ih =>
          intro ht
          unfold mf cup
          have ih := ih (by omega)
          split
          · rename_i hw
            simp only [Bool.and_eq_true] at hw
            rw [if_pos hw.1, Nat.add_mul, Nat.one_mul, ← Nat.add_assoc]
            refine Nat.le_trans (cmb_sum _ _) (Nat.add_le_add ih ?_)
            have h1 := dp_inv hn A m (cl (cl S v) (v + 1 + t)) (by omega)
            have h2 := cnt_cl hn (m := m) (S := cl S v) (w := v + 1 + t) (by omega) (by omega) (by omega) hw.1
            rw [h2, Nat.add_sub_cancel]
            exact h1
          · refine Nat.le_trans ih (Nat.add_le_add_left (Nat.mul_le_mul_right _ (Nat.le_add_right _ _)) _)
      refine Nat.le_trans (key m (by omega)) (Nat.add_le_add_left (Nat.mul_le_mul_right _ ?_) _)
      have := cup_cnt (n := n) (cl S v) v m (by omega)
      rw [show n - (v + 1) = m by omega] at this
      omega
    · rename_i hb
      have hc : cnt n (m + 1) S = cnt n m S := by rw [cnt_succ, if_neg hb]; omega
      rw [hc]
      exact dp_inv hn A m S (by omega)
theorem DS_lt {n : Nat} (hn : n ≤ 12) (A : Nat → Int32) (S : Int32) : (DS n A S).2 ≤ 140152 := by
  refine Nat.le_trans (dp_inv (by omega) A n S (Nat.le_refl n)) ?_
  have h1 : cnt n n S ≤ 12 := Nat.le_trans (cnt_le n n S) hn
  exact Nat.le_trans (inv_mono h1) (by decide)
