-- ===== pieces: the nodes that are reached inside a set =====
def RC (A : Nat → Int32) (W : Int32) (v x : Nat) : Prop := ∀ P : Nat → Prop, P v → (∀ u x, P u → bt (A u) x = true → bt W x = true → P x) → P x
theorem RC.here (A : Nat → Int32) (W : Int32) (v : Nat) : RC A W v v := fun _ h _ => h
theorem RC.go {A : Nat → Int32} {W : Int32} {v u x : Nat} (h : RC A W v u) (h1 : bt (A u) x = true) (h2 : bt W x = true) : RC A W v x := fun P p0 ps => ps u x (h P p0 ps) h1 h2
/-- S is the piece of v inside W -/
def IsC (n : Nat) (A : Nat → Int32) (W : Int32) (v : Nat) (S : Int32) : Prop := Bd n S ∧ ∀ i, i < n → (bt S i = true ↔ RC A W v i)
theorem IsC.uniq {n : Nat} {A : Nat → Int32} {W : Int32} {v : Nat} {S T : Int32} (h : IsC n A W v S) (h2 : IsC n A W v T) : S = T := by
  apply b_ext
  intro i hi
  rcases Nat.lt_or_ge i n with h3 | h3
  · have := h.2 i h3
    have h4 := h2.2 i h3
    cases q1 : bt S i <;> cases q2 : bt T i <;> simp_all
  · rw [h.1 i h3 hi, h2.1 i h3 hi]
theorem RC.closed {A : Nat → Int32} {W S : Int32} {v : Nat} (h0 : bt S v = true) (hc : ∀ u x, bt S u = true → bt (A u) x = true → bt W x = true → bt S x = true) {x : Nat} (h : RC A W v x) : bt S x = true := by
  exact h (fun x => bt S x = true) h0 hc
theorem b_lt {n : Nat} {S : Int32} {i : Nat} (h : Bd n S) (hb : bt S i = true) : i < n := by
  rcases Nat.lt_or_ge i n with h3 | h3
  · exact h3
  · rcases Nat.lt_or_ge i 32 with h4 | h4
    · rw [h i h3 h4] at hb; cases hb
    · rw [b_big h4] at hb; cases hb
theorem RC.lt {n : Nat} {A : Nat → Int32} {W : Int32} {v x : Nat} (hW : Bd n W) (hv : v < n) (h : RC A W v x) : x < n := h (fun x => x < n) hv (fun _ _ _ _ h2 => b_lt hW h2)
/-- the class's search: seen, still to do, done -/
def PI (n : Nat) (A : Nat → Int32) (W : Int32) (v k : Nat) (seen todo : Int32) : Prop :=
  ∃ dn : Int32, Bd n seen ∧ Bd n todo ∧ Bd n dn ∧ cnt n n dn = k ∧ bt seen v = true ∧ (∀ i, i < 32 → bt seen i = (bt dn i || bt todo i)) ∧ (∀ i, i < 32 → bt dn i = true → bt todo i = false) ∧ (∀ i, i < 32 → bt seen i = true → RC A W v i) ∧ ∀ u x, bt dn u = true → bt (A u) x = true → bt W x = true → bt seen x = true
theorem PI.done {n : Nat} {A : Nat → Int32} {W : Int32} {v k : Nat} {seen : Int32} (h : PI n A W v k seen 0) (hn : n ≤ 12) : IsC n A W v seen := by
  obtain ⟨dn, h1, h2, h3, h4, h5, h6, h7, h8, h9⟩ := h
  refine ⟨h1, fun i hi => ⟨fun hb => h8 i (by omega) hb, fun hr => RC.closed h5 (fun u x hu => ?_) hr⟩⟩
  refine h9 u x ?_
  have hu2 := b_lt h1 hu
  have := h6 u (by omega)
  rw [hu, b_0] at this
  simpa using this.symm
theorem cnt_add {n : Nat} (hn : n ≤ 32) {S : Int32} {u : Nat} (hu : u < n) (hb : bt S u = false) : cnt n n (S ||| sg u) = cnt n n S + 1 := by
  rw [cnt_cl hn (m := n) (S := S ||| sg u) (w := u) (Nat.le_refl n) (by omega) hu (by rw [b_or, b_sg (by omega) (by omega)]; simp)]
  congr 1
  refine cnt_congr (Nat.le_refl n) (fun i _ hi => ?_)
  rw [b_cl (by omega) (by omega), b_or, b_sg (by omega) (by omega)]
  by_cases e : i = u
  · subst e; simp [hb]
  · simp [e]
theorem cnt_zero (n : Nat) : ∀ m, cnt n m 0 = 0
  | 0 => rfl
  | m + 1 => by rw [cnt_succ, cnt_zero n m, b_0]; rfl
theorem PI.lt {n : Nat} {A : Nat → Int32} {W : Int32} {v k : Nat} {seen todo : Int32} (h : PI n A W v k seen todo) (hn : n ≤ 12) (h0 : todo ≠ 0) : k < n := by
  obtain ⟨dn, h1, h2, h3, h4, h5, h6, h7, h8, h9⟩ := h
  obtain ⟨l1, l2, l3⟩ := lwn_spec (h2.mono hn) h0
  have hl := b_lt h2 l2
  have hd : bt dn (lwn todo) = false := by
    cases q : bt dn (lwn todo)
    · rfl
    · rw [h7 _ (by omega) q] at l2; cases l2
  have := cnt_add (n := n) (by omega) hl hd
  have := cnt_le n n (dn ||| sg (lwn todo))
  omega
theorem PI.step {n : Nat} {A : Nat → Int32} {W : Int32} {v k : Nat} {seen todo : Int32} (w : GW n A) (hW : Bd n W) (h : PI n A W v k seen todo) (h0 : todo ≠ 0) : PI n A W v (k + 1) (seen ||| ((A (lwn todo) &&& W) &&& (seen ^^^ (-1)))) (cl todo (lwn todo) ||| ((A (lwn todo) &&& W) &&& (seen ^^^ (-1)))) := by
  have hn := w.2.1
  obtain ⟨dn, h1, h2, h3, h4, h5, h6, h7, h8, h9⟩ := h
  obtain ⟨l1, l2, l3⟩ := lwn_spec (h2.mono hn) h0
  obtain ⟨u, hu⟩ : ∃ u, u = lwn todo := ⟨_, rfl⟩
  rw [← hu] at l1 l2 l3 ⊢
  have hl := b_lt h2 l2
  have hd : bt dn u = false := by
    cases q : bt dn u
    · rfl
    · rw [h7 _ (by omega) q] at l2; cases l2
  have hnew : Bd n ((A u &&& W) &&& (seen ^^^ (-1))) := (hW.and_right _).and_left _
  have bnew : ∀ i, i < 32 → bt ((A u &&& W) &&& (seen ^^^ (-1))) i = (bt (A u) i && bt W i && !bt seen i) := fun i hi => by rw [b_and, b_and, b_not hi]
  have hsu : bt seen u = true := by rw [h6 u (by omega), l2]; simp
  refine ⟨dn ||| sg u, h1.or hnew, (h2.cl u).or hnew, h3.or (Bd.sg hl (by omega)), by rw [cnt_add (by omega) hl hd, h4], by rw [b_or, h5]; rfl, fun i hi => ?_, fun i hi hb => ?_, fun i hi hb => ?_, fun y x hy hA hx => ?_⟩
  · rw [b_or, b_or, b_or, b_cl (by omega) hi, b_sg (by omega) hi, bnew i hi, h6 i hi]
    by_cases e : i = u
    · subst e; simp [l2]
    · simp only [e, decide_false, ne_eq, not_false_eq_true, decide_true, Bool.and_true, Bool.or_false, Bool.or_assoc]
  · rw [b_or, b_cl (by omega) hi, bnew i hi]
    rw [b_or, b_sg (by omega) hi] at hb
    by_cases e : i = u
    · subst e; simp [hsu]
    · simp only [e, decide_false, Bool.or_false] at hb
      have hs : bt seen i = true := by rw [h6 i hi, hb]; rfl
      rw [h7 i hi hb, hs]; simp
  · rw [b_or, bnew i hi, Bool.or_eq_true] at hb
    rcases hb with hb | hb
    · exact h8 i hi hb
    · simp only [Bool.and_eq_true] at hb
      exact RC.go (h8 u (by omega) hsu) hb.1.1 hb.1.2
  · have hxn := b_lt hW hx
    have hyn := b_lt (h3.or (Bd.sg hl (by omega))) hy
    rw [b_or, b_sg (by omega) (by omega), Bool.or_eq_true] at hy
    rw [b_or, bnew x (by omega)]
    rcases hy with hy | hy
    · rw [h9 y x hy hA hx]; rfl
    · simp only [decide_eq_true_eq] at hy
      subst hy
      rw [hA, hx]
      cases bt seen x <;> rfl
theorem pieceOf_eq {n : Nat} {A : Nat → Int32} {σ : WD} (w : GW n A) (hG : GC n A σ) {W : Int32} (hW : Bd n W) {v : Nat} (hv : v < n) : ∃ S, f_X0_pieceOf (nI v) W σ = some S ∧ IsC n A W v S := by
  have hn := w.2.1
  unfold f_X0_pieceOf f_X0_pieceOf_10
  rw [li_eq, sg_eq]
  have p0 : PI n A W v 0 (sg v) (sg v) := by
    refine ⟨0, Bd.sg hv (by omega), Bd.sg hv (by omega), Bd.zero n, cnt_zero n n, ?_, ?_, ?_, ?_, ?_⟩
    · rw [b_sg (by omega) (by omega)]; simp
    · intro i hi; rw [b_0]; rfl
    · intro i hi h; rw [b_0] at h; cases h
    · intro i hi h
      rw [b_sg (by omega) hi] at h
      simp only [decide_eq_true_eq] at h
      subst h; exact RC.here _ _ _
    · intro u x h; rw [b_0] at h; cases h
  · have key : ∀ d k seen todo, n - k < d → PI n A W v k seen todo → ∃ S, lp (fun s : Int32 × Int32 × Int32 => f_X0_pieceOf_b10 W s.1 s.2.1 s.2.2 σ) (seen, todo, nI k) = some S ∧ IsC n A W v S := by
      intro d
      induction d with
      | zero => intro k seen todo h; omega
      | succ d ih =>
        intro k seen todo hd hp
        by_cases h0 : todo = 0
        · subst h0
          refine ⟨seen, lp_end ?_, hp.done hn⟩
          dsimp only
          unfold f_X0_pieceOf_b10
          rw [if_pos (show (0 : Int32) = 0 from rfl)]
          split <;> rfl
        · have hk := hp.lt hn h0
          obtain ⟨S, e, hS⟩ := ih (k + 1) _ _ (by omega) (hp.step w hW h0)
          refine ⟨S, ?_, hS⟩
          obtain ⟨dn, h1, h2, -⟩ := hp
          obtain ⟨l1, l2, l3⟩ := lwn_spec (h2.mono hn) h0
          rw [← e]
          refine lp_go ?_
          dsimp only
          unfold f_X0_pieceOf_b10
          rw [hG.1, if_neg (nI_ge hk (by omega)), if_neg h0, numTZ_eq (h2.mono hn) h0, bv_eq, gi12 l1, nI_clamp (by omega), hG.2 _ l1, li_eq, cl_eq, li_eq, nI_1]
    exact key (n + 1) 0 _ _ (by omega) p0
