-- ===== an edge more or less =====
theorem cmb_snd (p q : Nat × Nat) : (cmb p q).2 = (if q.1 ≤ p.1 then p.2 else 0) + (if p.1 ≤ q.1 then q.2 else 0) := by
  unfold cmb
  split
  · rw [if_neg (by omega), if_pos (by omega)]; omega
  · split
    · rw [if_pos (by omega), if_pos (by omega)]
    · rw [if_pos (by omega), if_neg (by omega)]; omega
theorem pr_ext {p q : Nat × Nat} (h1 : p.1 = q.1) (h2 : p.2 = q.2) : p = q := Prod.ext h1 h2
theorem cmb_comm (p q : Nat × Nat) : cmb p q = cmb q p := by
  refine pr_ext ?_ ?_
  · rw [cmb_fst, cmb_fst]; omega
  · rw [cmb_snd, cmb_snd]; omega
theorem cmb_assoc (p q r : Nat × Nat) : cmb (cmb p q) r = cmb p (cmb q r) := by
  refine pr_ext ?_ ?_
  · rw [cmb_fst, cmb_fst, cmb_fst, cmb_fst]; omega
  · simp only [cmb_snd, cmb_fst]
    repeat' split
    all_goals omega
theorem cmb_four (a b c d : Nat × Nat) : cmb (cmb a b) (cmb c d) = cmb (cmb a c) (cmb b d) := by
  rw [cmb_assoc, ← cmb_assoc b c d, cmb_comm b c, cmb_assoc c b d, ← cmb_assoc]
theorem cmb_last (a b c : Nat × Nat) : cmb (cmb a b) c = cmb (cmb a c) b := by rw [cmb_assoc, cmb_comm b c, ← cmb_assoc]
theorem shf_cmb (p q : Nat × Nat) : shf (cmb p q) = cmb (shf p) (shf q) := by
  refine pr_ext ?_ ?_
  · show (cmb p q).1 + 1 = (cmb (shf p) (shf q)).1
    rw [cmb_fst, cmb_fst]
    show max p.1 q.1 + 1 = max (p.1 + 1) (q.1 + 1)
    omega
  · show (cmb p q).2 = (cmb (shf p) (shf q)).2
    rw [cmb_snd, cmb_snd]
    show _ = (if q.1 + 1 ≤ p.1 + 1 then p.2 else 0) + (if p.1 + 1 ≤ q.1 + 1 then q.2 else 0)
    repeat' split
    all_goals omega
theorem mf_eq {D D2 : Int32 → Nat × Nat} {a a2 R : Int32} {v : Nat} : ∀ {t : Nat}, D R = D2 R → (∀ x, v + 1 ≤ x → x < v + 1 + t → bt R x = true → bt a x = bt a2 x) → (∀ x, v + 1 ≤ x → x < v + 1 + t → bt R x = true → bt a x = true → D (cl R x) = D2 (cl R x)) → mf D a R v t = mf D2 a2 R v t
  | 0, h, _, _ => h
  | t + 1, h, h1, h2 => by
    have ih := mf_eq (D := D) (D2 := D2) (a := a) (a2 := a2) (R := R) (v := v) (t := t) h (fun x p q => h1 x p (by omega)) (fun x p q => h2 x p (by omega))
    rw [mf_succ, mf_succ, ih]
    by_cases hR : bt R (v + 1 + t) = true
    · rw [← h1 _ (by omega) (by omega) hR]
      by_cases ha : bt a (v + 1 + t) = true
      · rw [if_pos (by rw [hR, ha]; rfl), if_pos (by rw [hR, ha]; rfl), h2 _ (by omega) (by omega) hR ha]
      · rw [if_neg (by simp [ha]), if_neg (by simp [ha])]
    · rw [if_neg (by simp [hR]), if_neg (by simp [hR])]
/-- A is B with the edge u v -/
def Eg (n : Nat) (A B : Nat → Int32) (u v : Nat) : Prop := GW n A ∧ GW n B ∧ u < n ∧ v < n ∧ u ≠ v ∧ bt (A u) v = true ∧ bt (B u) v = false ∧ ∀ i j, i < n → j < n → ¬ (i = u ∧ j = v) → ¬ (i = v ∧ j = u) → bt (A i) j = bt (B i) j
theorem Eg.sym {n : Nat} {A B : Nat → Int32} {u v : Nat} (h : Eg n A B u v) : Eg n A B v u := by
  obtain ⟨h1, h2, h3, h4, h5, h6, h7, h8⟩ := h
  have hn := h1.2.1
  refine ⟨h1, h2, h4, h3, fun e => h5 e.symm, h1.sy h3 h4 h6, ?_, fun i j a b c d => h8 i j a b d c⟩
  rw [← h2.2.2.2.1 u v (by omega) (by omega)]; exact h7
theorem DS_off {n : Nat} {A B : Nat → Int32} {u v : Nat} (h : Eg n A B u v) : ∀ (m : Nat) (S : Int32), pcn S ≤ m → Bd n S → ¬ (bt S u = true ∧ bt S v = true) → DS n A S = DS n B S := by
  obtain ⟨h1, h2, h3, h4, h5, h6, h7, h8⟩ := h
  have hn := h1.2.1
  intro m
  induction m with
  | zero =>
    intro S hm hS _
    have h0 : ∀ i, i < n → bt S i = false := fun i hi => by
      cases q : bt S i
      · rfl
      · have := pcn_cl (show i < 12 by omega) q; omega
    rw [DS_empty h0, DS_empty h0]
  | succ m ih =>
    intro S hm hS huv
    by_cases hS0 : S = 0
    · exact ih S (by rw [hS0, pcn_zero]; omega) hS huv
    · obtain ⟨l1, l2, l3⟩ := lwn_spec (hS.mono hn) hS0
      obtain ⟨x, hx⟩ : ∃ x, x = lwn S := ⟨_, rfl⟩
      rw [← hx] at l1 l2 l3
      have hxn := b_lt hS l2
      have c1 := pcn_cl l1 l2
      have hsub : ∀ y, bt (cl S x) y = true → bt S y = true := fun y hy => ((m_cl (by omega)).mp hy).1
      rw [DS_step (by omega) hxn l2 l3, DS_step (by omega) hxn l2 l3]
      refine mf_eq (ih (cl S x) (by omega) (hS.cl x) (fun q => huv ⟨hsub u q.1, hsub v q.2⟩)) (fun y p q hy => ?_) (fun y p q hy _ => ?_)
      · refine h8 x y hxn (by omega) (fun e => huv ?_) (fun e => huv ?_)
        · rw [← e.1, ← e.2]; exact ⟨l2, hsub y hy⟩
        · rw [← e.1, ← e.2]; exact ⟨hsub y hy, l2⟩
      · have c2 := pcn_cl (show y < 12 by omega) hy
        exact ih (cl (cl S x) y) (by omega) ((hS.cl x).cl y) (fun q => huv ⟨hsub u ((m_cl (by omega)).mp q.1).1, hsub v ((m_cl (by omega)).mp q.2).1⟩)
theorem DS_low {n : Nat} {A B : Nat → Int32} {u v : Nat} (h : Eg n A B u v) {S : Int32} (hS : Bd n S) (hu : bt S u = true) (hv : bt S v = true) (hl : ∀ i, i < u → bt S i = false) : DS n A S = cmb (DS n B S) (shf (DS n A (cl (cl S u) v))) := by
  have hE := h
  obtain ⟨h1, h2, h3, h4, h5, h6, h7, h8⟩ := h
  have hn := h1.2.1
  have huv : u < v := by
    rcases Nat.lt_trichotomy u v with q | q | q
    · exact q
    · exact absurd q h5
    · rw [hl v q] at hv; cases hv
  rw [DS_step (S := S) (by omega) h3 hu hl, DS_step (A := B) (S := S) (by omega) h3 hu hl]
  have hoff : ∀ T, Bd n T → bt T u = false → DS n A T = DS n B T := fun T hT q => DS_off hE _ T (Nat.le_refl _) hT (fun r => by rw [q] at r; cases r.1)
  have hRu : bt (cl S u) u = false := by rw [b_cl (by omega) (by omega)]; simp
  have hRv : bt (cl S u) v = true := (m_cl (by omega)).mpr ⟨hv, fun e => h5 e.symm⟩
  have key : ∀ t, u + 1 + t ≤ n → mf (DS n A) (A u) (cl S u) u t = if v < u + 1 + t then cmb (mf (DS n B) (B u) (cl S u) u t) (shf (DS n A (cl (cl S u) v))) else mf (DS n B) (B u) (cl S u) u t := by
    intro t
    induction t with
    | zero =>
      intro _
      rw [if_neg (by omega)]
      exact hoff _ (hS.cl u) hRu
    | succ t ih =>
      intro ht
      rw [mf_succ, mf_succ, ih (by omega)]
      by_cases ey : u + 1 + t = v
      · rw [ey, if_neg (Nat.lt_irrefl v), if_pos (show v < u + 1 + (t + 1) by omega), hRv, h6, h7]
        rfl
      · have e8 : bt (A u) (u + 1 + t) = bt (B u) (u + 1 + t) := h8 u _ h3 (by omega) (fun e => ey e.2) (fun e => h5 e.1)
        rw [← e8, ← hoff (cl (cl S u) (u + 1 + t)) ((hS.cl u).cl _) (by rw [b_cl (by omega) (by omega), hRu]; rfl)]
        by_cases hvt : v < u + 1 + t
        · rw [if_pos hvt, if_pos (show v < u + 1 + (t + 1) by omega)]
          split
          · rw [cmb_last]
          · rfl
        · rw [if_neg hvt, if_neg (show ¬ v < u + 1 + (t + 1) by omega)]
  have := key (n - 1 - u) (by omega)
  rw [if_pos (show v < u + 1 + (n - 1 - u) by omega)] at this
  exact this
theorem DS_edge {n : Nat} {A B : Nat → Int32} {u v : Nat} (h : Eg n A B u v) : ∀ (m : Nat) (S : Int32), pcn S ≤ m → Bd n S → bt S u = true → bt S v = true → DS n A S = cmb (DS n B S) (shf (DS n A (cl (cl S u) v))) := by
  have hE := h
  obtain ⟨h1, h2, h3, h4, h5, h6, h7, h8⟩ := h
  have hn := h1.2.1
  intro m
  induction m with
  | zero =>
    intro S hm hS hu _
    have := pcn_cl (show u < 12 by omega) hu
    omega
  | succ m ih =>
    intro S hm hS hu hv
    have hS0 : S ≠ 0 := fun q => by rw [q, b_0] at hu; cases hu
    obtain ⟨l1, l2, l3⟩ := lwn_spec (hS.mono hn) hS0
    obtain ⟨x, hx⟩ : ∃ x, x = lwn S := ⟨_, rfl⟩
    rw [← hx] at l1 l2 l3
    have hxn := b_lt hS l2
    have c1 := pcn_cl l1 l2
    by_cases exu : x = u
    · subst exu; exact DS_low hE hS hu hv l3
    · by_cases exv : x = v
      · subst exv
        rw [cl_comm]; exact DS_low hE.sym hS hv hu l3
      · have hx' : bt (cl (cl S u) v) x = true := by rw [m_cl (by omega), m_cl (by omega)]; exact ⟨⟨l2, exu⟩, exv⟩
        have hl' : ∀ i, i < x → bt (cl (cl S u) v) i = false := fun i hi => by
          cases q : bt (cl (cl S u) v) i
          · rfl
          · rw [m_cl (by omega), m_cl (by omega), l3 i hi] at q; cases q.1.1
        rw [DS_step (S := S) (by omega) hxn l2 l3, DS_step (A := B) (S := S) (by omega) hxn l2 l3, DS_step (S := cl (cl S u) v) (by omega) hxn hx' hl']
        have hRu : bt (cl S x) u = true := (m_cl (by omega)).mpr ⟨hu, fun e => exu e.symm⟩
        have hRv : bt (cl S x) v = true := (m_cl (by omega)).mpr ⟨hv, fun e => exv e.symm⟩
        have e0 : cl (cl (cl S u) v) x = cl (cl (cl S x) u) v := by rw [cl_comm (cl S u) v x, cl_comm S u x]
        have hAB : ∀ y, y < n → bt (A x) y = bt (B x) y := fun y hy => h8 x y hxn hy (fun e => exu e.1) (fun e => exv e.1)
        have key : ∀ t, x + 1 + t ≤ n → mf (DS n A) (A x) (cl S x) x t = cmb (mf (DS n B) (B x) (cl S x) x t) (shf (mf (DS n A) (A x) (cl (cl (cl S u) v) x) x t)) := by
          intro t
          induction t with
          | zero =>
            intro _
            show DS n A (cl S x) = cmb (DS n B (cl S x)) (shf (DS n A (cl (cl (cl S u) v) x)))
            rw [e0]
            exact ih (cl S x) (by omega) (hS.cl x) hRu hRv
          | succ t iht =>
            intro ht
            rw [mf_succ, mf_succ, mf_succ, iht (by omega), ← hAB _ (by omega)]
            obtain ⟨y, hy⟩ : ∃ y, y = x + 1 + t := ⟨_, rfl⟩
            rw [← hy]
            have hyn : y < n := by omega
            have hR' : bt (cl (cl (cl S u) v) x) y = (bt (cl S x) y && decide (y ≠ u) && decide (y ≠ v)) := by
              rw [e0, b_cl (by omega) (by omega), b_cl (by omega) (by omega)]
            by_cases hyR : bt (cl S x) y = true
            · by_cases hyA : bt (A x) y = true
              · have c2 := pcn_cl (show y < 12 by omega) hyR
                rw [if_pos (by rw [hyR, hyA]; rfl), if_pos (by rw [hyR, hyA]; rfl)]
                by_cases e1 : y = u
                · rw [if_neg (by rw [hR']; simp [e1])]
                  rw [DS_off hE _ (cl (cl S x) y) (Nat.le_refl _) ((hS.cl x).cl y) (fun q => by rw [m_cl (by omega)] at q; exact q.1.2 e1.symm), cmb_last]
                · by_cases e2 : y = v
                  · rw [if_neg (by rw [hR']; simp [e2])]
                    rw [DS_off hE _ (cl (cl S x) y) (Nat.le_refl _) ((hS.cl x).cl y) (fun q => ((m_cl (by omega)).mp q.2).2 e2.symm), cmb_last]
                  · rw [if_pos (by rw [hR', hyR, hyA]; simp [e1, e2])]
                    have e3 : cl (cl (cl (cl S u) v) x) y = cl (cl (cl (cl S x) y) u) v := by rw [e0, cl_comm (cl (cl S x) u) v y, cl_comm (cl S x) u y]
                    rw [e3, ih (cl (cl S x) y) (by omega) ((hS.cl x).cl y) ((m_cl (by omega)).mpr ⟨hRu, fun e => e1 e.symm⟩) ((m_cl (by omega)).mpr ⟨hRv, fun e => e2 e.symm⟩), shf_cmb, shf_cmb, cmb_four]
              · rw [if_neg (by simp [hyA]), if_neg (by simp [hyA]), if_neg (by simp [hyA])]
            · rw [if_neg (by simp [hyR]), if_neg (by simp [hyR]), if_neg (by rw [hR']; simp [hyR])]
        exact key (n - 1 - x) (by omega)
/-- the graph with one edge changed -/
def flp (A : Nat → Int32) (u v : Nat) : Nat → Int32 := upd (upd A u (A u ^^^ sg v)) v (A v ^^^ sg u)
theorem flp_bt {A : Nat → Int32} {u v : Nat} (hu : u < 12) (hv : v < 12) (huv : u ≠ v) (i : Nat) {j : Nat} (hj : j < 32) : bt (flp A u v i) j = (bt (A i) j ^^ decide ((i = u ∧ j = v) ∨ (i = v ∧ j = u))) := by
  unfold flp
  rw [upd_get, upd_get]
  by_cases e1 : i = v
  · subst e1
    rw [if_pos rfl, b_xor, b_sg (by omega) hj]
    simp [show ¬ i = u from fun e => huv e.symm]
  · rw [if_neg e1]
    by_cases e2 : i = u
    · subst e2
      rw [if_pos rfl, b_xor, b_sg (by omega) hj]
      simp [e1]
    · rw [if_neg e2]; simp [e1, e2]
theorem GW.flp {n : Nat} {A : Nat → Int32} (w : GW n A) {u v : Nat} (hu : u < n) (hv : v < n) (huv : u ≠ v) : GW n (flp A u v) := by
  have hn := w.2.1
  refine ⟨w.1, hn, fun i hi j h1 h2 => ?_, fun i j hi hj => ?_, fun i hi => ?_⟩
  · rw [flp_bt (by omega) (by omega) huv i h2, w.2.2.1 i hi j h1 h2]
    simp [show ¬ j = v by omega, show ¬ j = u by omega]
  · rw [flp_bt (by omega) (by omega) huv i (by omega), flp_bt (by omega) (by omega) huv j (by omega), w.2.2.2.1 i j hi hj]
    congr 1
    apply decide_eq_decide.mpr
    constructor
    · rintro (⟨a, b⟩ | ⟨a, b⟩)
      · exact Or.inr ⟨b, a⟩
      · exact Or.inl ⟨b, a⟩
    · rintro (⟨a, b⟩ | ⟨a, b⟩)
      · exact Or.inr ⟨b, a⟩
      · exact Or.inl ⟨b, a⟩
  · rw [flp_bt (by omega) (by omega) huv i (by omega), w.2.2.2.2 i hi]
    have : ¬ ((i = u ∧ i = v) ∨ (i = v ∧ i = u)) := fun q => by rcases q with q | q <;> omega
    simp [this]
/-- the size of the maximum matchings with the edge changed -/
theorem DS_flip {n : Nat} {A : Nat → Int32} (w : GW n A) {u v : Nat} (hu : u < n) (hv : v < n) (huv : u ≠ v) : (DS n (flp A u v) (al n)).1 = if bt (A u) v = true then (if hvq n A u v = (DS n A (al n)).2 then (DS n A (al n)).1 - 1 else (DS n A (al n)).1) else max (DS n A (al n)).1 ((DS n A (cl (cl (al n) u) v)).1 + 1) := by
  have hn := w.2.1
  have hal : Bd n (al n) := Bd.al (by omega)
  have wf := w.flp hu hv huv
  have mu : bt (al n) u = true := by rw [b_al n (by omega) u (by omega)]; simp [hu]
  have mv : bt (al n) v = true := by rw [b_al n (by omega) v (by omega)]; simp [hv]
  have hsame : ∀ i j, i < n → j < n → ¬ (i = u ∧ j = v) → ¬ (i = v ∧ j = u) → bt (flp A u v i) j = bt (A i) j := fun i j hi hj h1 h2 => by
    rw [flp_bt (by omega) (by omega) huv i (by omega)]
    have : ¬ ((i = u ∧ j = v) ∨ (i = v ∧ j = u)) := fun q => q.elim h1 h2
    simp [this]
  have hself : bt (flp A u v u) v = !bt (A u) v := by
    rw [flp_bt (by omega) (by omega) huv u (by omega)]; simp
  by_cases hb : bt (A u) v = true
  · rw [if_pos hb]
    have hE : Eg n A (flp A u v) u v := ⟨w, wf, hu, hv, huv, hb, by rw [hself, hb]; rfl, fun i j a b c d => (hsame i j a b c d).symm⟩
    have e := DS_edge hE _ (al n) (Nat.le_refl _) hal mu mv
    have e2 := DS_off hE _ (cl (cl (al n) u) v) (Nat.le_refl _) ((hal.cl u).cl v) (fun q => by rw [m_cl (by omega), m_cl (by omega)] at q; exact q.1.1.2 rfl)
    have hmono : (DS n (flp A u v) (cl (cl (al n) u) v)).1 ≤ (DS n (flp A u v) (al n)).1 := by
      have h := (Mt_DS wf ((hal.cl u).cl v) _).mpr (Nat.le_refl (DS n (flp A u v) (cl (cl (al n) u) v)).1)
      exact (Mt_DS wf hal _).mp (h.mono (fun i hi => by rw [m_cl (by omega), m_cl (by omega)] at hi; exact hi.1.1))
    have f1 : (DS n A (al n)).1 = max (DS n (flp A u v) (al n)).1 ((DS n A (cl (cl (al n) u) v)).1 + 1) := by
      rw [e, cmb_fst]; rfl
    have f2 : (DS n A (al n)).2 = (if (DS n A (cl (cl (al n) u) v)).1 + 1 ≤ (DS n (flp A u v) (al n)).1 then (DS n (flp A u v) (al n)).2 else 0) + (if (DS n (flp A u v) (al n)).1 ≤ (DS n A (cl (cl (al n) u) v)).1 + 1 then (DS n A (cl (cl (al n) u) v)).2 else 0) := by
      rw [e, cmb_snd]; rfl
    have p1 := DS_pos n (flp A u v) (al n)
    have p2 := DS_pos n A (cl (cl (al n) u) v)
    rw [← e2] at hmono
    by_cases h1 : (DS n A (cl (cl (al n) u) v)).1 + 1 = (DS n A (al n)).1
    · have hh : hvq n A u v = (DS n A (cl (cl (al n) u) v)).2 := by unfold hvq; rw [if_pos ⟨hb, h1⟩]
      rw [hh]
      by_cases h2 : (DS n (flp A u v) (al n)).1 < (DS n A (cl (cl (al n) u) v)).1 + 1
      · rw [if_neg (by omega), if_pos (by omega)] at f2
        rw [if_pos (by omega)]; omega
      · rw [if_pos (by omega), if_pos (by omega)] at f2
        rw [if_neg (by omega)]; omega
    · have hh : hvq n A u v = 0 := by unfold hvq; rw [if_neg (fun q => h1 q.2)]
      rw [hh]
      rw [if_pos (by omega), if_neg (by omega)] at f2
      rw [if_neg (by omega)]; omega
  · rw [if_neg hb]
    have hb' : bt (A u) v = false := by simpa using hb
    have hE : Eg n (flp A u v) A u v := ⟨wf, w, hu, hv, huv, by rw [hself, hb']; rfl, hb', hsame⟩
    have e := DS_edge hE _ (al n) (Nat.le_refl _) hal mu mv
    have e2 := DS_off hE _ (cl (cl (al n) u) v) (Nat.le_refl _) ((hal.cl u).cl v) (fun q => by rw [m_cl (by omega), m_cl (by omega)] at q; exact q.1.1.2 rfl)
    rw [e, cmb_fst, e2]; rfl
theorem ifChanged_eq {n : Nat} {A : Nat → Int32} {σ : WD} (w : GW n A) (hG : GC n A σ) (hM : Mo n A σ) {u v : Nat} (hu : u < n) (hv : v < n) (huv : u ≠ v) : ∃ τ, f_X6_ifChanged_15 (nI u) (nI v) σ = some (nI (DS n (flp A u v) (al n)).1, τ) ∧ MZ n A σ τ := by
  have hn := w.2.1
  have l1 := DS_half w
  have l2 := DS_le n A (cl (cl (al n) u) v)
  rw [DS_flip w hu hv huv]
  unfold f_X6_ifChanged_15
  obtain ⟨τ1, e1, h1⟩ := number_eq w hG hM
  rw [e1, bn_eq, joined_eq h1.2.2 (by omega) (by omega), bv_eq]
  by_cases hb : bt (A u) v = true
  · rw [if_pos hb, if_pos hb, if_neg (by decide)]
    obtain ⟨τ2, e2, h2⟩ := having_eq w h1.2.2 h1.2.1.mo (u := u) (v := v) hu hv
    obtain ⟨τ3, e3, h3⟩ := howMany_eq w h2.2.2 h2.2.1
    rw [e2, bn_eq, e3, bn_eq]
    refine ⟨τ3, ?_, h1.mz.tr (MZ.tr h2 h3.mz)⟩
    have q1 := DS_lt hn A (al n)
    have q2 : hvq n A u v ≤ 140152 := by
      unfold hvq
      split
      · exact DS_lt hn A _
      · omega
    by_cases he : hvq n A u v = (DS n A (al n)).2
    · rw [if_pos (by rw [he]), if_pos he]
      have hpos : 1 ≤ (DS n A (al n)).1 := by
        have := DS_pos n A (al n)
        unfold hvq at he
        by_cases hc : bt (A u) v = true ∧ (DS n A (cl (cl (al n) u) v)).1 + 1 = (DS n A (al n)).1
        · omega
        · rw [if_neg hc] at he; omega
      obtain ⟨a, ha⟩ : ∃ a, (DS n A (al n)).1 = a + 1 := ⟨(DS n A (al n)).1 - 1, by omega⟩
      rw [ha, nI_pred]; rfl
    · rw [if_neg (fun q => he (nI_inj (by omega) (by omega) q)), if_neg he]
  · rw [if_neg hb, if_neg hb, if_pos rfl]
    obtain ⟨τ2, e2, h2⟩ := numberWithout_eq w h1.2.2 h1.2.1.mo (u := u) (v := v) hu hv
    rw [e2, bn_eq, nI_1]
    refine ⟨τ2, ?_, h1.mz.tr h2.mz⟩
    by_cases hlt : (DS n A (al n)).1 < (DS n A (cl (cl (al n) u) v)).1 + 1
    · rw [if_pos (nI_lt hlt (by omega)), Nat.max_eq_right (by omega)]
    · rw [if_neg (nI_nlt (by omega) (by omega)), Nat.max_eq_left (by omega)]
