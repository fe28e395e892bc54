-- ===== the formula of Tutte and Berge, both ways =====
theorem RC.tr {A : Nat → Int32} {W : Int32} {a b c : Nat} (h : RC A W a b) (h2 : RC A W b c) : RC A W a c := h2 (fun x => RC A W a x) h (fun _ _ p h3 h4 => RC.go p h3 h4)
theorem RC.sym {n : Nat} {A : Nat → Int32} {W : Int32} (w : GW n A) (hW : Bd n W) {a b : Nat} (ha : bt W a = true) (h : RC A W a b) : bt W b = true ∧ RC A W b a := by
  refine h (fun x => bt W x = true ∧ RC A W x a) ⟨ha, RC.here _ _ _⟩ (fun u x p h3 h4 => ⟨h4, ?_⟩)
  have h5 : RC A W x u := RC.go (RC.here A W x) (w.sy (b_lt hW p.1) (b_lt hW h4) h3) p.1
  exact h5.tr p.2
/-- two sets without an edge between them: a matching splits -/
theorem Mt.part {n : Nat} {A : Nat → Int32} (w : GW n A) {P : Int32} : ∀ {k : Nat} {S : Int32}, Bd n S → (∀ i j, bt S i = true → bt S j = true → bt P i = true → bt (A i) j = true → bt P j = true) → Mt A k S → ∃ a b, a + b = k ∧ Mt A a (S &&& P) ∧ Mt A b (dif S P)
  | 0, S, _, _, _ => ⟨0, 0, rfl, trivial, trivial⟩
  | k + 1, S, hS, hP, h => by
    obtain ⟨x, y, h1, h2, h3, h4, h5⟩ := h
    have hx := lt32 h1
    have hy := lt32 h2
    have bx1 := b_lt hS h1
    have by1 := b_lt hS h2
    obtain ⟨a, b, e, m1, m2⟩ := Mt.part w ((hS.cl x).cl y) (fun i j hi hj => hP i j (by rw [m_cl hy, m_cl hx] at hi; exact hi.1.1) (by rw [m_cl hy, m_cl hx] at hj; exact hj.1.1)) h5
    by_cases hp : bt P x = true
    · have hq := hP x y h1 h2 hp h4
      refine ⟨a + 1, b, by omega, ⟨x, y, m_an.mpr ⟨h1, hp⟩, m_an.mpr ⟨h2, hq⟩, h3, h4, m1.mono (fun i hi => ?_)⟩, m2.mono (fun i hi => ?_)⟩
      · rw [m_an, m_cl hy, m_cl hx] at hi
        rw [m_cl hy, m_cl hx, m_an]
        exact ⟨⟨⟨hi.1.1.1, hi.2⟩, hi.1.1.2⟩, hi.1.2⟩
      · rw [m_dif, m_cl hy, m_cl hx] at hi
        rw [m_dif]
        exact ⟨hi.1.1.1, hi.2⟩
    · have hp' : bt P x = false := by simpa using hp
      have hq : bt P y = false := by
        cases q : bt P y
        · rfl
        · exact absurd (hP y x h2 h1 q (w.sy bx1 by1 h4)) hp
      refine ⟨a, b + 1, by omega, m1.mono (fun i hi => ?_), ⟨x, y, m_dif.mpr ⟨h1, hp'⟩, m_dif.mpr ⟨h2, hq⟩, h3, h4, m2.mono (fun i hi => ?_)⟩⟩
      · rw [m_an, m_cl hy, m_cl hx] at hi
        rw [m_an]
        exact ⟨hi.1.1.1, hi.2⟩
      · rw [m_dif, m_cl hy, m_cl hx] at hi
        rw [m_cl hy, m_cl hx, m_dif]
        exact ⟨⟨⟨hi.1.1.1, hi.2⟩, hi.1.1.2⟩, hi.1.2⟩
theorem Mt.both {A : Nat → Int32} : ∀ {a b : Nat} {S T U : Int32}, Mt A a S → Mt A b T → (∀ i, bt S i = true → bt T i = true → False) → (∀ i, bt S i = true ∨ bt T i = true → bt U i = true) → Mt A (a + b) U
  | 0, b, S, T, U, _, h, _, h2 => by rw [Nat.zero_add]; exact h.mono (fun i hi => h2 i (Or.inr hi))
  | a + 1, b, S, T, U, h, h1, h2, h3 => by
    obtain ⟨x, y, q1, q2, q3, q4, q5⟩ := h
    have hx := lt32 q1
    have hy := lt32 q2
    rw [show a + 1 + b = (a + b) + 1 by omega]
    refine ⟨x, y, h3 x (Or.inl q1), h3 y (Or.inl q2), q3, q4, Mt.both q5 h1 (fun i hi => h2 i (by rw [m_cl hy, m_cl hx] at hi; exact hi.1.1)) (fun i hi => ?_)⟩
    rw [m_cl hy, m_cl hx]
    rcases hi with hi | hi
    · rw [m_cl hy, m_cl hx] at hi
      exact ⟨⟨h3 i (Or.inl hi.1.1), hi.1.2⟩, hi.2⟩
    · exact ⟨⟨h3 i (Or.inr hi), fun e => h2 i (by rw [e]; exact q1) hi⟩, fun e => h2 i (by rw [e]; exact q2) hi⟩
theorem Mt.gap {A : Nat → Int32} : ∀ {a : Nat} {C : Int32}, Bd 12 C → Mt A a C → 2 * a + 2 ≤ pcn C → ∃ u v, bt C u = true ∧ bt C v = true ∧ u ≠ v ∧ Mt A a (cl (cl C u) v)
  | 0, C, hC, _, hc => by
    obtain ⟨u, hu, hu2⟩ := pcn_ex (x := C) (by omega)
    have e := pcn_cl hu hu2
    obtain ⟨v, hv, hv2⟩ := pcn_ex (x := cl C u) (by omega)
    rw [m_cl (by omega)] at hv2
    exact ⟨u, v, hu2, hv2.1, fun e => hv2.2 e.symm, trivial⟩
  | a + 1, C, hC, h, hc => by
    obtain ⟨x, y, q1, q2, q3, q4, q5⟩ := h
    have hx := b_lt hC q1
    have hy := b_lt hC q2
    have e1 := pcn_cl hx q1
    have e2 := pcn_cl (x := cl C x) hy ((m_cl (by omega)).mpr ⟨q2, fun e => q3 e.symm⟩)
    obtain ⟨u, v, h1, h2, h3, h4⟩ := Mt.gap ((hC.cl x).cl y) q5 (by omega)
    have hu := b_lt ((hC.cl x).cl y) h1
    have hv := b_lt ((hC.cl x).cl y) h2
    rw [m_cl (by omega), m_cl (by omega)] at h1 h2
    refine ⟨u, v, h1.1.1, h2.1.1, h3, x, y, ?_, ?_, q3, q4, h4.mono (fun i hi => ?_)⟩
    · rw [m_cl (by omega), m_cl (by omega)]; exact ⟨⟨q1, fun e => h1.1.2 e.symm⟩, fun e => h2.1.2 e.symm⟩
    · rw [m_cl (by omega), m_cl (by omega)]; exact ⟨⟨q2, fun e => h1.2 e.symm⟩, fun e => h2.2 e.symm⟩
    · simp only [m_cl (show x < 32 by omega), m_cl (show y < 32 by omega), m_cl (show u < 32 by omega), m_cl (show v < 32 by omega)] at hi ⊢
      exact ⟨⟨⟨⟨hi.1.1.1.1, hi.1.2⟩, hi.2⟩, hi.1.1.1.2⟩, hi.1.1.2⟩
/-- what is left while the pieces are counted -/
theorem pcs_left {n : Nat} {A : Nat → Int32} (w : GW n A) {W : Int32} (hW : Bd n W) (o : Int32) : ∀ t, t ≤ n → (∀ i, bt (pcs n A W o t).1 i = true → bt W i = true) ∧ (∀ u x, bt (pcs n A W o t).1 u = true → bt (A u) x = true → bt W x = true → bt (pcs n A W o t).1 x = true) ∧ ∀ i, i < t → bt (pcs n A W o t).1 i = false
  | 0, _ => ⟨fun i h => h, fun u x _ _ h => h, fun i h => absurd h (by omega)⟩
  | t + 1, ht => by
    obtain ⟨h1, h2, h3⟩ := pcs_left w hW o t (by omega)
    have hC := cmp_spec w hW (show t < n by omega)
    rw [pcs_succ]
    split
    · rename_i hb
      dsimp only
      refine ⟨fun i hi => h1 i (m_dif.mp hi).1, fun u x hu hA hx => ?_, fun i hi => ?_⟩
      · rw [m_dif] at hu ⊢
        refine ⟨h2 u x hu.1 hA hx, ?_⟩
        cases q : bt (cmp n A W t) x
        · rfl
        · have hxn := b_lt hW hx
          have hun := b_lt hW (h1 u hu.1)
          have r1 := (hC.2 x hxn).mp q
          have r2 : RC A W t u := RC.go r1 (w.sy hun hxn hA) (h1 u hu.1)
          have := (hC.2 u hun).mpr r2
          rw [hu.2] at this; cases this
      · cases q : bt (dif (pcs n A W o t).1 (cmp n A W t)) i
        · rfl
        · rw [m_dif] at q
          by_cases e : i = t
          · rw [e] at q
            have := cmp_self w hW (show t < n by omega)
            rw [q.2] at this; cases this
          · rw [h3 i (by omega)] at q; cases q.1
    · rename_i hb
      refine ⟨h1, h2, fun i hi => ?_⟩
      by_cases e : i = t
      · rw [e]; simpa using hb
      · exact h3 i (by omega)
theorem pcs_in {n : Nat} {A : Nat → Int32} (w : GW n A) {W : Int32} (hW : Bd n W) (o : Int32) {t : Nat} (ht : t < n) (hb : bt (pcs n A W o t).1 t = true) {i : Nat} (hi : bt (cmp n A W t) i = true) : bt (pcs n A W o t).1 i = true := by
  obtain ⟨h1, h2, h3⟩ := pcs_left w hW o t (by omega)
  have hC := cmp_spec w hW ht
  exact RC.closed hb h2 ((hC.2 i (b_lt hC.1 hi)).mp hi)
theorem pcs_bd {n : Nat} {A : Nat → Int32} (w : GW n A) {W : Int32} (hW : Bd n W) (o : Int32) {t : Nat} (ht : t ≤ n) : Bd n (pcs n A W o t).1 := fun i h1 h2 => by
  cases q : bt (pcs n A W o t).1 i
  · rfl
  · have := (pcs_left w hW o t ht).1 i q
    rw [hW i h1 h2] at this; cases this
/-- a step of the count: the piece and the rest of what was left -/
theorem pcs_cut {n : Nat} {A : Nat → Int32} (w : GW n A) {W : Int32} (hW : Bd n W) {t : Nat} (ht : t < n) (hb : bt (pcs n A W 1 t).1 t = true) : (pcs n A W 1 t).1 &&& cmp n A W t = cmp n A W t ∧ pcn (pcs n A W 1 t).1 = pcn (cmp n A W t) + pcn (dif (pcs n A W 1 t).1 (cmp n A W t)) ∧ ∀ k, Mt A k (pcs n A W 1 t).1 → ∃ a b, a + b = k ∧ Mt A a (cmp n A W t) ∧ Mt A b (dif (pcs n A W 1 t).1 (cmp n A W t)) := by
  have hC := cmp_spec w hW ht
  have e : (pcs n A W 1 t).1 &&& cmp n A W t = cmp n A W t := s_ext (fun i => by rw [m_an]; exact ⟨fun q => q.2, fun q => ⟨pcs_in w hW 1 ht hb q, q⟩⟩)
  refine ⟨e, ?_, fun k hk => ?_⟩
  · have := pcn_split (pcs n A W 1 t).1 (cmp n A W t)
    rw [e] at this; exact this
  · obtain ⟨a, b, h1, h2, h3⟩ := Mt.part w (P := cmp n A W t) (pcs_bd w hW 1 (by omega)) (fun i j hi hj hp hA => by
      have hjW := (pcs_left w hW 1 t (by omega)).1 j hj
      exact (hC.2 j (b_lt hW hjW)).mpr (RC.go ((hC.2 i (b_lt hC.1 hp)).mp hp) hA hjW)) hk
    rw [e] at h2
    exact ⟨a, b, h1, h2, h3⟩
/-- how many odd pieces there are -/
noncomputable def ocn (n : Nat) (A : Nat → Int32) (W : Int32) : Nat := (pcs n A W 1 n).2
theorem pcs_end {n : Nat} {A : Nat → Int32} (w : GW n A) {W : Int32} (hW : Bd n W) (o : Int32) : (pcs n A W o n).1 = 0 := s_ext (fun i => by
  rw [b_0]
  constructor
  · intro q
    have h1 := b_lt hW ((pcs_left w hW o n (Nat.le_refl n)).1 i q)
    rw [(pcs_left w hW o n (Nat.le_refl n)).2.2 i h1] at q
    exact q
  · intro q; cases q)
theorem ocn_le {n : Nat} {A : Nat → Int32} (w : GW n A) {W : Int32} (hW : Bd n W) {k : Nat} (hk : Mt A k W) : ocn n A W + 2 * k ≤ pcn W := by
  have hn := w.2.1
  have key : ∀ t, t ≤ n → ∃ b, Mt A b (pcs n A W 1 t).1 ∧ (pcs n A W 1 t).2 + pcn (pcs n A W 1 t).1 + 2 * k ≤ pcn W + 2 * b := by
    intro t
    induction t with
    | zero => intro _; exact ⟨k, hk, by show 0 + pcn W + 2 * k ≤ _; omega⟩
    | succ t ih =>
      intro ht
      obtain ⟨b, h1, h2⟩ := ih (by omega)
      rw [pcs_succ]
      split
      · rename_i hb
        obtain ⟨-, c1, c2⟩ := pcs_cut w hW (show t < n by omega) hb
        obtain ⟨a, b', e, m1, m2⟩ := c2 b h1
        have := Mt.two ((cmp_spec w hW (show t < n by omega)).1.mono hn) m1
        refine ⟨b', m2, ?_⟩
        dsimp only
        rw [if_neg (by decide)]
        omega
      · exact ⟨b, h1, h2⟩
  obtain ⟨b, h1, h2⟩ := key n (Nat.le_refl n)
  rw [pcs_end w hW] at h1 h2
  have h3 := Mt.two (Bd.zero 12) h1
  rw [pcn_zero] at h2 h3
  unfold ocn
  omega
/-- if any two nodes of a piece can't be left out together -/
theorem ocn_ge {n : Nat} {A : Nat → Int32} (w : GW n A) {W : Int32} (hW : Bd n W) {k : Nat} (hk : Mt A k W) (H : ∀ t u v, bt W t = true → RC A W t u → RC A W t v → u ≠ v → ¬ Mt A k (cl (cl W u) v)) : pcn W ≤ ocn n A W + 2 * k := by
  have hn := w.2.1
  have key : ∀ t, t ≤ n → ∃ d b, d + b = k ∧ Mt A d (dif W (pcs n A W 1 t).1) ∧ Mt A b (pcs n A W 1 t).1 ∧ pcn W + 2 * b ≤ (pcs n A W 1 t).2 + pcn (pcs n A W 1 t).1 + 2 * k := by
    intro t
    induction t with
    | zero => intro _; exact ⟨0, k, by omega, trivial, hk, by show pcn W + 2 * k ≤ 0 + pcn W + 2 * k; omega⟩
    | succ t ih =>
      intro ht
      obtain ⟨d, b, h0, h1, h2, h3⟩ := ih (by omega)
      rw [pcs_succ]
      split
      · rename_i hb
        have hC := cmp_spec w hW (show t < n by omega)
        obtain ⟨c0, c1, c2⟩ := pcs_cut w hW (show t < n by omega) hb
        obtain ⟨a, b', e, m1, m2⟩ := c2 b h2
        have hL := (pcs_left w hW 1 t (by omega)).1
        have hCL : ∀ i, bt (cmp n A W t) i = true → bt (pcs n A W 1 t).1 i = true := fun i hi => pcs_in w hW 1 (by omega) hb hi
        dsimp only
        have hodd : pcn (cmp n A W t) ≤ 2 * a + 1 := by
          rcases Nat.lt_or_ge (2 * a + 1) (pcn (cmp n A W t)) with q | q
          · exfalso
            obtain ⟨u, v, g1, g2, g3, g4⟩ := Mt.gap (hC.1.mono hn) m1 (by omega)
            have bu := b_lt hC.1 g1
            have bw := b_lt hC.1 g2
            refine H t u v (hL t hb) ((hC.2 u bu).mp g1) ((hC.2 v bw).mp g2) g3 ?_
            have j1 := Mt.both (U := dif W (dif (pcs n A W 1 t).1 (cmp n A W t)) &&& (cl (cl W u) v)) g4 h1 (fun i hi hj => by
              rw [m_cl (by omega), m_cl (by omega)] at hi
              have := hCL i hi.1.1
              rw [(m_dif.mp hj).2] at this; cases this) (fun i hi => by
              rw [m_an, m_dif, m_cl (by omega), m_cl (by omega)]
              rcases hi with hi | hi
              · rw [m_cl (by omega), m_cl (by omega)] at hi
                have hiL := hCL i hi.1.1
                refine ⟨⟨hL i hiL, ?_⟩, ⟨hL i hiL, hi.1.2⟩, hi.2⟩
                cases q : bt (dif (pcs n A W 1 t).1 (cmp n A W t)) i
                · rfl
                · rw [m_dif] at q; rw [hi.1.1] at q; cases q.2
              · rw [m_dif] at hi
                refine ⟨⟨hi.1, ?_⟩, ⟨hi.1, fun e => ?_⟩, fun e => ?_⟩
                · cases q : bt (dif (pcs n A W 1 t).1 (cmp n A W t)) i
                  · rfl
                  · rw [m_dif] at q; rw [hi.2] at q; cases q.1
                · have := hCL i (by rw [e]; exact g1); rw [hi.2] at this; cases this
                · have := hCL i (by rw [e]; exact g2); rw [hi.2] at this; cases this)
            have j2 := Mt.both (U := cl (cl W u) v) j1 m2 (fun i hi hj => by
              rw [m_an, m_dif] at hi
              rw [hi.1.2] at hj; cases hj) (fun i hi => by
              rcases hi with hi | hi
              · exact (m_an.mp hi).2
              · rw [m_dif] at hi
                rw [m_cl (by omega), m_cl (by omega)]
                refine ⟨⟨hL i hi.1, fun e => ?_⟩, fun e => ?_⟩
                · rw [e, g1] at hi; cases hi.2
                · rw [e, g2] at hi; cases hi.2)
            rw [show a + d + b' = k by omega] at j2
            exact j2
          · omega
        refine ⟨a + d, b', by omega, Mt.both m1 h1 (fun i hi hj => ?_) (fun i hi => ?_), m2, ?_⟩
        · have := hCL i hi
          rw [(m_dif.mp hj).2] at this; cases this
        · rw [m_dif]
          rcases hi with hi | hi
          · refine ⟨hL i (hCL i hi), ?_⟩
            cases q : bt (dif (pcs n A W 1 t).1 (cmp n A W t)) i
            · rfl
            · rw [m_dif, hi] at q; cases q.2
          · rw [m_dif] at hi
            refine ⟨hi.1, ?_⟩
            cases q : bt (dif (pcs n A W 1 t).1 (cmp n A W t)) i
            · rfl
            · rw [m_dif, hi.2] at q; cases q.1
        · rw [if_neg (by decide)]
          omega
      · exact ⟨d, b, h0, h1, h2, h3⟩
  obtain ⟨d, b, h0, h1, h2, h3⟩ := key n (Nat.le_refl n)
  rw [pcs_end w hW] at h2 h3
  rw [pcn_zero] at h3
  unfold ocn
  omega
theorem dif_zero (S : Int32) : dif S 0 = S := s_ext (fun i => by rw [m_dif, b_0]; simp)
/-- there is a proof of the size of the maximum matchings of every set -/
theorem berge {n : Nat} {A : Nat → Int32} (w : GW n A) : ∀ (m : Nat) (S : Int32), pcn S ≤ m → Bd n S → ∃ T, (∀ i, bt T i = true → bt S i = true) ∧ ocn n A (dif S T) + 2 * (DS n A S).1 = pcn T + pcn S := by
  have hn := w.2.1
  have zero : ∀ S, Bd n S → (∀ v, bt S v = true → Mt A (DS n A S).1 (cl S v)) → ∃ T, (∀ i, bt T i = true → bt S i = true) ∧ ocn n A (dif S T) + 2 * (DS n A S).1 = pcn T + pcn S := by
    intro S hS hall
    refine ⟨0, fun i hi => absurd hi (by rw [b_0]; decide), ?_⟩
    rw [dif_zero, pcn_zero]
    have hk : Mt A (DS n A S).1 S := (Mt_DS w hS _).mpr (Nat.le_refl _)
    have hno : ¬ Mt A ((DS n A S).1 + 1) S := fun q => by have := (Mt_DS w hS _).mp q; omega
    have l1 := ocn_le w hS hk
    have l2 := ocn_ge w hS hk (fun t u v ht hu hv huv => by
      obtain ⟨u1, u2⟩ := RC.sym w hS ht hu
      have r : RC A S u v := u2.tr hv
      have bu := b_lt hS u1
      have := r (fun x => bt S x = true ∧ (x = u ∨ ¬ Mt A (DS n A S).1 (cl (cl S u) x))) ⟨u1, Or.inl rfl⟩ (fun x y hx hA hy => ⟨hy, by
        have bx1 := b_lt hS hx.1
        have by1 := b_lt hS hy
        by_cases e : y = u
        · exact Or.inl e
        · right
          intro hm
          have hxy : x ≠ y := fun e2 => by
            rw [e2, w.2.2.2.2 y (by omega)] at hA; cases hA
          by_cases e1 : x = u
          · subst e1
            exact hno ⟨x, y, hx.1, hy, hxy, hA, hm⟩
          · rcases Mt.swap w _ (Nat.le_refl _) hS u1 hx.1 hy (fun e2 => e1 e2.symm) (fun e2 => hxy e2.symm) (fun e2 => e e2.symm) hm (hall x hx.1) with g | g | g
            · rcases hx.2 with q | q
              · exact e1 q
              · exact q g
            · exact hno ⟨y, x, hy, hx.1, fun e2 => hxy e2.symm, w.sy bx1 by1 hA, g⟩
            · exact hno g⟩)
      rcases this.2 with q | q
      · exact absurd q.symm huv
      · exact q)
    omega
  intro m
  induction m with
  | zero =>
    intro S hm hS
    refine zero S hS (fun v hv => ?_)
    have := pcn_cl (show v < 12 from by have := b_lt hS hv; omega) hv
    omega
  | succ m ih =>
    intro S hm hS
    by_cases hall : ∀ v, bt S v = true → Mt A (DS n A S).1 (cl S v)
    · exact zero S hS hall
    · have : ∃ v, bt S v = true ∧ ¬ Mt A (DS n A S).1 (cl S v) := by
        apply Classical.byContradiction
        intro q
        exact hall (fun v hv => Classical.byContradiction (fun r => q ⟨v, hv, r⟩))
      obtain ⟨v, hv, hno⟩ := this
      have bv1 := b_lt hS hv
      have c1 := pcn_cl (show v < 12 by omega) hv
      have hk : Mt A (DS n A S).1 S := (Mt_DS w hS _).mpr (Nat.le_refl _)
      have hd : (DS n A (cl S v)).1 + 1 = (DS n A S).1 := by
        rcases Mt.atv w hS hv hk with q | ⟨j, x, q1, q2, q3, q4, q5⟩
        · exact absurd q hno
        · have g1 : Mt A j (cl S v) := q5.mono (fun i hi => ((m_cl (lt32 q2)).mp hi).1)
          have g2 := (Mt_DS w (hS.cl v) j).mp g1
          have g3 : ¬ (DS n A S).1 ≤ (DS n A (cl S v)).1 := fun q => hno ((Mt_DS w (hS.cl v) _).mpr q)
          omega
      obtain ⟨T, t1, t2⟩ := ih (cl S v) (by omega) (hS.cl v)
      have hvT : bt T v = false := by
        cases q : bt T v
        · rfl
        · exact absurd rfl ((m_cl (by omega)).mp (t1 v q)).2
      refine ⟨T ||| sg v, fun i hi => ?_, ?_⟩
      · rw [m_or] at hi
        rcases hi with hi | hi
        · exact ((m_cl (by omega)).mp (t1 i hi)).1
        · rw [b_sg (by omega) (lt32 hi)] at hi
          simp only [decide_eq_true_eq] at hi
          rw [hi]; exact hv
      · have e1 : dif S (T ||| sg v) = dif (cl S v) T := s_ext (fun i => by
          rcases Nat.lt_or_ge i 32 with hi | hi
          · rw [b_dif hi, b_dif hi, b_or, b_cl (by omega) hi, b_sg (by omega) hi]
            by_cases e : i = v <;> simp [e]
          · rw [b_big hi, b_big hi])
        have e2 : pcn (T ||| sg v) = pcn T + 1 := by
          rw [pcn_cl (x := T ||| sg v) (a := v) (by omega) (by rw [b_or, b_sg (by omega) (by omega)]; simp)]
          congr 1
          refine congrArg pcn (s_ext (fun i => ?_))
          rcases Nat.lt_or_ge i 32 with hi | hi
          · rw [b_cl (by omega) hi, b_or, b_sg (by omega) hi]
            by_cases e : i = v
            · subst e; simp [hvT]
            · simp [e]
          · rw [b_big hi, b_big hi]
        rw [e1, e2]
        omega
/-- leaving out a set costs at most its size -/
theorem DS_without {n : Nat} {A : Nat → Int32} (w : GW n A) : ∀ (m : Nat) (S T : Int32), pcn T ≤ m → Bd n S → (∀ i, bt T i = true → bt S i = true) → (DS n A S).1 ≤ (DS n A (dif S T)).1 + pcn T := by
  have hn := w.2.1
  intro m
  induction m with
  | zero =>
    intro S T hm hS hT
    have : T = 0 := s_ext (fun i => by
      rw [b_0]
      constructor
      · intro q
        have := pcn_cl (show i < 12 from by have := b_lt hS (hT i q); omega) q
        omega
      · intro q; cases q)
    rw [this, dif_zero]; omega
  | succ m ih =>
    intro S T hm hS hT
    by_cases h0 : pcn T = 0
    · exact ih S T (by omega) hS hT
    · obtain ⟨v, hv, hv2⟩ := pcn_ex h0
      have c1 := pcn_cl hv hv2
      have hvS := hT v hv2
      have hk : Mt A (DS n A S).1 S := (Mt_DS w hS _).mpr (Nat.le_refl _)
      have h1 : (DS n A S).1 ≤ (DS n A (cl S v)).1 + 1 := by
        rcases Mt.atv w hS hvS hk with q | ⟨j, x, q1, q2, q3, q4, q5⟩
        · have := (Mt_DS w (hS.cl v) _).mp q; omega
        · have g1 : Mt A j (cl S v) := q5.mono (fun i hi => ((m_cl (lt32 q2)).mp hi).1)
          have := (Mt_DS w (hS.cl v) j).mp g1; omega
      have h2 := ih (cl S v) (cl T v) (by omega) (hS.cl v) (fun i hi => by
        rw [m_cl (by omega)] at hi ⊢
        exact ⟨hT i hi.1, hi.2⟩)
      have e : dif (cl S v) (cl T v) = dif S T := s_ext (fun i => by
        rcases Nat.lt_or_ge i 32 with hi | hi
        · rw [b_dif hi, b_dif hi, b_cl (by omega) hi, b_cl (by omega) hi]
          by_cases e : i = v
          · subst e; simp [hv2]
          · simp [e]
        · rw [b_big hi, b_big hi])
      rw [e] at h2
      omega
theorem pcn_difs {S T : Int32} (h : ∀ i, bt T i = true → bt S i = true) : pcn S = pcn T + pcn (dif S T) := pcn_sub h
/-- no node of a proof is left exposed by a maximum matching -/
theorem proof_ex {n : Nat} {A : Nat → Int32} (w : GW n A) {T : Int32} (hT : Bd n T) (h : ocn n A (dif (al n) T) + 2 * (DS n A (al n)).1 = pcn T + n) {v : Nat} (hv : bt T v = true) : (DS n A (cl (al n) v)).1 ≠ (DS n A (al n)).1 := by
  have hn := w.2.1
  have hal : Bd n (al n) := Bd.al (by omega)
  intro q
  have bv1 := b_lt hT hv
  have c1 := pcn_cl (show v < 12 by omega) hv
  have hsub : ∀ i, bt T i = true → bt (al n) i = true := fun i hi => by
    have := b_lt hT hi
    rw [b_al n (by omega) i (by omega)]; simp [this]
  have h1 := DS_without w _ (cl (al n) v) (cl T v) (Nat.le_refl _) (hal.cl v) (fun i hi => by
    rw [m_cl (by omega)] at hi ⊢
    exact ⟨hsub i hi.1, hi.2⟩)
  have e : dif (cl (al n) v) (cl T v) = dif (al n) T := s_ext (fun i => by
    rcases Nat.lt_or_ge i 32 with hi | hi
    · rw [b_dif hi, b_dif hi, b_cl (by omega) hi, b_cl (by omega) hi]
      by_cases e : i = v
      · subst e; simp [hv]
      · simp [e]
    · rw [b_big hi, b_big hi])
  rw [e] at h1
  have h2 := ocn_le w (hal.dif T) ((Mt_DS w (hal.dif T) _).mpr (Nat.le_refl _))
  have h3 := pcn_difs hsub
  rw [pct_al n (by omega)] at h3
  omega
