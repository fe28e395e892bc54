-- ===== augmenting; maximize =====
theorem upd_same (N : Nat → Int32) (a : Nat) (v : Int32) : upd N a v a = v := by rw [upd_get, if_pos rfl]
theorem upd_ne {N : Nat → Int32} {a i : Nat} (v : Int32) (h : i ≠ a) : upd N a v i = N i := by rw [upd_get, if_neg h]
theorem MW.of {n : Nat} {A N : Nat → Int32} (hn : n ≤ 12) (h : ∀ i, i < 12 → N i = -1 ∨ ∃ j, i < n ∧ j < n ∧ N i = nI j ∧ N j = nI i ∧ bt (A i) j = true) : MW n A N := fun i hi => by
  rcases h i hi with q | ⟨j, h1, h2, h3, h4, h5⟩
  · exact Or.inl q
  · have e : mtn N i = j := by unfold mtn; rw [h3, nI_clamp (by omega)]
    right
    rw [e]
    exact ⟨h1, h2, h3, h4, h5⟩
theorem MW.join {n : Nat} {A N : Nat → Int32} (w : GW n A) (h : MW n A N) {a b : Nat} (hab : a ≠ b) (ha : a < n) (hb : b < n) (ha1 : N a = -1) (hb1 : N b = -1) (hA : bt (A a) b = true) : MW n A (upd (upd N a (nI b)) b (nI a)) := by
  have hn := w.2.1
  refine MW.of hn (fun i hi => ?_)
  by_cases e1 : i = b
  · subst e1
    right
    exact ⟨a, hb, ha, upd_same _ _ _, by rw [upd_ne _ hab, upd_same], w.sy ha hb hA⟩
  · by_cases e2 : i = a
    · subst e2
      right
      exact ⟨b, ha, hb, by rw [upd_ne _ e1, upd_same], upd_same _ _ _, hA⟩
    · rw [upd_ne _ e1, upd_ne _ e2]
      by_cases hM : N i = -1
      · exact Or.inl hM
      · obtain ⟨q1, q2, q3, q4, q5⟩ := h.mat hi hM
        obtain ⟨b1, b2⟩ := h.back w hi hM
        right
        refine ⟨mtn N i, q1, q2, q3, ?_, q5⟩
        rw [upd_ne _ (fun e => by rw [e] at b1; exact b1 hb1), upd_ne _ (fun e => by rw [e] at b1; exact b1 ha1)]
        exact q4
theorem MW.unjoin {n : Nat} {A N : Nat → Int32} (w : GW n A) (h : MW n A N) {x : Nat} (hx : x < 12) (hM : N x ≠ -1) : MW n A (upd (upd N x (-1)) (mtn N x) (-1)) := by
  have hn := w.2.1
  obtain ⟨c1, c2⟩ := h.back w hx hM
  refine MW.of hn (fun i hi => ?_)
  by_cases e1 : i = mtn N x
  · left; rw [e1, upd_same]
  · by_cases e2 : i = x
    · left; rw [upd_ne _ e1, e2, upd_same]
    · rw [upd_ne _ e1, upd_ne _ e2]
      by_cases hI : N i = -1
      · exact Or.inl hI
      · obtain ⟨q1, q2, q3, q4, q5⟩ := h.mat hi hI
        obtain ⟨b1, b2⟩ := h.back w hi hI
        right
        refine ⟨mtn N i, q1, q2, q3, ?_, q5⟩
        rw [upd_ne _ (fun e => e2 (by rw [← b2, e, c2])), upd_ne _ (fun e => e1 (by rw [← b2, e]))]
        exact q4
/-- how many nodes are exposed -/
def exc (N : Nat → Int32) : Nat → Nat := smn (fun x => if N x = -1 then 1 else 0)
theorem exc_succ (N : Nat → Int32) (t : Nat) : exc N (t + 1) = exc N t + if N t = -1 then 1 else 0 := rfl
theorem exc_upd (N : Nat → Int32) (a : Nat) (v : Int32) : ∀ t, exc (upd N a v) t + (if a < t then (if N a = -1 then 1 else 0) else 0) = exc N t + (if a < t then (if v = -1 then 1 else 0) else 0)
  | 0 => rfl
  | t + 1 => by
    have ih := exc_upd N a v t
    rw [exc_succ, exc_succ]
    by_cases e : t = a
    · subst e
      rw [if_neg (Nat.lt_irrefl t), if_neg (Nat.lt_irrefl t)] at ih
      rw [upd_same, if_pos (Nat.lt_succ_self t), if_pos (Nat.lt_succ_self t)]
      omega
    · rw [upd_ne _ e]
      by_cases ha : a < t
      · rw [if_pos ha, if_pos ha] at ih
        rw [if_pos (show a < t + 1 by omega), if_pos (show a < t + 1 by omega)]
        omega
      · rw [if_neg ha, if_neg ha] at ih
        rw [if_neg (show ¬ a < t + 1 by omega), if_neg (show ¬ a < t + 1 by omega)]
        omega
theorem exc_le (N : Nat → Int32) : ∀ t, exc N t ≤ t
  | 0 => Nat.le_refl _
  | t + 1 => by have := exc_le N t; rw [exc_succ]; split <;> omega
theorem exc_zero {N : Nat → Int32} : ∀ {t : Nat}, exc N t = 0 → ∀ i, i < t → N i ≠ -1
  | 0, _, i, hi => by omega
  | t + 1, h, i, hi => by
    rw [exc_succ] at h
    by_cases e : i = t
    · subst e
      intro q
      rw [if_pos q] at h; omega
    · exact exc_zero (t := t) (by omega) i (by omega)
/-- the first i pairs of a list joined -/
def agi (q : List Nat) (N : Nat → Int32) : Nat → Nat → Int32
  | 0 => N
  | i + 1 => upd (upd (agi q N i) (q.getD (2 * i) 0) (nI (q.getD (2 * i + 1) 0))) (q.getD (2 * i + 1) 0) (nI (q.getD (2 * i) 0))
theorem agi_succ (q : List Nat) (N : Nat → Int32) (i : Nat) : agi q N (i + 1) = upd (upd (agi q N i) (q.getD (2 * i) 0) (nI (q.getD (2 * i + 1) 0))) (q.getD (2 * i + 1) 0) (nI (q.getD (2 * i) 0)) := rfl
theorem agi_cons (a b : Nat) (l : List Nat) (N : Nat → Int32) : ∀ i, agi (a :: b :: l) N (i + 1) = agi l (upd (upd N a (nI b)) b (nI a)) i
  | 0 => rfl
  | i + 1 => by
    rw [agi_succ, agi_cons a b l N i, agi_succ]
    rfl
theorem wz_mem {n : Nat} {A M : Nat → Int32} (w : GW n A) (h : MW n A M) : ∀ {d : Nat} {U : Int32} {e : Nat} {p : List Nat}, wz n A M d U e = some p → ∀ i, i < p.length → p.getD i 0 < n
  | 0, _, _, _, hp => by cases hp
  | d + 1, U, e, p, hp => by
    have hn := w.2.1
    rw [wz_succ] at hp
    obtain ⟨k, k1, k2, k3⟩ := fsm_ex hp
    unfold wg at k2
    by_cases hk : bt (A e) k = true ∧ bt U k = false
    · rw [if_pos hk] at k2
      by_cases hM : M k = -1
      · rw [if_pos hM] at k2
        by_cases hd : d = 0
        · rw [if_pos hd] at k2
          intro i hi
          rw [← Option.some.inj k2] at hi ⊢
          have : i = 0 := by simp at hi; omega
          subst this
          exact k1
        · rw [if_neg hd] at k2; cases k2
      · rw [if_neg hM] at k2
        cases hz : wz n A M d (U ||| (sg k ||| sg (mtn M k))) (mtn M k) with
        | none => rw [hz] at k2; cases k2
        | some p2 =>
          rw [hz] at k2
          have ih := wz_mem w h hz
          intro i hi
          rw [← Option.some.inj k2] at hi ⊢
          match i, hi with
          | 0, _ => exact k1
          | 1, _ => exact (h.mat (show k < 12 by omega) hM).2.1
          | i + 2, hi => exact ih i (by simp at hi; omega)
    · rw [if_neg hk] at k2; cases k2
theorem aug_ok {n : Nat} {A M : Nat → Int32} (w : GW n A) (h : MW n A M) : ∀ (d : Nat) (U : Int32) (e : Nat) (p : List Nat) (N : Nat → Int32), UV n M U → e < n → bt U e = true → MW n A (upd N e (-1)) → (∀ x, x < n → bt U x = false → N x = M x) → wz n A M (d + 1) U e = some p → MW n A (agi (e :: p) N (d + 1)) ∧ exc (agi (e :: p) N (d + 1)) n + 2 = exc (upd N e (-1)) n := by
  have hn := w.2.1
  intro d
  induction d with
  | zero =>
    intro U e p N hU he hUe hW hN hp
    rw [wz_succ] at hp
    obtain ⟨k, k1, k2, k3⟩ := fsm_ex hp
    unfold wg at k2
    by_cases hk : bt (A e) k = true ∧ bt U k = false
    · rw [if_pos hk] at k2
      by_cases hM : M k = -1
      · rw [if_pos hM, if_pos rfl] at k2
        rw [← Option.some.inj k2]
        have hke : e ≠ k := fun q => by rw [q, hk.2] at hUe; cases hUe
        have hNk : N k = -1 := by rw [hN k k1 hk.2]; exact hM
        have e0 : agi [e, k] N (0 + 1) = upd (upd (upd N e (-1)) e (nI k)) k (nI e) := by
          show upd (upd N e (nI k)) k (nI e) = _
          funext i
          rw [upd_get, upd_get, upd_get, upd_get, upd_get]
          repeat' split
          all_goals rfl
        have hNk2 : upd N e (-1) k = -1 := by rw [upd_ne _ (fun q => hke q.symm)]; exact hNk
        rw [e0]
        refine ⟨hW.join w hke he k1 (upd_same _ _ _) hNk2 hk.1, ?_⟩
        have q1 := exc_upd (upd N e (-1)) e (nI k) n
        have q2 := exc_upd (upd (upd N e (-1)) e (nI k)) k (nI e) n
        rw [if_pos he, if_pos he, upd_same, if_pos rfl, if_neg (nI_ne_m1 (by omega))] at q1
        rw [if_pos k1, if_pos k1, upd_ne _ (fun q => hke q.symm), hNk2, if_pos rfl, if_neg (nI_ne_m1 (by omega))] at q2
        omega
      · rw [if_neg hM] at k2; cases k2
    · rw [if_neg hk] at k2; cases k2
  | succ d ih =>
    intro U e p N hU he hUe hW hN hp
    rw [wz_succ] at hp
    obtain ⟨k, k1, k2, k3⟩ := fsm_ex hp
    unfold wg at k2
    by_cases hk : bt (A e) k = true ∧ bt U k = false
    · rw [if_pos hk] at k2
      by_cases hM : M k = -1
      · rw [if_pos hM, if_neg (by omega)] at k2; cases k2
      · rw [if_neg hM] at k2
        cases hz : wz n A M (d + 1) (U ||| (sg k ||| sg (mtn M k))) (mtn M k) with
        | none => rw [hz] at k2; cases k2
        | some p2 =>
          rw [hz] at k2
          rw [← Option.some.inj k2]
          obtain ⟨ma, mb, mc, md, me⟩ := h.mat (show k < 12 by omega) hM
          obtain ⟨mb1, mb2⟩ := h.back w (show k < 12 by omega) hM
          have mb3 := h.ne w (show k < 12 by omega) hM
          have hke : k ≠ e := fun q => by rw [← q, hk.2] at hUe; cases hUe
          have hUm : bt U (mtn M k) = false := by rw [← hU.2 k k1 hM]; exact hk.2
          have hme : mtn M k ≠ e := fun q => by rw [← q, hUm] at hUe; cases hUe
          have hNk : N k = nI (mtn M k) := by rw [hN k k1 hk.2]; exact mc
          have hNm : N (mtn M k) = nI k := by rw [hN _ mb hUm]; exact md
          have n0k : upd N e (-1) k = nI (mtn M k) := by rw [upd_ne _ hke]; exact hNk
          have n0m : mtn (upd N e (-1)) k = mtn M k := by
            show (upd N e (-1) k).toNatClampNeg = _
            rw [n0k, nI_clamp (by omega)]
          have hWu := hW.unjoin w (show k < 12 by omega) (by rw [n0k]; exact nI_ne_m1 (by omega))
          rw [n0m] at hWu
          have hWj := hWu.join w (a := e) (b := k) (fun q => hke q.symm) he k1 (by
            rw [upd_ne _ (fun q => hme q.symm), upd_ne _ (fun q => hke q.symm), upd_same]) (by
            rw [upd_ne _ (fun q => mb3 q.symm), upd_same]) hk.1
          have eX : upd (upd (upd (upd (upd N e (-1)) k (-1)) (mtn M k) (-1)) e (nI k)) k (nI e) = upd (upd (upd N e (nI k)) k (nI e)) (mtn M k) (-1) := by
            funext i
            by_cases i1 : i = k
            · subst i1
              rw [upd_same, upd_ne _ (fun q => mb3 q.symm), upd_same]
            · by_cases i2 : i = e
              · subst i2
                rw [upd_ne _ i1, upd_same, upd_ne _ (fun q => hme q.symm), upd_ne _ i1, upd_same]
              · by_cases i3 : i = mtn M k
                · subst i3
                  rw [upd_ne _ i1, upd_ne _ i2, upd_same, upd_same]
                · rw [upd_ne _ i1, upd_ne _ i2, upd_ne _ i3, upd_ne _ i1, upd_ne _ i2, upd_ne _ i3, upd_ne _ i1, upd_ne _ i2]
          rw [eX] at hWj
          have hU' := hU.step w h k1 hM
          obtain ⟨r1, r2⟩ := ih (U ||| (sg k ||| sg (mtn M k))) (mtn M k) p2 (upd (upd N e (nI k)) k (nI e)) hU' mb (by rw [b_two (by omega) (by omega) (by omega)]; simp) hWj (fun x hx hxU => by
            rw [b_two (by omega) (by omega) (by omega)] at hxU
            simp only [Bool.or_eq_false_iff, decide_eq_false_iff_not] at hxU
            have hxe : x ≠ e := fun q => by rw [q, hUe] at hxU; cases hxU.1
            rw [upd_ne _ hxU.2.1, upd_ne _ hxe]
            exact hN x hx hxU.1) hz
          rw [agi_cons]
          refine ⟨r1, ?_⟩
          rw [r2]
          have q0 : upd (upd (upd N e (nI k)) k (nI e)) (mtn M k) (-1) = upd (upd (upd (upd N e (-1)) e (nI k)) k (nI e)) (mtn M k) (-1) := by
            have : upd (upd N e (-1)) e (nI k) = upd N e (nI k) := by
              funext i
              rw [upd_get, upd_get, upd_get]
              repeat' split
              all_goals rfl
            rw [this]
          rw [q0]
          have q1 := exc_upd (upd N e (-1)) e (nI k) n
          have q2 := exc_upd (upd (upd N e (-1)) e (nI k)) k (nI e) n
          have q3 := exc_upd (upd (upd (upd N e (-1)) e (nI k)) k (nI e)) (mtn M k) (-1) n
          rw [if_pos he, if_pos he, upd_same, if_pos rfl, if_neg (nI_ne_m1 (by omega))] at q1
          rw [if_pos k1, if_pos k1, upd_ne _ hke, n0k, if_neg (nI_ne_m1 (by omega)), if_neg (nI_ne_m1 (by omega))] at q2
          rw [if_pos mb, if_pos mb, upd_ne _ mb3, upd_ne _ hme, upd_ne _ hme, hNm, if_neg (nI_ne_m1 (by omega)), if_pos rfl] at q3
          omega
    · rw [if_neg hk] at k2; cases k2
/-- the matching behind an augmentation from r -/
def aug (n : Nat) (A M : Nat → Int32) (r : Nat) : Nat → Int32 := if wtq n A M r < 7 then agi (wpt n A M r) M (wtq n A M r + 1) else M
theorem aug_mw {n : Nat} {A M : Nat → Int32} (w : GW n A) (h : MW n A M) {r : Nat} (hr : r < n) (hr1 : M r = -1) : MW n A (aug n A M r) ∧ (wtq n A M r < 7 → exc (aug n A M r) n + 2 = exc M n) := by
  unfold aug
  by_cases ht : wtq n A M r < 7
  · rw [if_pos ht]
    obtain ⟨p, hp, hw⟩ := wtq_some ht
    have hn := w.2.1
    have hM : upd M r (-1) = M := by
      funext i
      rw [upd_get]
      split
      · rename_i q; rw [q]; exact hr1.symm
      · rfl
    obtain ⟨q1, q2⟩ := aug_ok w h (wtq n A M r) (sg r) r p M (ND.start w h hr hr1).1 hr (by rw [b_sg (by omega) (by omega)]; simp) (by rw [hM]; exact h) (fun _ _ _ => rfl) hp
    rw [hw]
    rw [hM] at q2
    exact ⟨q1, fun _ => q2⟩
  · rw [if_neg ht]
    exact ⟨h, fun q => absurd q ht⟩
theorem wpt_lt {n : Nat} {A M : Nat → Int32} (w : GW n A) (h : MW n A M) {r : Nat} (hr : r < n) (hr1 : M r = -1) (ht : wtq n A M r < 7) : wln n A M r = 2 * wtq n A M r + 1 ∧ wtq n A M r ≤ 5 ∧ ∀ i, i ≤ wln n A M r → (wpt n A M r).getD i 0 < n := by
  have hn := w.2.1
  obtain ⟨p, hp, hw⟩ := wtq_some ht
  obtain ⟨l1, l2, l3⟩ := wz_bound w h hr hr1 hp
  have hL : wln n A M r = 2 * wtq n A M r + 1 := by unfold wln; rw [if_pos ht]
  refine ⟨hL, by omega, fun i hi => ?_⟩
  rw [hw]
  match i, hi with
  | 0, _ => exact hr
  | i + 1, hi => exact wz_mem w h hp i (by omega)
theorem wln_0 {n : Nat} {A M : Nat → Int32} {r : Nat} : (nI (wln n A M r) ≤ 0 ↔ ¬ wtq n A M r < 7) := by
  unfold wln
  by_cases ht : wtq n A M r < 7
  · rw [if_pos ht]
    exact ⟨fun q => absurd q (nI_nle (by omega) (by omega)), fun q => absurd ht q⟩
  · rw [if_neg ht]
    exact ⟨fun _ => ht, fun _ => by decide⟩
theorem augmentFrom_eq {n : Nat} {A M : Nat → Int32} {σ : WD} (w : GW n A) (hG : GC n A σ) (h : MW n A M) (hC : CM M σ) {r : Nat} (hr : r < n) (hr1 : M r = -1) : ∃ τ, f_X6_augmentFrom (nI r) σ = some (nI (wln n A M r), τ) ∧ Fr [4, 19, 20, 21] σ τ ∧ CM (aug n A M r) τ := by
  have hn := w.2.1
  obtain ⟨τ, e1, f1, p1⟩ := findWay_eq w hG h hC hr hr1
  unfold f_X6_augmentFrom
  rw [e1, bn_eq]
  by_cases ht : wtq n A M r < 7
  · rw [if_neg (fun q => (wln_0.mp q) ht)]
    obtain ⟨hL, ht5, hlt⟩ := wpt_lt w h hr hr1 ht
    have p1 := p1 ht
    unfold f_X3_swapAlong f_X3_swapAlong_2
    obtain ⟨s', ⟨τ2, hs', hf, hc⟩, el⟩ := lp_inv (f := fun s : Int32 × WD => f_X3_swapAlong_b2 (nI (wln n A M r)) s.1 s.2) (fun i s => ∃ τ2, s = (nI (2 * i), τ2) ∧ Fr [4] τ τ2 ∧ ∀ x, x < 12 → τ2.1 4 x = agi (wpt n A M r) M i x) (a := 0) (b := wtq n A M r + 1) (Nat.zero_le _) (s := (0, τ)) ⟨τ, rfl, Fr.rf _ _, fun x hx => by rw [f1.1 4 (by decide)]; exact hC x hx⟩ (fun i s _ hi hs => by
      obtain ⟨τ2, rfl, hf, hc⟩ := hs
      have a1 : τ2.1 21 (2 * i) = nI ((wpt n A M r).getD (2 * i) 0) := by rw [hf.1 21 (by decide)]; exact p1 _ (by omega)
      have a2 : τ2.1 21 (2 * i + 1) = nI ((wpt n A M r).getD (2 * i + 1) 0) := by rw [hf.1 21 (by decide)]; exact p1 _ (by omega)
      have l1 := hlt (2 * i) (by omega)
      have l2 := hlt (2 * i + 1) (by omega)
      dsimp only
      unfold f_X3_swapAlong_b2 f_X3_join
      rw [if_neg (nI_ge (by omega) (by omega)), gi12 (by omega), nI_1, gi12 (by omega), nI_clamp (by omega), nI_clamp (by omega), a1, a2, gi12 (by omega), nI_clamp (by omega), lt_eq, gi12 (by omega), nI_clamp (by omega), lt_eq, bv_eq, nI_2]
      refine ⟨_, rfl, _, rfl, (hf.upi (by decide) _ _).upi (by decide) _ _, fun x hx => ?_⟩
      rw [agi_succ]
      simp only [upi_get, if_true, upd_get]
      split
      · rfl
      · split
        · rfl
        · exact hc x hx)
    rw [el, hs']
    have hend : lp (fun s : Int32 × WD => f_X3_swapAlong_b2 (nI (wln n A M r)) s.1 s.2) (nI (2 * (wtq n A M r + 1)), τ2) = some τ2 := by
      refine lp_end ?_
      dsimp only
      unfold f_X3_swapAlong_b2
      rw [if_pos (nI_le (by omega) (by omega))]
    rw [hend, bv_eq]
    refine ⟨τ2, rfl, (f1.mono (by decide)).tr (hf.mono (by decide)), fun x hx => ?_⟩
    unfold aug
    rw [if_pos ht]
    exact hc x hx
  · rw [if_pos (wln_0.mpr ht)]
    refine ⟨τ, rfl, f1.mono (by decide), ?_⟩
    unfold aug
    rw [if_neg ht]
    exact hC.fr f1 (by decide)
/-- the reference's search, and its matching too -/
def HM (σ τ : WD) : Prop := Fr [29, 31, 37, 38] σ τ ∧ ∀ c, c ≠ 13 → c ≠ 14 → τ.1 29 c = σ.1 29 c
theorem HF.hm {σ τ : WD} (h : HF σ τ) : HM σ τ := ⟨h.1.mono (by decide), h.2⟩
theorem HM.tr {σ τ υ : WD} (h : HM σ τ) (h2 : HM τ υ) : HM σ υ := ⟨h.1.tr h2.1, fun c a b => (h2.2 c a b).trans (h.2 c a b)⟩
theorem HM.gr {n : Nat} {A : Nat → Int32} {σ τ : WD} (h : HM σ τ) (hG : GR n A σ) : GR n A τ := ⟨by rw [h.2 1 (by decide) (by decide)]; exact hG.1, fun i hi => by rw [h.1.1 30 (by decide)]; exact hG.2 i hi⟩
theorem HM.of {σ τ : WD} (h : Fr [31] σ τ) : HM σ τ := ⟨h.mono (by decide), fun c _ _ => by rw [h.1 29 (by decide)]⟩
theorem x_augmentFrom_eq {n : Nat} {A M : Nat → Int32} {σ : WD} (w : GW n A) (hG : GR n A σ) (h : MW n A M) (hC : RM M σ) {r : Nat} (hr : r < n) (hr1 : M r = -1) : ∃ τ, f_X7_augmentFrom (nI r) σ = some (nI (wln n A M r), τ) ∧ HM σ τ ∧ RM (aug n A M r) τ := by
  have hn := w.2.1
  obtain ⟨τ, e1, f1, p1⟩ := layWay_eq w hG h hC hr hr1
  unfold f_X7_augmentFrom
  rw [e1, bn_eq]
  unfold f_X7_augmentFrom_8
  by_cases ht : wtq n A M r < 7
  · obtain ⟨hL, ht5, hlt⟩ := wpt_lt w h hr hr1 ht
    have p1 := p1 ht
    obtain ⟨s', ⟨τ2, hs', hf, hc⟩, el⟩ := lp_inv (f := fun s : Int32 × WD => f_X7_augmentFrom_b8 (nI (wln n A M r)) s.1 s.2) (fun i s => ∃ τ2, s = (nI (2 * i), τ2) ∧ Fr [31] τ τ2 ∧ ∀ x, x < 12 → τ2.1 31 x = agi (wpt n A M r) M i x) (a := 0) (b := wtq n A M r + 1) (Nat.zero_le _) (s := (0, τ)) ⟨τ, rfl, Fr.rf _ _, fun x hx => by rw [f1.1.1 31 (by decide)]; exact hC x hx⟩ (fun i s _ hi hs => by
      obtain ⟨τ2, rfl, hf, hc⟩ := hs
      have a1 : τ2.1 37 (2 * i) = nI ((wpt n A M r).getD (2 * i) 0) := by rw [hf.1 37 (by decide)]; exact p1 _ (by omega)
      have a2 : τ2.1 37 (2 * i + 1) = nI ((wpt n A M r).getD (2 * i + 1) 0) := by rw [hf.1 37 (by decide)]; exact p1 _ (by omega)
      have l1 := hlt (2 * i) (by omega)
      have l2 := hlt (2 * i + 1) (by omega)
      dsimp only
      unfold f_X7_augmentFrom_b8 f_X7_pair
      rw [if_neg (nI_ge (by omega) (by omega)), gi_in (by omega) (by decide), nI_1, gi_in (by omega) (by decide), nI_clamp (by omega), nI_clamp (by omega), a1, a2, gi12 (by omega), nI_clamp (by omega), lt_eq, gi12 (by omega), nI_clamp (by omega), lt_eq, bv_eq, nI_2]
      refine ⟨_, rfl, _, rfl, (hf.upi (by decide) _ _).upi (by decide) _ _, fun x hx => ?_⟩
      rw [agi_succ]
      simp only [upi_get, if_true, upd_get]
      split
      · rfl
      · split
        · rfl
        · exact hc x hx)
    rw [el, hs']
    refine ⟨τ2, lp_end ?_, f1.hm.tr (HM.of hf), fun x hx => ?_⟩
    · dsimp only
      unfold f_X7_augmentFrom_b8
      rw [if_pos (nI_le (by omega) (by omega))]
    · unfold aug
      rw [if_pos ht]
      exact hc x hx
  · refine ⟨τ, lp_end ?_, f1.hm, ?_⟩
    · dsimp only
      unfold f_X7_augmentFrom_b8
      rw [if_pos (wln_0.mpr ht)]
    · unfold aug
      rw [if_neg ht]
      exact hC.fr f1.1 (by decide)
/-- the lowest exposed node that has a way; n if there is none -/
def lwv (n : Nat) (A M : Nat → Int32) : Nat := ((List.range n).find? (fun v => decide (M v = -1) && decide (wtq n A M v < 7))).getD n
theorem lwv_spec (n : Nat) (A M : Nat → Int32) : lwv n A M ≤ n ∧ (∀ i, i < lwv n A M → ¬ (M i = -1 ∧ wtq n A M i < 7)) ∧ (lwv n A M < n → M (lwv n A M) = -1 ∧ wtq n A M (lwv n A M) < 7) := by
  obtain ⟨a, b, c⟩ := fr_spec (fun v => decide (M v = -1) && decide (wtq n A M v < 7)) n
  refine ⟨a, fun i hi => ?_, fun hi => ?_⟩
  · have := b i hi
    simpa using this
  · have := c hi
    simp only [Bool.and_eq_true, decide_eq_true_eq] at this
    exact this
def mxq (n : Nat) (A : Nat → Int32) : Nat → (Nat → Int32) → Nat × (Nat → Int32)
  | 0, M => (0, M)
  | f + 1, M => if lwv n A M < n then ((mxq n A f (aug n A M (lwv n A M))).1 + 1, (mxq n A f (aug n A M (lwv n A M))).2) else (0, M)
theorem mxq_succ (n : Nat) (A : Nat → Int32) (f : Nat) (M : Nat → Int32) : mxq n A (f + 1) M = if lwv n A M < n then ((mxq n A f (aug n A M (lwv n A M))).1 + 1, (mxq n A f (aug n A M (lwv n A M))).2) else (0, M) := rfl
theorem mxq_mw {n : Nat} {A : Nat → Int32} (w : GW n A) : ∀ (f : Nat) (M : Nat → Int32), MW n A M → MW n A (mxq n A f M).2
  | 0, _, h => h
  | f + 1, M, h => by
    rw [mxq_succ]
    split
    · rename_i q
      exact mxq_mw w f _ (aug_mw w h q ((lwv_spec n A M).2.2 q).1).1
    · exact h
theorem augmentLowest_eq {n : Nat} {A M : Nat → Int32} {σ : WD} (w : GW n A) (hG : GC n A σ) (h : MW n A M) (hC : CM M σ) : ∃ τ, f_X6_augmentLowest σ = some (if lwv n A M < n then 1 else 0, τ) ∧ Fr [4, 19, 20, 21] σ τ ∧ CM (if lwv n A M < n then aug n A M (lwv n A M) else M) τ := by
  have hn := w.2.1
  obtain ⟨l1, l2, l3⟩ := lwv_spec n A M
  unfold f_X6_augmentLowest f_X6_augmentLowest_2
  obtain ⟨s', ⟨τ, hs', hf, hc⟩, el⟩ := lp_inv (f := fun s : Int32 × WD => f_X6_augmentLowest_b2 s.1 s.2) (fun i s => ∃ τ, s = (nI i, τ) ∧ Fr [4, 19, 20, 21] σ τ ∧ CM M τ) (a := 0) (b := lwv n A M) (Nat.zero_le _) (s := (0, σ)) ⟨σ, rfl, Fr.rf _ _, hC⟩ (fun i s _ hi hs => by
    obtain ⟨τ, rfl, hf, hc⟩ := hs
    have hGt := hG.fr hf (by decide) (by decide)
    dsimp only
    unfold f_X6_augmentLowest_b2
    rw [hGt.1, if_neg (nI_ge (by omega) (by omega)), isExposed_eq hc (by omega), bv_eq, nI_1]
    by_cases hM : M i = -1
    · rw [if_pos hM, if_neg (by decide)]
      have ht : ¬ wtq n A M i < 7 := fun q => l2 i hi ⟨hM, q⟩
      obtain ⟨τ2, e2, f2, c2⟩ := augmentFrom_eq w hGt h hc (show i < n by omega) hM
      rw [e2, bn_eq, if_pos (wln_0.mpr ht)]
      refine ⟨_, rfl, τ2, rfl, hf.tr f2, ?_⟩
      have : aug n A M i = M := by unfold aug; rw [if_neg ht]
      rw [← this]; exact c2
    · rw [if_neg hM, if_pos rfl]
      exact ⟨_, rfl, τ, rfl, hf, hc⟩)
  rw [el, hs']
  have hGt := hG.fr hf (by decide) (by decide)
  by_cases hlt : lwv n A M < n
  · obtain ⟨hM, ht⟩ := l3 hlt
    obtain ⟨τ2, e2, f2, c2⟩ := augmentFrom_eq w hGt h hc hlt hM
    rw [if_pos hlt, if_pos hlt]
    refine ⟨τ2, lp_end ?_, hf.tr f2, c2⟩
    dsimp only
    unfold f_X6_augmentLowest_b2
    rw [hGt.1, if_neg (nI_ge hlt (by omega)), isExposed_eq hc (by omega), bv_eq, if_pos hM, if_neg (by decide), e2, bn_eq, if_neg (fun q => (wln_0.mp q) ht)]
  · rw [if_neg hlt, if_neg hlt]
    refine ⟨τ, lp_end ?_, hf, hc⟩
    dsimp only
    unfold f_X6_augmentLowest_b2
    rw [hGt.1, if_pos (nI_le (by omega) (by omega))]
theorem maximize_eq {n : Nat} {A : Nat → Int32} (w : GW n A) : ∀ (f t : Nat) (M : Nat → Int32) (σ : WD), t + f = 6 → GC n A σ → MW n A M → CM M σ → ∃ τ, f_X6_maximize_17 (nI t) σ = some (nI (t + (mxq n A f M).1), τ) ∧ Fr [4, 19, 20, 21] σ τ ∧ CM (mxq n A f M).2 τ := by
  have hn := w.2.1
  intro f
  induction f with
  | zero =>
    intro t M σ htf hG h hC
    refine ⟨σ, ?_, Fr.rf _ _, hC⟩
    unfold f_X6_maximize_17
    refine lp_end ?_
    dsimp only
    unfold f_X6_maximize_b17
    rw [show t = 6 by omega, if_pos (show (6 : Int32) ≤ nI 6 by decide)]
    rfl
  | succ f ih =>
    intro t M σ htf hG h hC
    obtain ⟨τ, e1, f1, c1⟩ := augmentLowest_eq w hG h hC
    have hb : f_X6_maximize_b17 (nI t) σ = if lwv n A M < n then some (.inl (nI (t + 1), τ)) else some (.inr (nI t, τ)) := by
      unfold f_X6_maximize_b17
      rw [if_neg (show ¬ (6 : Int32) ≤ nI t from nI_ge (show t < 6 by omega) (by decide)), e1, bn_eq, nI_1]
      by_cases hlt : lwv n A M < n
      · rw [if_pos hlt, if_pos hlt, if_neg (by decide)]
      · rw [if_neg hlt, if_neg hlt, if_pos rfl]
    rw [mxq_succ]
    unfold f_X6_maximize_17
    by_cases hlt : lwv n A M < n
    · rw [if_pos hlt] at hb c1 ⊢
      have hM := ((lwv_spec n A M).2.2 hlt).1
      obtain ⟨τ2, e2, f2, c2⟩ := ih (t + 1) (aug n A M (lwv n A M)) τ (by omega) (hG.fr f1 (by decide) (by decide)) (aug_mw w h hlt hM).1 c1
      refine ⟨τ2, ?_, f1.tr f2, c2⟩
      rw [lp_go (s' := (nI (t + 1), τ)) hb]
      have e2' : lp (fun s : Int32 × WD => f_X6_maximize_b17 s.1 s.2) (nI (t + 1), τ) = some (nI (t + 1 + (mxq n A f (aug n A M (lwv n A M))).1), τ2) := e2
      rw [e2', show t + 1 + (mxq n A f (aug n A M (lwv n A M))).1 = t + ((mxq n A f (aug n A M (lwv n A M))).1 + 1) by omega]
    · rw [if_neg hlt] at hb c1 ⊢
      exact ⟨τ, lp_end hb, f1, c1⟩
theorem x_lowestWithWay_eq {n : Nat} {A M : Nat → Int32} {σ : WD} (w : GW n A) (hG : GR n A σ) (h : MW n A M) (hC : RM M σ) : ∃ τ, f_X7_lowestWithWay σ = some (nI (lwv n A M), τ) ∧ HF σ τ := by
  have hn := w.2.1
  obtain ⟨l1, l2, l3⟩ := lwv_spec n A M
  unfold f_X7_lowestWithWay f_X7_lowestWithWay_2
  have stp : ∀ i τ, i < n → HF σ τ → ∃ τ2, HF σ τ2 ∧ f_X7_lowestWithWay_b2 (nI i) τ = if M i = -1 ∧ wtq n A M i < 7 then some (.inr (nI i, τ2)) else some (.inl (nI (i + 1), τ2)) := by
    intro i τ hi hf
    have hGt := hf.gr hG
    have hCt := hC.fr hf.1 (by decide)
    unfold f_X7_lowestWithWay_b2
    rw [hGt.1, if_neg (nI_ge hi (by omega)), gi12 (by omega), nI_clamp (by omega), hCt i (by omega), nI_1]
    by_cases hM : M i = -1
    · obtain ⟨τ2, e2, f2, -⟩ := layWay_eq w hGt h hCt hi hM
      refine ⟨τ2, hf.tr f2, ?_⟩
      rw [if_pos hM, e2, bn_eq]
      by_cases ht : wtq n A M i < 7
      · have hL := (wpt_lt w h hi hM ht).1
        have h5 := (wpt_lt w h hi hM ht).2.1
        rw [if_neg (nI_ne0 (by omega) (by omega)), if_pos ⟨hM, ht⟩]
      · have hL : wln n A M i = 0 := by unfold wln; rw [if_neg ht]
        rw [hL, if_pos (show nI 0 = 0 from rfl), if_neg (fun q => ht q.2)]
    · refine ⟨τ, hf, ?_⟩
      rw [if_neg hM, if_neg (fun q => hM q.1)]
  obtain ⟨s', ⟨τ, hs', hf⟩, el⟩ := lp_inv (f := fun s : Int32 × WD => f_X7_lowestWithWay_b2 s.1 s.2) (fun i s => ∃ τ, s = (nI i, τ) ∧ HF σ τ) (a := 0) (b := lwv n A M) (Nat.zero_le _) (s := (0, σ)) ⟨σ, rfl, HF.rf σ⟩ (fun i s _ hi hs => by
    obtain ⟨τ, rfl, hf⟩ := hs
    obtain ⟨τ2, f2, e2⟩ := stp i τ (by omega) hf
    rw [if_neg (l2 i hi)] at e2
    exact ⟨_, e2, τ2, rfl, f2⟩)
  rw [el, hs']
  by_cases hlt : lwv n A M < n
  · obtain ⟨τ2, f2, e2⟩ := stp _ τ hlt hf
    rw [if_pos (l3 hlt)] at e2
    exact ⟨τ2, lp_end e2, f2⟩
  · refine ⟨τ, lp_end ?_, hf⟩
    dsimp only
    unfold f_X7_lowestWithWay_b2
    rw [(hf.gr hG).1, if_pos (nI_le (by omega) (by omega))]
theorem x_maximize_eq {n : Nat} {A : Nat → Int32} (w : GW n A) : ∀ (f t : Nat) (M : Nat → Int32) (σ : WD), exc M n ≤ 2 * f → GR n A σ → MW n A M → RM M σ → ∃ τ, f_X7_maximize_16 (nI t) (nI (lwv n A M)) σ = some (nI (t + (mxq n A f M).1), τ) ∧ HM σ τ ∧ RM (mxq n A f M).2 τ := by
  have hn := w.2.1
  intro f
  induction f with
  | zero =>
    intro t M σ he hG h hC
    have hz := exc_zero (N := M) (t := n) (by omega)
    have hl : ¬ lwv n A M < n := fun q => hz _ q ((lwv_spec n A M).2.2 q).1
    refine ⟨σ, ?_, (HF.rf σ).hm, hC⟩
    unfold f_X7_maximize_16
    refine lp_end ?_
    dsimp only
    unfold f_X7_maximize_b16
    rw [hG.1, if_pos (nI_le (by omega) (by have := (lwv_spec n A M).1; omega))]
    rfl
  | succ f ih =>
    intro t M σ he hG h hC
    have hle := (lwv_spec n A M).1
    rw [mxq_succ]
    unfold f_X7_maximize_16
    by_cases hlt : lwv n A M < n
    · rw [if_pos hlt]
      obtain ⟨hM, ht⟩ := (lwv_spec n A M).2.2 hlt
      obtain ⟨τ, e1, f1, c1⟩ := x_augmentFrom_eq w hG h hC hlt hM
      obtain ⟨w1, w2⟩ := aug_mw w h hlt hM
      have w2 := w2 ht
      have hG1 := f1.gr hG
      obtain ⟨τ2, e2, f2⟩ := x_lowestWithWay_eq w hG1 w1 c1
      obtain ⟨τ3, e3, f3, c3⟩ := ih (t + 1) (aug n A M (lwv n A M)) τ2 (by omega) (f2.gr hG1) w1 (c1.fr f2.1 (by decide))
      refine ⟨τ3, ?_, f1.tr (f2.hm.tr f3), c3⟩
      rw [lp_go (s' := (nI (t + 1), nI (lwv n A (aug n A M (lwv n A M))), τ2)) (by
        dsimp only
        unfold f_X7_maximize_b16
        rw [hG.1, if_neg (nI_ge hlt (by omega)), e1, bn_eq, e2, bn_eq, nI_1])]
      have e3' : lp (fun s : Int32 × Int32 × WD => f_X7_maximize_b16 s.1 s.2.1 s.2.2) (nI (t + 1), nI (lwv n A (aug n A M (lwv n A M))), τ2) = some (nI (t + 1 + (mxq n A f (aug n A M (lwv n A M))).1), τ3) := e3
      rw [e3', show t + 1 + (mxq n A f (aug n A M (lwv n A M))).1 = t + ((mxq n A f (aug n A M (lwv n A M))).1 + 1) by omega]
    · rw [if_neg hlt]
      refine ⟨σ, lp_end ?_, (HF.rf σ).hm, hC⟩
      dsimp only
      unfold f_X7_maximize_b16
      rw [hG.1, if_pos (nI_le (by omega) (by omega))]
      rfl
