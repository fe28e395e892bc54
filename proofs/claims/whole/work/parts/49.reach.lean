-- ===== layWay, layReach; the class's findEnds =====
theorem layWay_eq {n : Nat} {A M : Nat → Int32} {σ : WD} (w : GW n A) (hG : GR n A σ) (h : MW n A M) (hR : RM M σ) {r : Nat} (hr : r < n) (hr1 : M r = -1) : ∃ τ, f_X7_layWay (nI r) σ = some (nI (wln n A M r), τ) ∧ HF σ τ ∧ (wtq n A M r < 7 → ∀ i, i ≤ wln n A M r → τ.1 37 i = nI ((wpt n A M r).getD i 0)) := by
  have hn := w.2.1
  unfold f_X7_layWay f_X7_layWay_2
  have stp : ∀ t τ, 2 * t + 1 < n → HF σ τ → ∃ τ2, HF σ τ2 ∧ ((wz n A M (t + 1) (sg r) r = none ∧ f_X7_layWay_b2 (nI r) (nI (2 * t + 1)) τ = some (.inl (nI (2 * (t + 1) + 1), τ2))) ∨ (∃ p, wz n A M (t + 1) (sg r) r = some p ∧ f_X7_layWay_b2 (nI r) (nI (2 * t + 1)) τ = some (.inr (nI (2 * t + 1), τ2)) ∧ τ2.1 37 0 = nI r ∧ ∀ i, i < p.length → τ2.1 37 (1 + i) = nI (p.getD i 0))) := by
    intro t τ ht hf
    have hGt := hf.gr hG
    have hRt := hR.fr hf.1 (by decide)
    rcases goThrough_eq w hGt h hRt hr hr1 (T := t) (by omega) with ⟨p, τ2, p1, p2, p3, p4, p5⟩ | ⟨p1, τ2, p2, p3, -, -⟩
    · refine ⟨τ2, hf.tr p3, Or.inr ⟨p, p1, ?_, p4, p5⟩⟩
      unfold f_X7_layWay_b2 f_X7_layWay_25
      rw [hGt.1, if_neg (nI_ge ht (by omega)), p2, bn_eq, if_neg (by decide), (p3.gr hGt).1, if_neg (nI_ge ht (by omega)), mr_eq]
    · refine ⟨τ2, hf.tr p3, Or.inl ⟨p1, ?_⟩⟩
      unfold f_X7_layWay_b2
      rw [hGt.1, if_neg (nI_ge ht (by omega)), p2, bn_eq, if_pos rfl, nI_2]; rfl
  by_cases ht7 : wtq n A M r < 7
  · obtain ⟨p, hp, hw⟩ := wtq_some ht7
    obtain ⟨l1, l2, l3⟩ := wz_bound w h hr hr1 hp
    obtain ⟨s', ⟨τ, hs', hf⟩, el⟩ := lp_inv (f := fun s : Int32 × WD => f_X7_layWay_b2 (nI r) s.1 s.2) (fun i s => ∃ τ, s = (nI (2 * i + 1), τ) ∧ HF σ τ) (a := 0) (b := wtq n A M r) (Nat.zero_le _) (s := (1, σ)) ⟨σ, rfl, HF.rf σ⟩ (fun t s _ ht hs => by
      obtain ⟨τ, rfl, hf⟩ := hs
      obtain ⟨τ2, q1, q | ⟨p2, q, -⟩⟩ := stp t τ (by omega) hf
      · exact ⟨_, q.2, τ2, rfl, q1⟩
      · rw [wtq_none ht] at q; cases q)
    rw [el, hs']
    obtain ⟨τ2, q1, q | ⟨p2, q3, q4, q2, q5⟩⟩ := stp (wtq n A M r) τ (by omega) hf
    · rw [hp] at q; cases q.1
    · rw [hp] at q3
      have q3 := Option.some.inj q3
      subst q3
      have hL : wln n A M r = 2 * wtq n A M r + 1 := by unfold wln; rw [if_pos ht7]
      refine ⟨τ2, lp_end ?_, q1, fun _ i hi => ?_⟩
      · rw [hL]; exact q4
      · rw [hw]
        match i, hi with
        | 0, _ => exact q2
        | i + 1, hi =>
          rw [show i + 1 = 1 + i by omega, q5 i (by omega), show 1 + i = i + 1 by omega]; rfl
  · have hL : wln n A M r = 0 := by unfold wln; rw [if_neg ht7]
    obtain ⟨s', ⟨τ, hs', hf⟩, el⟩ := lp_inv (f := fun s : Int32 × WD => f_X7_layWay_b2 (nI r) s.1 s.2) (fun i s => ∃ τ, s = (nI (2 * i + 1), τ) ∧ HF σ τ) (a := 0) (b := n / 2) (Nat.zero_le _) (s := (1, σ)) ⟨σ, rfl, HF.rf σ⟩ (fun t s _ ht hs => by
      obtain ⟨τ, rfl, hf⟩ := hs
      obtain ⟨τ2, q1, q | ⟨p2, q, -⟩⟩ := stp t τ (by omega) hf
      · exact ⟨_, q.2, τ2, rfl, q1⟩
      · rw [wtq_none (by omega)] at q; cases q)
    rw [el, hs']
    refine ⟨τ, lp_end ?_, hf, fun q => absurd q ht7⟩
    dsimp only
    unfold f_X7_layWay_b2 f_X7_layWay_25
    rw [(hf.gr hG).1, if_pos (nI_le (by omega) (by omega)), if_pos (nI_le (by omega) (by omega)), hL, mr_eq]
    rfl
/-- the ends of alternating paths from r, of odd and of even lengths -/
def PO (n : Nat) (A M : Nat → Int32) (r x : Nat) : Prop := M r = -1 ∧ RO n A M 7 (sg r) r 0 x
def PE (n : Nat) (A M : Nat → Int32) (r x : Nat) : Prop := M r = -1 ∧ (x = r ∨ RE n A M 7 (sg r) r 0 x)
theorem layReach_eq {n : Nat} {A M : Nat → Int32} {σ : WD} (w : GW n A) (hG : GR n A σ) (h : MW n A M) (hR : RM M σ) {r : Nat} (hr : r < n) : ∃ τ, f_X7_layReach (nI r) σ = some τ ∧ HF σ τ ∧ (∀ x, bt (τ.1 29 13) x = true ↔ PO n A M r x) ∧ ∀ x, bt (τ.1 29 14) x = true ↔ PE n A M r x := by
  have hn := w.2.1
  unfold f_X7_layReach
  rw [lt_eq, lt_eq, gi12 (by omega), nI_clamp (by omega)]
  obtain ⟨σa, hσa⟩ : ∃ s, s = upi (upi σ 29 13 0) 29 14 0 := ⟨_, rfl⟩
  rw [← hσa]
  have ha : HF σ σa := by rw [hσa]; exact ((HF.rf σ).c13 _).c14 _
  have a13 : σa.1 29 13 = 0 := by rw [hσa]; simp [upi_get, upd_get]
  have a14 : σa.1 29 14 = 0 := by rw [hσa]; simp [upi_get, upd_get]
  have hRa := hR.fr ha.1 (by decide)
  rw [hRa r (by omega)]
  by_cases hr1 : M r = -1
  · rw [if_pos hr1]
    rcases goThrough_eq w (ha.gr hG) h hRa hr hr1 (T := 6) (by omega) with ⟨p, τ2, p1, p2, p3, p4, p5⟩ | ⟨p1, τ2, p2, p3, p6, p7⟩
    · have := wz_bound w h hr hr1 p1
      omega
    · have p2' : f_X7_goThrough (nI r) 13 σa = some (0, τ2) := p2
      rw [p2', bn_eq]
      refine ⟨τ2, rfl, ha.tr p3, fun x => ?_, fun x => ?_⟩
      · rw [p6 x]; exact ⟨fun q => ⟨hr1, q⟩, fun q => q.2⟩
      · rw [p7 x]; exact ⟨fun q => ⟨hr1, q⟩, fun q => q.2⟩
  · rw [if_neg hr1]
    refine ⟨σa, rfl, ha, fun x => ?_, fun x => ?_⟩
    · rw [a13, b_0]; exact ⟨fun q => by (cases q), fun q => absurd q.1 hr1⟩
    · rw [a14, b_0]; exact ⟨fun q => by (cases q), fun q => absurd q.1 hr1⟩
/-- pairs used and end: what is reached -/
def RSp (n : Nat) (A M : Nat → Int32) (r : Nat) (P : Int32) (e : Nat) : Prop := ∀ Q : Int32 → Nat → Prop, Q 0 r → (∀ P e x, Q P e → x < n → bt (A e) x = true → M x ≠ -1 → bt P (pix M x) = false → Q (P ||| sg (pix M x)) (mtn M x)) → Q P e
theorem RSp.here (n : Nat) (A M : Nat → Int32) (r : Nat) : RSp n A M r 0 r := fun _ h _ => h
theorem RSp.go {n : Nat} {A M : Nat → Int32} {r : Nat} {P : Int32} {e x : Nat} (h : RSp n A M r P e) (h1 : x < n) (h2 : bt (A e) x = true) (h3 : M x ≠ -1) (h4 : bt P (pix M x) = false) : RSp n A M r (P ||| sg (pix M x)) (mtn M x) := fun Q q0 qs => qs P e x (h Q q0 qs) h1 h2 h3 h4
def Vd (n : Nat) (A M : Nat → Int32) (r : Nat) (P : Int32) (e x : Nat) : Prop := x < n ∧ x ≠ r ∧ bt (A e) x = true ∧ (M x ≠ -1 → bt P (pix M x) = false)
theorem ND.vd {n : Nat} {M : Nat → Int32} {r : Nat} {U P : Int32} (hN : ND n M r U P) {A : Nat → Int32} {e x : Nat} (h : Vd n A M r P e x) : bt U x = false := by
  obtain ⟨h1, h2, h3, h4⟩ := h
  cases q : bt U x
  · rfl
  · by_cases hM : M x = -1
    · exact absurd (((hN.2 x h1).1 hM).mp q) h2
    · have := ((hN.2 x h1).2 hM).mp q
      rw [h4 hM] at this; cases this
theorem PO_iff {n : Nat} {A M : Nat → Int32} (w : GW n A) (h : MW n A M) {r : Nat} (hr : r < n) (hr1 : M r = -1) (y : Nat) : (PO n A M r y ↔ ∃ P e, RSp n A M r P e ∧ Vd n A M r P e y) ∧ (PE n A M r y ↔ ∃ P, RSp n A M r P y) := by
  have hn := w.2.1
  have back : ∀ P e, RSp n A M r P e → ∃ U d, ND n M r U P ∧ pcn U + 2 * d = 15 ∧ (∀ y, RO n A M d U e 0 y → RO n A M 7 (sg r) r 0 y) ∧ (∀ y, RE n A M d U e 0 y → RE n A M 7 (sg r) r 0 y) ∧ (e = r ∨ RE n A M 7 (sg r) r 0 e) := by
    intro P e hP
    refine hP (fun P e => ∃ U d, ND n M r U P ∧ pcn U + 2 * d = 15 ∧ (∀ y, RO n A M d U e 0 y → RO n A M 7 (sg r) r 0 y) ∧ (∀ y, RE n A M d U e 0 y → RE n A M 7 (sg r) r 0 y) ∧ (e = r ∨ RE n A M 7 (sg r) r 0 e)) ⟨sg r, 7, ND.start w h hr hr1, by rw [pcn_sg r (by omega)], fun _ q => q, fun _ q => q, Or.inl rfl⟩ (fun P e x hq hx hA hM hp => ?_)
    obtain ⟨U, d, a1, a2, a3, a4, a5⟩ := hq
    have hxr : x ≠ r := fun q => by rw [q] at hM; exact hM hr1
    have hU : bt U x = false := a1.vd (A := A) (e := e) ⟨hx, hxr, hA, fun _ => hp⟩
    have mb := (h.mat (show x < 12 by omega) hM).2.1
    have mb3 := h.ne w (show x < 12 by omega) hM
    have hUm : bt U (mtn M x) = false := by rw [← a1.1.2 x hx hM]; exact hU
    have hpc := pcn_two (U := U) (show x < 12 by omega) (show mtn M x < 12 by omega) mb3 hU hUm
    have hN' := a1.step w h hx hM
    have hpl := pcn_le hn hN'.1.1
    obtain ⟨d', rfl⟩ : ∃ d', d = d' + 1 := ⟨d - 1, by omega⟩
    refine ⟨_, d', hN', by omega, fun y q => a3 y ⟨x, by omega, hx, ⟨hA, hU⟩, Or.inr ⟨hM, q⟩⟩, fun y q => a4 y ⟨x, by omega, hx, ⟨hA, hU⟩, hM, Or.inr q⟩, Or.inr (a4 _ ⟨x, by omega, hx, ⟨hA, hU⟩, hM, Or.inl rfl⟩)⟩
  constructor
  · constructor
    · rintro ⟨-, hy⟩
      have key : ∀ d U e k P, ND n M r U P → RSp n A M r P e → RO n A M d U e k y → ∃ P e, RSp n A M r P e ∧ Vd n A M r P e y := by
        intro d
        induction d with
        | zero => intro U e k P _ _ hq; exact hq.elim
        | succ d ih =>
          intro U e k P hN hS hq
          obtain ⟨x, x1, x2, x3, x4⟩ := hq
          have hxr : x ≠ r := fun q => by
            have := ((hN.2 r hr).1 hr1).mpr rfl
            rw [← q, x3.2] at this; cases this
          have hp : M x ≠ -1 → bt P (pix M x) = false := fun hM => by
            cases q : bt P (pix M x)
            · rfl
            · have := ((hN.2 x x2).2 hM).mpr q
              rw [x3.2] at this; cases this
          rcases x4 with x4 | ⟨hM, x4⟩
          · subst x4
            exact ⟨P, e, hS, x2, hxr, x3.1, hp⟩
          · exact ih _ _ _ _ (hN.step w h x2 hM) (hS.go x2 x3.1 hM (hp hM)) x4
      exact key 7 (sg r) r 0 0 (ND.start w h hr hr1) (RSp.here n A M r) hy
    · rintro ⟨P, e, hS, hV⟩
      obtain ⟨U, d, a1, a2, a3, a4, a5⟩ := back P e hS
      have hpl := pcn_le hn a1.1.1
      obtain ⟨d', rfl⟩ : ∃ d', d = d' + 1 := ⟨d - 1, by omega⟩
      exact ⟨hr1, a3 y ⟨y, by omega, hV.1, ⟨hV.2.2.1, a1.vd hV⟩, Or.inl rfl⟩⟩
  · constructor
    · rintro ⟨-, hy⟩
      rcases hy with hy | hy
      · subst hy; exact ⟨0, RSp.here n A M y⟩
      · have key : ∀ d U e k P, ND n M r U P → RSp n A M r P e → RE n A M d U e k y → ∃ P, RSp n A M r P y := by
          intro d
          induction d with
          | zero => intro U e k P _ _ hq; exact hq.elim
          | succ d ih =>
            intro U e k P hN hS hq
            obtain ⟨x, x1, x2, x3, hM, x4⟩ := hq
            have hp : bt P (pix M x) = false := by
              cases q : bt P (pix M x)
              · rfl
              · have := ((hN.2 x x2).2 hM).mpr q
                rw [x3.2] at this; cases this
            have hS' := hS.go x2 x3.1 hM hp
            rcases x4 with x4 | x4
            · rw [x4]; exact ⟨_, hS'⟩
            · exact ih _ _ _ _ (hN.step w h x2 hM) hS' x4
        exact key 7 (sg r) r 0 0 (ND.start w h hr hr1) (RSp.here n A M r) hy
    · rintro ⟨P, hS⟩
      obtain ⟨U, d, a1, a2, a3, a4, a5⟩ := back P y hS
      exact ⟨hr1, a5⟩
-- the class's table
def FS (n : Nat) (A M : Nat → Int32) (r : Nat) (σ : WD) : Prop := (∀ P e, Bd 6 P → bt (σ.1 20 (ix P)) e = true → RSp n A M r P e ∧ e < n) ∧ (∀ x, bt (σ.1 18 6) x = true → ∃ P e, RSp n A M r P e ∧ Vd n A M r P e x) ∧ (∀ x, bt (σ.1 18 5) x = true → ∃ P, RSp n A M r P x)
def FGr (u : Nat) (σ τ : WD) : Prop := Fr [18, 20] σ τ ∧ (∀ x, bt (σ.1 18 6) x = true → bt (τ.1 18 6) x = true) ∧ (∀ P e, bt (σ.1 20 (ix P)) e = true → bt (τ.1 20 (ix P)) e = true) ∧ (∀ P, Bd 6 P → ix P ≤ u → τ.1 20 (ix P) = σ.1 20 (ix P)) ∧ τ.1 18 5 = σ.1 18 5
theorem FGr.rf (u : Nat) (σ : WD) : FGr u σ σ := ⟨Fr.rf _ _, fun _ q => q, fun _ _ q => q, fun _ _ _ => rfl, rfl⟩
theorem FGr.tr {u : Nat} {σ τ υ : WD} (h : FGr u σ τ) (h2 : FGr u τ υ) : FGr u σ υ := ⟨h.1.tr h2.1, fun x q => h2.2.1 x (h.2.1 x q), fun P e q => h2.2.2.1 P e (h.2.2.1 P e q), fun P a b => (h2.2.2.2.1 P a b).trans (h.2.2.2.1 P a b), h2.2.2.2.2.trans h.2.2.2.2⟩
def Dn (M : Nat → Int32) (P : Int32) (x : Nat) (σ : WD) : Prop := bt (σ.1 18 6) x = true ∧ (M x ≠ -1 → bt (σ.1 20 (ix (P ||| sg (pix M x)))) (mtn M x) = true)
theorem Dn.gr {u : Nat} {M : Nat → Int32} {P : Int32} {x : Nat} {σ τ : WD} (h : Dn M P x σ) (hg : FGr u σ τ) : Dn M P x τ := ⟨hg.2.1 x h.1, fun q => hg.2.2.1 _ _ (h.2 q)⟩
theorem ix_up {P : Int32} {i : Nat} (hP : Bd 12 P) (hi : i < 12) (hb : bt P i = false) : ix P < ix (P ||| sg i) := by
  have e : cl (P ||| sg i) i = P := s_ext (fun j => by
    rw [m_cl (by omega), m_sg (by omega)]
    constructor
    · rintro ⟨q | q, q2⟩
      · exact q
      · exact absurd q q2
    · intro q
      refine ⟨Or.inl q, fun e => ?_⟩
      rw [e, hb] at q; cases q)
  have := ix_cl_lt (x := P ||| sg i) (v := i) (hP.or (Bd.sg hi (by omega))) (by omega) (by rw [m_sg (by omega)]; exact Or.inr rfl)
  rw [e] at this
  exact this
theorem followFrom_eq {n : Nat} {A M : Nat → Int32} {σ : WD} (w : GW n A) (hG : GC n A σ) (h : MW n A M) (hC : CM M σ) (hB : PBs n M σ) {r : Nat} (hr : r < n) (hr1 : M r = -1) {P : Int32} (hP : Bd 6 P) {e : Nat} (he : e < n) (hS : FS n A M r σ) (hPe : RSp n A M r P e) : ∃ τ, f_X5_followFrom (nI e) P (nI r) σ = some τ ∧ FS n A M r τ ∧ FGr (ix P) σ τ ∧ ∀ x, Vd n A M r P e x → Dn M P x τ := by
  have hn := w.2.1
  unfold f_X5_followFrom f_X5_followFrom_3
  obtain ⟨s', ⟨τ, hs', t1, t2, t3⟩, el⟩ := lp_inv (f := fun s : Int32 × WD => f_X5_followFrom_b3 (nI e) P (nI r) s.1 s.2) (fun i s => ∃ τ, s = (nI i, τ) ∧ FS n A M r τ ∧ FGr (ix P) σ τ ∧ ∀ x, x < i → Vd n A M r P e x → Dn M P x τ) (a := 0) (b := n) (Nat.zero_le _) (s := (0, σ)) ⟨σ, rfl, hS, FGr.rf _ σ, fun x hx => by omega⟩ (fun x s _ hx hs => by
    obtain ⟨τ, rfl, t1, t2, t3⟩ := hs
    have hGt := hG.fr t2.1 (by decide) (by decide)
    have hCt := hC.fr t2.1 (by decide)
    have hBt : τ.1 19 x = pbq M x := by rw [t2.1.1 19 (by decide)]; exact hB x hx
    dsimp only
    unfold f_X5_followFrom_b3
    rw [hGt.1, if_neg (nI_ge hx (by omega)), gi12 (by omega), nI_clamp (by omega), hBt, li_eq, nI_1]
    have skip : ¬ Vd n A M r P e x → ∀ y, y < x + 1 → Vd n A M r P e y → Dn M P y τ := fun hno y hy hv => by
      by_cases q : y = x
      · rw [q] at hv; exact absurd hv hno
      · exact t3 y (by omega) hv
    by_cases hxr : x = r
    · rw [if_pos (by rw [hxr])]
      exact ⟨_, rfl, τ, rfl, t1, t2, skip (fun q => q.2.1 hxr)⟩
    · rw [if_neg (fun q => hxr (nI_inj (by omega) (by omega) q)), joined_eq hGt (by omega) (by omega), bv_eq]
      by_cases hA : bt (A e) x = true
      · rw [if_pos hA, if_neg (by decide)]
        by_cases hM : M x = -1
        · have hp0 : pbq M x = 0 := by unfold pbq; rw [if_pos hM]
          have hV : Vd n A M r P e x := ⟨hx, hxr, hA, fun q => absurd hM q⟩
          rw [hp0, if_pos (by simp), lt_eq, if_pos rfl, sg_eq]
          have c6 : (upi τ 18 6 (τ.1 18 6 ||| sg x)).1 18 6 = τ.1 18 6 ||| sg x := by rw [upi_get, if_pos rfl, upd_get, if_pos rfl]
          have c5 : (upi τ 18 6 (τ.1 18 6 ||| sg x)).1 18 5 = τ.1 18 5 := by rw [upi_get, if_pos rfl, upd_get, if_neg (by decide)]
          have c20 : (upi τ 18 6 (τ.1 18 6 ||| sg x)).1 20 = τ.1 20 := by rw [upi_get, if_neg (by decide)]
          have gr : FGr (ix P) τ (upi τ 18 6 (τ.1 18 6 ||| sg x)) := ⟨(Fr.rf _ _).upi (by decide) _ _, fun y q => by rw [c6, m_or]; exact Or.inl q, fun P' e' q => by rw [c20]; exact q, fun P' _ _ => by rw [c20], c5⟩
          refine ⟨_, rfl, _, rfl, ⟨fun P' e' a b => t1.1 P' e' a (by rw [c20] at b; exact b), fun y q => ?_, fun y q => t1.2.2 y (by rw [c5] at q; exact q)⟩, t2.tr gr, fun y hy hv => ?_⟩
          · rw [c6, m_sg (by omega)] at q
            rcases q with q | q
            · exact t1.2.1 y q
            · rw [q]; exact ⟨P, e, hPe, hV⟩
          · by_cases q : y = x
            · subst q
              exact ⟨by rw [c6, m_sg (by omega)]; exact Or.inr rfl, fun g => absurd hM g⟩
            · exact (t3 y (by omega) hv).gr gr
        · have hp6 := pix_lt w h (show x < 12 by omega) hM
          obtain ⟨ma, mb, mc, md, me⟩ := h.mat (show x < 12 by omega) hM
          rw [pbq_pix hM]
          by_cases hPx : bt P (pix M x) = true
          · rw [if_neg (fun q => by rw [sg_and (by omega), hPx] at q; cases q)]
            exact ⟨_, rfl, τ, rfl, t1, t2, skip (fun q => by have := q.2.2.2 hM; rw [hPx] at this; cases this)⟩
          · have hPx' : bt P (pix M x) = false := by simpa using hPx
            have hV : Vd n A M r P e x := ⟨hx, hxr, hA, fun _ => hPx'⟩
            have hP' : Bd 6 (P ||| sg (pix M x)) := hP.or (Bd.sg hp6 (by omega))
            rw [if_pos ((sg_and (by omega)).mpr hPx'), lt_eq, if_neg (sg_ne0 (by omega)), gi64 hP', gi12 (by omega), gi64 hP', sg_eq]
            obtain ⟨τa, hτa⟩ : ∃ s, s = upi τ 18 6 (τ.1 18 6 ||| sg x) := ⟨_, rfl⟩
            rw [← hτa]
            have m4 : τa.1 4 x = nI (mtn M x) := by rw [hτa, upi_get, if_neg (by decide), hCt x (by omega)]; exact mc
            rw [m4, sg_eq, lt_eq]
            obtain ⟨τb, hτb⟩ : ∃ s, s = upi τa 20 (ix (P ||| sg (pix M x))) (τa.1 20 (ix (P ||| sg (pix M x))) ||| sg (mtn M x)) := ⟨_, rfl⟩
            have hτb' : upi τa 20 ((P ||| sg (pix M x)) : Int32).toNatClampNeg (τa.1 20 ((P ||| sg (pix M x)) : Int32).toNatClampNeg ||| sg (mtn M x)) = τb := hτb.symm
            rw [hτb']
            have a20 : τa.1 20 = τ.1 20 := by rw [hτa, upi_get, if_neg (by decide)]
            have c6 : τb.1 18 6 = τ.1 18 6 ||| sg x := by rw [hτb, upi_get, if_neg (by decide), hτa, upi_get, if_pos rfl, upd_get, if_pos rfl]
            have c5 : τb.1 18 5 = τ.1 18 5 := by rw [hτb, upi_get, if_neg (by decide), hτa, upi_get, if_pos rfl, upd_get, if_neg (by decide)]
            have c20 : ∀ k, τb.1 20 k = if k = ix (P ||| sg (pix M x)) then τ.1 20 k ||| sg (mtn M x) else τ.1 20 k := fun k => by
              rw [hτb, upi_get, if_pos rfl, upd_get, a20]
              split
              · rename_i q; rw [q]
              · rfl
            have gr : FGr (ix P) τ τb := by
              refine ⟨by rw [hτb, hτa]; exact ((Fr.rf _ _).upi (by decide) _ _).upi (by decide) _ _, fun y q => by rw [c6, m_or]; exact Or.inl q, fun P' e' q => ?_, fun P' a b => ?_, c5⟩
              · rw [c20]
                split
                · rw [m_or]; exact Or.inl q
                · exact q
              · rw [c20, if_neg]
                have := ix_up (hP.mono (by decide)) (show pix M x < 12 by omega) hPx'
                omega
            refine ⟨_, rfl, _, rfl, ⟨fun P' e' a b => ?_, fun y q => ?_, fun y q => t1.2.2 y (by rw [c5] at q; exact q)⟩, t2.tr gr, fun y hy hv => ?_⟩
            · rw [c20] at b
              split at b
              · rename_i q
                have q2 := ix_inj (a.mono (by decide)) (hP'.mono (by decide)) q
                rw [m_sg (by omega)] at b
                rcases b with b | b
                · exact t1.1 P' e' a b
                · rw [q2, b]; exact ⟨hPe.go hx hA hM hPx', mb⟩
              · exact t1.1 P' e' a b
            · rw [c6, m_sg (by omega)] at q
              rcases q with q | q
              · exact t1.2.1 y q
              · rw [q]; exact ⟨P, e, hPe, hV⟩
            · by_cases q : y = x
              · subst q
                refine ⟨by rw [c6, m_sg (by omega)]; exact Or.inr rfl, fun _ => ?_⟩
                rw [c20, if_pos rfl, m_sg (by omega)]; exact Or.inr rfl
              · exact (t3 y (by omega) hv).gr gr
      · rw [if_neg hA, if_pos rfl]
        exact ⟨_, rfl, τ, rfl, t1, t2, skip (fun q => hA q.2.2.1)⟩)
  rw [el, hs']
  refine ⟨τ, lp_end ?_, t1, t2, fun x hv => t3 x hv.1 hv⟩
  dsimp only
  unfold f_X5_followFrom_b3
  rw [(hG.fr t2.1 (by decide) (by decide)).1, if_pos (nI_le (Nat.le_refl n) (by omega))]
theorem findEnds_eq {n : Nat} {A M : Nat → Int32} {σ : WD} (w : GW n A) (hG : GC n A σ) (h : MW n A M) (hC : CM M σ) {r : Nat} (hr : r < n) (hr1 : M r = -1) : ∃ τ, f_X5_findEnds (nI r) σ = some τ ∧ Fr [18, 19, 20] σ τ ∧ (∀ x, bt (τ.1 18 6) x = true ↔ PO n A M r x) ∧ ∀ x, bt (τ.1 18 5) x = true ↔ PE n A M r x := by
  have hn := w.2.1
  unfold f_X5_findEnds
  obtain ⟨σ1, e1, f1, b1⟩ := numberPairs_eq w hG h hC
  have g0 : ∀ {γ : Type} (k : Option γ), gi 0 64 k = k := fun k => gi_in (i := 0) (by decide) (by decide) k
  rw [e1, bv_eq, lt_eq, g0, lt_eq, lt_eq, lt_eq, sg_eq]
  obtain ⟨σ2, hσ2⟩ : ∃ s, s = upi (upi (upi (ups σ1 20 (fillf (σ1.1 20) 64 0)) 20 0 (sg r)) 18 5 0) 18 6 0 := ⟨_, rfl⟩
  have hσ2' : upi (upi (upi (ups σ1 20 (fillf (σ1.1 20) 64 0)) 20 (0 : Int32).toNatClampNeg (sg r)) 18 5 0) 18 6 0 = σ2 := hσ2.symm
  rw [hσ2']
  have f2 : Fr [18, 19, 20] σ σ2 := by rw [hσ2]; exact ((((f1.mono (by decide)).ups (by decide) _).upi (by decide) _ _).upi (by decide) _ _).upi (by decide) _ _
  have c6 : σ2.1 18 6 = 0 := by rw [hσ2]; simp [upi_get, upd_get]
  have c5 : σ2.1 18 5 = 0 := by rw [hσ2]; simp [upi_get, upd_get]
  have c20 : ∀ k, k < 64 → σ2.1 20 k = if k = 0 then sg r else 0 := fun k hk => by
    rw [hσ2]
    simp [upi_get, ups_get, upd_get, fillf, hk]
  have b2 : PBs n M σ2 := fun x hx => by rw [hσ2]; simp only [upi_get, ups_get, if_neg (show ¬ (19 : Nat) = 18 by decide), if_neg (show ¬ (19 : Nat) = 20 by decide)]; exact b1 x hx
  have hG2 := hG.fr f2 (by decide) (by decide)
  have hC2 := hC.fr f2 (by decide)
  have S2 : FS n A M r σ2 := by
    refine ⟨fun P e a b => ?_, fun x q => absurd q (by rw [c6, b_0]; decide), fun x q => absurd q (by rw [c5, b_0]; decide)⟩
    have hk := ix_lt_pow (n := 6) (by decide) a
    rw [c20 _ hk] at b
    split at b
    · rename_i q
      have hP0 : P = 0 := ix_inj (a.mono (by decide)) (Bd.zero 12) (by rw [q]; rfl)
      rw [b_sg (by omega) (lt32 b)] at b
      simp only [decide_eq_true_eq] at b
      rw [b, hP0]; exact ⟨RSp.here n A M r, hr⟩
    · rw [b_0] at b; cases b
  have z2 : bt (σ2.1 20 (ix 0)) r = true := by
    have : ix (0 : Int32) = 0 := rfl
    rw [this, c20 0 (by decide), if_pos rfl, b_sg (by omega) (by omega)]; simp
  unfold f_X5_findEnds_33
  obtain ⟨s', ⟨τ, hs', t1, t2, t3, t4⟩, el⟩ := lp_inv (f := fun s : Int32 × WD => f_X5_findEnds_b33 (nI r) s.1 s.2) (fun u s => ∃ τ, s = (nI u, τ) ∧ FS n A M r τ ∧ Fr [18, 20] σ2 τ ∧ bt (τ.1 20 (ix 0)) r = true ∧ ∀ P, Bd 6 P → ix P < u → ∀ e, bt (τ.1 20 (ix P)) e = true → bt (τ.1 18 5) e = true ∧ ∀ x, Vd n A M r P e x → Dn M P x τ) (a := 0) (b := 64) (Nat.zero_le _) (s := (0, σ2)) ⟨σ2, rfl, S2, Fr.rf _ _, z2, fun P _ q => by omega⟩ (fun u s _ hu hs => by
    obtain ⟨τ, rfl, t1, t2, t3, t4⟩ := hs
    have hPu : Bd 6 (nI u) := bd_pow (n := 6) hu
    have hix : ix (nI u) = u := nI_clamp (by omega)
    dsimp only
    unfold f_X5_findEnds_b33
    rw [if_neg (show ¬ (64 : Int32) ≤ nI u from nI_ge hu (by decide)), gi64 hPu, lt_eq, nI_clamp (by omega)]
    obtain ⟨τa, hτa⟩ : ∃ s, s = upi τ 18 5 (τ.1 18 5 ||| τ.1 20 u) := ⟨_, rfl⟩
    rw [← hτa]
    have a20 : τa.1 20 = τ.1 20 := by rw [hτa, upi_get, if_neg (by decide)]
    have a5 : τa.1 18 5 = τ.1 18 5 ||| τ.1 20 u := by rw [hτa, upi_get, if_pos rfl, upd_get, if_pos rfl]
    have a6 : τa.1 18 6 = τ.1 18 6 := by rw [hτa, upi_get, if_pos rfl, upd_get, if_neg (by decide)]
    have fa : Fr [18, 20] σ2 τa := by rw [hτa]; exact t2.upi (by decide) _ _
    have Sa : FS n A M r τa := ⟨fun P e a b => t1.1 P e a (by rw [a20] at b; exact b), fun x q => t1.2.1 x (by rw [a6] at q; exact q), fun x q => by
      rw [a5, m_or] at q
      rcases q with q | q
      · exact t1.2.2 x q
      · exact ⟨nI u, (t1.1 (nI u) x hPu (by rw [hix]; exact q)).1⟩⟩
    unfold f_X5_findEnds_59
    obtain ⟨s2, ⟨τ2, hs2, v1, v2, v3⟩, el2⟩ := lp_inv (f := fun s : Int32 × WD => f_X5_findEnds_b59 (nI r) (nI u) s.1 s.2) (fun i s => ∃ τ2, s = (nI i, τ2) ∧ FS n A M r τ2 ∧ FGr u τa τ2 ∧ ∀ e, e < i → bt (τa.1 20 u) e = true → ∀ x, Vd n A M r (nI u) e x → Dn M (nI u) x τ2) (a := 0) (b := n) (Nat.zero_le _) (s := (0, τa)) ⟨τa, rfl, Sa, FGr.rf _ _, fun e he => by omega⟩ (fun e s _ he hs => by
      obtain ⟨τ2, rfl, v1, v2, v3⟩ := hs
      have f3 : Fr [18, 20] σ2 τ2 := fa.tr v2.1
      have hG3 := hG2.fr f3 (by decide) (by decide)
      have same : τ2.1 20 u = τa.1 20 u := by
        have := v2.2.2.2.1 (nI u) hPu (by rw [hix]; exact Nat.le_refl _)
        rw [hix] at this; exact this
      dsimp only
      unfold f_X5_findEnds_b59
      rw [hG3.1, if_neg (nI_ge he (by omega)), gi64 hPu, nI_clamp (by omega), nI_1, same]
      by_cases hb : bt (τa.1 20 u) e = true
      · rw [if_neg (fun q => by rw [tb_zero (by omega), hb] at q; cases q)]
        have hre := (v1.1 (nI u) e hPu (by rw [hix, same]; exact hb)).1
        obtain ⟨τ3, g1, g2, g3, g4⟩ := followFrom_eq w hG3 h (hC2.fr f3 (by decide)) (fun x hx => by rw [f3.1 19 (by decide)]; exact b2 x hx) hr hr1 hPu he v1 hre
        rw [g1, bv_eq]
        rw [hix] at g3
        refine ⟨_, rfl, τ3, rfl, g2, v2.tr g3, fun e' he' hb' x hv => ?_⟩
        by_cases q : e' = e
        · rw [q] at hv; exact g4 x hv
        · exact (v3 e' (by omega) hb' x hv).gr g3
      · rw [if_pos ((tb_zero (by omega)).mpr (by simpa using hb))]
        refine ⟨_, rfl, τ2, rfl, v1, v2, fun e' he' hb' x hv => ?_⟩
        by_cases q : e' = e
        · rw [q] at hb'; exact absurd hb' hb
        · exact v3 e' (by omega) hb' x hv)
    rw [el2, hs2]
    have f3 : Fr [18, 20] σ2 τ2 := fa.tr v2.1
    refine ⟨(nI (u + 1), τ2), lp_end ?_, τ2, rfl, v1, f3, ?_, fun P hP hu2 e hb => ?_⟩
    · dsimp only
      unfold f_X5_findEnds_b59
      rw [(hG2.fr f3 (by decide) (by decide)).1, if_pos (nI_le (Nat.le_refl n) (by omega)), nI_1]
    · exact v2.2.2.1 0 r (by rw [a20]; exact t3)
    · have sm := v2.2.2.2.1 P hP (by omega)
      rw [sm, a20] at hb
      have h5 : ∀ e, bt (τ.1 18 5) e = true → bt (τ2.1 18 5) e = true := fun e q => by rw [v2.2.2.2.2, a5, m_or]; exact Or.inl q
      by_cases q : ix P = u
      · have hPq : P = nI u := ix_inj (hP.mono (by decide)) (hPu.mono (by decide)) (by rw [q, hix])
        have hen := (t1.1 P e hP hb).2
        rw [q] at hb
        refine ⟨by rw [v2.2.2.2.2, a5, m_or]; exact Or.inr hb, fun x hv => ?_⟩
        rw [hPq] at hv ⊢
        exact v3 e hen (by rw [a20]; exact hb) x hv
      · obtain ⟨q1, q2⟩ := t4 P hP (by omega) e hb
        refine ⟨h5 e q1, fun x hv => ?_⟩
        have := q2 x hv
        have : Dn M P x τa := ⟨by rw [a6]; exact this.1, fun g => by rw [a20]; exact this.2 g⟩
        exact this.gr v2)
  rw [el, hs']
  have hall : ∀ P e, RSp n A M r P e → Bd 6 P ∧ bt (τ.1 20 (ix P)) e = true := fun P e hS => hS (fun P e => Bd 6 P ∧ bt (τ.1 20 (ix P)) e = true) ⟨Bd.zero 6, t3⟩ (fun P e x hq hx hA hM hp => by
    have hp6 := pix_lt w h (show x < 12 by omega) hM
    have hxr : x ≠ r := fun q => by rw [q] at hM; exact hM hr1
    exact ⟨hq.1.or (Bd.sg hp6 (by omega)), ((t4 P hq.1 (ix_lt_pow (n := 6) (by decide) hq.1) e hq.2).2 x ⟨hx, hxr, hA, fun _ => hp⟩).2 hM⟩)
  refine ⟨τ, lp_end ?_, f2.tr (t2.mono (by decide)), fun x => ?_, fun x => ?_⟩
  · dsimp only
    unfold f_X5_findEnds_b33
    rw [if_pos (show (64 : Int32) ≤ nI 64 by decide)]
  · rw [(PO_iff w h hr hr1 x).1]
    constructor
    · exact t1.2.1 x
    · rintro ⟨P, e, hS, hV⟩
      obtain ⟨q1, q2⟩ := hall P e hS
      exact ((t4 P q1 (ix_lt_pow (n := 6) (by decide) q1) e q2).2 x hV).1
  · rw [(PO_iff w h hr hr1 x).2]
    constructor
    · exact t1.2.2 x
    · rintro ⟨P, hS⟩
      obtain ⟨q1, q2⟩ := hall P x hS
      exact (t4 P q1 (ix_lt_pow (n := 6) (by decide) q1) x q2).1
/-- the two reaches as sets -/
noncomputable def rch (n : Nat) (A M : Nat → Int32) (r : Nat) (even : Bool) : Int32 := Classical.epsilon (fun S => ∀ x, bt S x = true ↔ if even then PE n A M r x else PO n A M r x)
theorem rch_of {n : Nat} {A M : Nat → Int32} {r : Nat} {S : Int32} (even : Bool) (h : ∀ x, bt S x = true ↔ if even then PE n A M r x else PO n A M r x) : S = rch n A M r even := by
  have := Classical.epsilon_spec (p := fun S => ∀ x, bt S x = true ↔ if even then PE n A M r x else PO n A M r x) ⟨S, h⟩
  exact s_ext (fun x => (h x).trans (this x).symm)
