-- ===== findWay =====
/-- through how many pairs the way goes; 7 if there is none -/
def wtq (n : Nat) (A M : Nat → Int32) (r : Nat) : Nat := ((List.range 7).find? (fun t => (wz n A M (t + 1) (sg r) r).isSome)).getD 7
def wln (n : Nat) (A M : Nat → Int32) (r : Nat) : Nat := if wtq n A M r < 7 then 2 * wtq n A M r + 1 else 0
/-- the way, its first node included -/
def wpt (n : Nat) (A M : Nat → Int32) (r : Nat) : List Nat := r :: (wz n A M (wtq n A M r + 1) (sg r) r).getD []
theorem wtq_none {n : Nat} {A M : Nat → Int32} {r t : Nat} (h : t < wtq n A M r) : wz n A M (t + 1) (sg r) r = none := by
  have := (fr_spec (fun t => (wz n A M (t + 1) (sg r) r).isSome) 7).2.1 t h
  simpa using this
theorem wtq_some {n : Nat} {A M : Nat → Int32} {r : Nat} (h : wtq n A M r < 7) : ∃ p, wz n A M (wtq n A M r + 1) (sg r) r = some p ∧ wpt n A M r = r :: p := by
  have := (fr_spec (fun t => (wz n A M (t + 1) (sg r) r).isSome) 7).2.2 h
  have : (wz n A M (wtq n A M r + 1) (sg r) r).isSome = true := this
  obtain ⟨p, hp⟩ := Option.isSome_iff_exists.mp this
  exact ⟨p, hp, by unfold wpt; rw [hp]; rfl⟩
theorem wtq_le (n : Nat) (A M : Nat → Int32) (r : Nat) : wtq n A M r ≤ 7 := (fr_spec (fun t => (wz n A M (t + 1) (sg r) r).isSome) 7).1
theorem pcn_sg : ∀ r, r < 12 → pcn (sg r) = 1 := by decide +kernel
theorem szq_ex {n : Nat} {A M : Nat → Int32} (w : GW n A) (h : MW n A M) {r : Nat} (hr : r < n) (hr1 : M r = -1) : 2 * szq M n + 1 ≤ n := by
  have hn := w.2.1
  rw [szq_msk w h]
  have hb : bt (msk M n) r = false := by
    cases q : bt (msk M n) r
    · rfl
    · exact absurd hr1 ((msk_iff (by omega)).mp q).2
  have := pcn_add (T := msk M n) (v := r) (by omega) hb
  have h2 := pcn_le hn ((msk_bd (M := M) hn).or (Bd.sg hr (by omega)))
  omega
theorem wz_bound {n : Nat} {A M : Nat → Int32} (w : GW n A) (h : MW n A M) {r : Nat} (hr : r < n) (hr1 : M r = -1) {t : Nat} {p : List Nat} (hp : wz n A M (t + 1) (sg r) r = some p) : 2 * t + 2 ≤ n ∧ t ≤ szq M n ∧ p.length = 2 * t + 1 := by
  have hn := w.2.1
  obtain ⟨h1, h2, h3⟩ := wz_len w h (ND.start w h hr hr1).1 hp
  rw [pcn_sg r (by omega)] at h1
  have h4 := pcn_split (msk M n) (sg r)
  have h5 := szq_msk w h
  refine ⟨by omega, by omega, h3⟩
theorem findWay_eq {n : Nat} {A M : Nat → Int32} {σ : WD} (w : GW n A) (hG : GC n A σ) (h : MW n A M) (hC : CM M σ) {r : Nat} (hr : r < n) (hr1 : M r = -1) : ∃ τ, f_X5_findWay (nI r) σ = some (nI (wln n A M r), τ) ∧ Fr [19, 20, 21] σ τ ∧ (wtq n A M r < 7 → ∀ i, i ≤ wln n A M r → τ.1 21 i = nI ((wpt n A M r).getD i 0)) := by
  have hn := w.2.1
  have hsz := szq_ex w h hr hr1
  unfold f_X5_findWay
  obtain ⟨σ1, e1, f1, b1⟩ := numberPairs_eq w hG h hC
  have g0 : ∀ {γ : Type} (k : Option γ), gi 0 12 k = k := fun k => gi_in (i := 0) (by decide) (by decide) k
  rw [e1, bv_eq, g0, lt_eq]
  obtain ⟨σ2, hσ2⟩ : ∃ s, s = upi σ1 21 0 (nI r) := ⟨_, rfl⟩
  have hσ2' : upi σ1 21 (0 : Int32).toNatClampNeg (nI r) = σ2 := hσ2.symm
  rw [hσ2']
  have f2 : Fr [19, 20, 21] σ σ2 := by rw [hσ2]; exact (f1.mono (by decide)).upi (by decide) _ _
  have c0 : σ2.1 21 0 = nI r := by rw [hσ2, upi_get, if_pos rfl, upd_get, if_pos rfl]
  have b2 : PBs n M σ2 := fun x hx => by rw [hσ2, upi_get, if_neg (by decide)]; exact b1 x hx
  have hG2 := hG.fr f2 (by decide) (by decide)
  have hC2 := hC.fr f2 (by decide)
  rw [size_eq w h hC2, bv_eq]
  unfold f_X5_findWay_21
  -- one try
  have stp : ∀ t τ, t ≤ szq M n → Fr [20, 21] σ2 τ → τ.1 21 0 = nI r → ∃ τ2, Fr [20, 21] σ2 τ2 ∧ τ2.1 21 0 = nI r ∧ ((wz n A M (t + 1) (sg r) r = none ∧ f_X5_findWay_b21 (nI (szq M n)) (nI t) τ = some (.inl (nI (t + 1), τ2))) ∨ (∃ p, wz n A M (t + 1) (sg r) r = some p ∧ f_X5_findWay_b21 (nI (szq M n)) (nI t) τ = some (.inr (nI (2 * t + 1), τ2)) ∧ ∀ i, i < p.length → τ2.1 21 (1 + i) = nI (p.getD i 0))) := by
    intro t τ ht hf hc
    obtain ⟨τa, hτa⟩ : ∃ s, s = ups τ 20 (fillf (τ.1 20) 64 0) := ⟨_, rfl⟩
    have fa : Fr [20, 21] σ2 τa := by rw [hτa]; exact hf.ups (by decide) _
    have z20 : ∀ P, Bd 6 P → τa.1 20 (ix P) = 0 := fun P hP => by
      rw [hτa, ups_get, if_pos rfl]
      unfold fillf
      rw [if_pos (ix_lt_pow (n := 6) (by decide) hP)]
    have c21 : τa.1 21 0 = nI r := by rw [hτa, ups_get, if_neg (by decide)]; exact hc
    obtain ⟨τ2, g1, g2, g3⟩ := followWay_eq w h hr hr1 (T := t) (by omega) t 0 9 0 (sg r) r τa rfl (by omega) (hG2.fr fa (by decide) (by decide)) (hC2.fr fa (by decide)) (fun x hx => by rw [fa.1 19 (by decide)]; exact b2 x hx) (Bd.zero 6) pcn_zero (ND.start w h hr hr1) hr c21 c21 (fun P U e p1 p2 p3 p4 p5 => by rw [z20 P p1, b_0] at p5; cases p5)
    have g2' : τ2.1 21 0 = nI r := by rw [g2 0 (Nat.zero_le _)]; exact c21
    have hb : f_X5_findWay_b21 (nI (szq M n)) (nI t) τ = bn (f_X5_followWay 9 (nI (2 * 0)) 0 (nI t) τa) (fun r38 σ38 => if r38 = 0 then some (.inl ((nI t + 1), σ38)) else mr (f_X5_findWay_44 (nI t) σ38)) := by
      unfold f_X5_findWay_b21
      rw [if_neg (nI_nlt ht (by omega)), lt_eq, ← hτa]
      rfl
    refine ⟨τ2, fa.tr g1, g2', ?_⟩
    rcases g3 with ⟨p, p1, p2, p3⟩ | ⟨p1, p2, -, -⟩
    · right
      refine ⟨p, p2, ?_, fun i hi => ?_⟩
      · rw [hb, p1, bn_eq, if_neg (by decide)]
        unfold f_X5_findWay_44
        rw [mr_eq, nI_twice t (by omega), nI_1]
      · have := p3 i hi
        rw [show 2 * 0 + 1 + i = 1 + i by omega] at this
        exact this
    · left
      exact ⟨p2, by rw [hb, p1, bn_eq, if_pos rfl, nI_1]⟩
  by_cases ht7 : wtq n A M r < 7
  · obtain ⟨p, hp, hw⟩ := wtq_some ht7
    obtain ⟨l1, l2, l3⟩ := wz_bound w h hr hr1 hp
    obtain ⟨s', ⟨τ, hs', hf, hc⟩, el⟩ := lp_inv (f := fun s : Int32 × WD => f_X5_findWay_b21 (nI (szq M n)) s.1 s.2) (fun i s => ∃ τ, s = (nI i, τ) ∧ Fr [20, 21] σ2 τ ∧ τ.1 21 0 = nI r) (a := 0) (b := wtq n A M r) (Nat.zero_le _) (s := (0, σ2)) ⟨σ2, rfl, Fr.rf _ _, c0⟩ (fun t s _ ht hs => by
      obtain ⟨τ, rfl, hf, hc⟩ := hs
      obtain ⟨τ2, q1, q2, q | ⟨p2, q, -⟩⟩ := stp t τ (by omega) hf hc
      · exact ⟨_, q.2, τ2, rfl, q1, q2⟩
      · rw [wtq_none ht] at q; cases q)
    rw [el, hs']
    obtain ⟨τ2, q1, q2, q | ⟨p2, q3, q4, q5⟩⟩ := stp (wtq n A M r) τ l2 hf hc
    · rw [hp] at q; cases q.1
    · rw [hp] at q3
      have q3 := Option.some.inj q3
      subst q3
      have hL : wln n A M r = 2 * wtq n A M r + 1 := by unfold wln; rw [if_pos ht7]
      refine ⟨τ2, lp_end ?_, f2.tr (q1.mono (by decide)), fun _ i hi => ?_⟩
      · rw [hL]; exact q4
      · rw [hw]
        match i, hi with
        | 0, _ => exact q2
        | i + 1, hi =>
          rw [show i + 1 = 1 + i by omega, q5 i (by omega), show 1 + i = i + 1 by omega]; rfl
  · have hL : wln n A M r = 0 := by unfold wln; rw [if_neg ht7]
    obtain ⟨s', ⟨τ, hs', hf, hc⟩, el⟩ := lp_inv (f := fun s : Int32 × WD => f_X5_findWay_b21 (nI (szq M n)) s.1 s.2) (fun i s => ∃ τ, s = (nI i, τ) ∧ Fr [20, 21] σ2 τ ∧ τ.1 21 0 = nI r) (a := 0) (b := szq M n + 1) (Nat.zero_le _) (s := (0, σ2)) ⟨σ2, rfl, Fr.rf _ _, c0⟩ (fun t s _ ht hs => by
      obtain ⟨τ, rfl, hf, hc⟩ := hs
      obtain ⟨τ2, q1, q2, q | ⟨p2, q, -⟩⟩ := stp t τ (by omega) hf hc
      · exact ⟨_, q.2, τ2, rfl, q1, q2⟩
      · rw [wtq_none (by omega)] at q; cases q)
    rw [el, hs']
    refine ⟨τ, lp_end ?_, f2.tr (hf.mono (by decide)), fun q => absurd q ht7⟩
    dsimp only
    unfold f_X5_findWay_b21
    rw [if_pos (nI_lt (by omega) (by omega)), hL]
    rfl
