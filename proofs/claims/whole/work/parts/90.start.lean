/-! THE CLAIM OUT OF ONE WALK OF THE LAW'S BODY. Your part is whole_start (and what it stands on); all else here is the same for every law, but numbers. -/
def R_law : String := "MatchingGraphLaw"
def lw_P (b : Addr) (xs : List Int32) (args : Array Value) (s : State) : Prop := args = #[.ref b] ∧ s.IntsAt b xs ∧ xs.length ≤ 2048 ∧ (Jvm.Cond.and given_1 narrow_1).before args s = true
/-- what a walk over the start with the record d0 says of its end, said of the start itself -/
theorem lw_closed {s t : State} {o : Outcome} {d0 : Drawn} {L : List Loc} {k n : Nat} (hd0 : s.drawn.sameBut d0 lw_cs) (hv : ∃ v, o = .returned v) (hW : (s.setDrawn d0).WarmedH t.vm) (hs : (s.setDrawn d0).sameButNew ({ t with vm := s.vm } : State) L k n) : State.butDraws s t lw_cs (fun t1 => Framed s o t1 L k n) := by
  have h2 : t.drawn = d0 := congrArg State.drawn hs.1
  refine ⟨⟨hv, hW, State.sameButNew.setDrawn hs s.drawn⟩, ?_, by decide⟩
  rw [h2]
  exact hd0
def lw_Q (_ : Array Value) (s : State) (o : Outcome) (t : State) : Prop := o = .returned (some (.int 1)) ∧ State.butDraws s t lw_cs (fun t1 => Framed s o t1 [] 601024 7293034)
def lw_Z (below : List Frame) (a : Array Value) (s : State) : State → Prop := fun t => ∃ o, t.status = .running ∧ Ended t below o ∧ lw_Q a s o t
/-- the law's own end, with 1 on the stack, nothing written that was there before, its room as the claim has it; d0: the record of draws at this point (at the entry s.drawn: begin with 'refine W.base ?_' and 'have hd0 := Drawn.sameBut.refl s.drawn lw_cs') -/
theorem lw_ret {p : Program} {l : Launch} {e : Env} {s : State} {m : MethodId} {below : List Frame} {meth : Method} {c : Code} {b : Nat} {d0 : Drawn} (hd0 : s.drawn.sameBut d0 lw_cs) (hx : p.tables.exec = Jvm.exec) (hb : c.code = code) (hr : meth.sig.returnType = ret) (hlocks : meth.locks = false) {pc : Nat} {H : Heap} {ls : Array Slot} (hdg : decode code pc = .ok (.ireturn, 1)) : W p l e room_1 (s.setDrawn d0) m #[Value.ref b] below meth c H [] 601024 7293034 (lw_Z below #[Value.ref b] s) (F0 m pc ls [.int 1]) := by
  intro T hT X
  obtain ⟨fs, hret, hrun, hended, hW, hframe⟩ := X.leave (v := some (.int 1)) (hlocks := hlocks) (fun h => by rw [hr] at h; cases h)
  have hmeth' : T.vm.method? m = some meth := X.method'
  refine ⟨T.setFrames fs, ?_, .returned (some (.int 1)), hrun, hended, rfl, lw_closed hd0 ⟨_, rfl⟩ hW hframe⟩
  jvm_step X.here [X.here.top, hx, hb, hdg, hmeth', hr, ret, narrow_b1]
  (try refine ⟨rfl, ?_⟩); (try refine ⟨rfl, ?_⟩)
  first | (intro acts; rw [hret _ acts rfl rfl rfl]) | rw [hret _ _ rfl rfl rfl]
  exact Steps.refl _
/-- what holds at the law's entry: the machine, the code, the tables' words (any of lw_tbl by 'hts w (by decide +kernel)'), the script of L ints xs at the cell b, what the Statement gives of the start (any of its parts by flat_of_before) -/
def lw_At (p : Program) (s : State) (m : MethodId) (meth : Method) (c : Code) (b L : Nat) (xs : Nat → Int32) : Prop :=
  p.tables.exec = Jvm.exec ∧ c.code = code ∧ meth.sig.returnType = ret ∧ c.maxLocals = 9 ∧ s.vm.findClass R_law = some m.cls ∧ (∀ w ∈ lw_tbl, w.before #[Value.ref b] s = true) ∧ va_X b L xs s s.heap ∧ b < s.heap.size ∧ meth.locks = false ∧ (Jvm.Cond.and given_1 narrow_1).before #[Value.ref b] s = true
/-- the world as the constructors leave it -/
def w0 : WD := (fun c => match c with
  | 1 => fun i => if i = 0 then 6 else 0
  | 4 => fillf (fun _ => 0) 12 (-1)
  | 22 => fun i => if i = 5 then -1 else 0
  | 26 => fillf (fun _ => 0) 12 (-1)
  | 27 => fun i => if i = 0 then 6 else 0
  | 29 => fun i => if i = 1 then 6 else 0
  | 30 => fillf (fun _ => 0) 12 0
  | 31 => fillf (fun _ => 0) 12 (-1)
  | _ => fun _ => 0, 0, 0)
theorem va_D_adr {A : Nat → Prop} {ws ws' : va_W} (h : va_D A ws) (e : ws'.map Prod.fst = ws.map Prod.fst) : va_D A ws' := by
  have key : ∀ (k : Nat) (q : Nat × va_E), ws'[k]? = some q → ∃ q2, ws[k]? = some q2 ∧ q2.1 = q.1 := by
    intro k q hq
    have h1 : (ws'.map Prod.fst)[k]? = some q.1 := by rw [List.getElem?_map, hq]; rfl
    rw [e, List.getElem?_map] at h1
    cases h2 : ws[k]? with
    | none => rw [h2] at h1; cases h1
    | some q2 => rw [h2] at h1; exact ⟨q2, rfl, Option.some.inj h1⟩
  refine ⟨fun i j p q hp hq hpq => ?_, fun k q hq => ?_⟩
  · obtain ⟨p2, a1, a2⟩ := key i p hp
    obtain ⟨q2, b1, b2⟩ := key j q hq
    exact h.1 i j p2 q2 a1 b1 (by rw [a2, b2, hpq])
  · obtain ⟨q2, b1, b2⟩ := key k q hq
    rw [← b2]
    exact h.2 k q2 b1
theorem cells_adr (g : Gb) (σ τ : WD) : (cells g σ).map Prod.fst = (cells g τ).map Prod.fst := rfl
theorem p_istore {x : Cx} {g : Gb} {A : Nat → Prop} {own : String} {cc : ByteArray} {nL ce sl pc : Nat} {rm : Room} {lv : List (Nat × Value)} {st : List Value} {ws : va_W} (C : CP x g A own cc nL rm) {i : Nat} {v : Int32} (lw : List (Nat × Value)) (hdg : decode cc pc = .ok (.istore i, 2)) (hn : i < nL) (hl9 : (i, Value.int v) :: lv.filter (fun q => !(q.1 == i) && !(q.1 + 1 == i && q.2.category == 2)) = lw) (pn : Nat) (hp : pc + 2 = pn) (k : PW x g A nL ce sl pn lw st ws) : PW x g A nL ce sl pc lv (.int v :: st) ws := by
  subst hp
  exact fun H locs ls hP hD hS hl => lv_istore C.ex C.by hdg hl hn hl9 (fun ls hl => k H locs ls hP hD hS hl)
/-- the maths: from the first world every round of the law's loop goes through -/
def Goes_on (xs : Nat → Int32) (L : Nat) : Prop := ∃ I : Nat → WD → Prop, I 0 w0 ∧ ∀ k σ, I k σ → 4 * k + 4 ≤ L → ∃ σ', f_law_b23 xs L (nI (4 * k)) σ = some (.inl (nI (4 * (k + 1)), σ')) ∧ I (k + 1) σ'
/-- the law's x, with a record of draws -/
abbrev lx (p : Program) (l : Launch) (e : Env) (s : State) (m : MethodId) (b : Nat) (below : List Frame) (meth : Method) (c : Code) (d : Drawn) : Cx := (p, l, e, room_1, s.setDrawn d, m, #[Value.ref b], below, meth, c, lw_Z below #[Value.ref b] s)
theorem law_end {p : Program} {l : Launch} {e : Env} {s : State} {m : MethodId} {b : Nat} {below : List Frame} {meth : Method} {c : Code} {d : Drawn} {g : Gb} {ce sl : Nat} (hg : g.2.2.2.2.2 = s.heap.size) (hr : meth.sig.returnType = ret) (hd0 : s.drawn.sameBut d lw_cs) (C : CF (lx p l e s m b below meth c d) g RL cL_law 9 room_1) (hce : ce ≤ 601024) (hsl : sl ≤ 7293034) {pc : Nat} {lv : List (Nat × Value)} {τ : WD} (hdg : decode cL_law pc = .ok (.ireturn, 1)) : WW (lx p l e s m b below meth c d) g 9 ce sl pc lv [.int 1] τ := by
  intro H locs ls hP hS hl
  refine va_forget (fun q hq => by have := hS.2.2 q hq; unfold fA at this; rw [hg] at this; exact this) ?_
  refine W.widen hce hsl ?_
  exact lw_ret hd0 C.ex C.by hr C.lk hdg
theorem law_fin {p : Program} {l : Launch} {e : Env} {s : State} {m : MethodId} {b : Nat} {below : List Frame} {meth : Method} {c : Code} {g : Gb} {L : Nat} {xs : Nat → Int32} (hL : L ≤ 2048) (hg : g.2.2.2.2.2 = s.heap.size) (hr : meth.sig.returnType = ret) (hl9 : l.stackTraces = false)
    (C : ∀ d, CF (lx p l e s m b below meth c d) g RL cL_law 9 room_1) (S : ∀ d, SC (lx p l e s m b below meth c d) g b L xs) (hX : ∀ d, XP g (s.setDrawn d)) : ∀ k σ d, L < 4 * k + 4 → 4 * k ≤ L + 4 → s.drawn.sameBut d lw_cs → WW (lx p l e s m b below meth c d) g 9 (41 + k) (17048 + 6 * k) 23 [(0, .ref b), (1, .ref (adr g 0)), (2, .ref (adr g 29)), (3, .ref (adr g 40)), (4, .int (nI (4 * k)))] [] σ := by
  intro k σ d hn hk hd
  have e1 : Int32.ofNat L - 4 < nI (4 * k) := by
    have h1 : (Int32.ofNat L - 4).toInt = (L : Int) - 4 := by
      rw [Int32.toInt_sub]
      have a1 : (Int32.ofNat L).toInt = (L : Int) := nI_toInt (n := L) (by omega)
      have a2 : (4 : Int32).toInt = 4 := by decide
      rw [a1, a2, Int.bmod_eq_of_le (by omega) (by omega)]
    rw [Int32.lt_iff_toInt_lt, h1, nI_toInt (by omega)]
    omega
  have hf : f_law_b23 xs L (nI (4 * k)) σ = some (.inr ()) := by
    unfold f_law_b23
    rw [if_pos e1]
  exact w_law_b23 (E := fun t => t = .inr ()) (C d) (S d) (hX d) hl9 ⟨by show 41 + k ≤ 601024; omega, by show 17048 + 6 * k ≤ 7293034; omega⟩ ⟨by show 41 + k + 1 ≤ 601024; omega, by show 17048 + 6 * k + 6 ≤ 7293034; omega⟩ (fun _ h => by cases h) (fun _ _ _ h => by cases h) (fun _ pc lv τ hdg => law_end hg hr hd (C d) (by omega) (by omega) hdg) hf rfl
theorem law_loop {p : Program} {l : Launch} {e : Env} {s : State} {m : MethodId} {b : Nat} {below : List Frame} {meth : Method} {c : Code} {g : Gb} {L : Nat} {xs : Nat → Int32} (hL : L ≤ 2048) (hg : g.2.2.2.2.2 = s.heap.size) (hr : meth.sig.returnType = ret) (hl9 : l.stackTraces = false)
    (C : ∀ d, CF (lx p l e s m b below meth c d) g RL cL_law 9 room_1) (S : ∀ d, SC (lx p l e s m b below meth c d) g b L xs) (hX : ∀ d, XP g (s.setDrawn d)) {I : Nat → WD → Prop} (hI : ∀ k σ, I k σ → 4 * k + 4 ≤ L → ∃ σ', f_law_b23 xs L (nI (4 * k)) σ = some (.inl (nI (4 * (k + 1)), σ')) ∧ I (k + 1) σ') : ∀ n k σ d, L < 4 * k + 4 + 4 * n → 4 * k ≤ L + 4 → I k σ → s.drawn.sameBut d lw_cs → WW (lx p l e s m b below meth c d) g 9 (41 + k) (17048 + 6 * k) 23 [(0, .ref b), (1, .ref (adr g 0)), (2, .ref (adr g 29)), (3, .ref (adr g 40)), (4, .int (nI (4 * k)))] [] σ := by
  intro n
  induction n with
  | zero =>
    intro k σ d hn hk hi hd
    exact law_fin hL hg hr hl9 C S hX k σ d (by omega) hk hd
  | succ n ih =>
    intro k σ d hn hk hi hd
    by_cases hlt : 4 * k + 4 ≤ L
    · obtain ⟨σ', hf, hi'⟩ := hI k σ hi hlt
      refine w_law_b23 (E := fun t => t = .inl (nI (4 * (k + 1)), σ')) (C d) (S d) (hX d) hl9 ⟨by show 41 + k ≤ 601024; omega, by show 17048 + 6 * k ≤ 7293034; omega⟩ ⟨by show 41 + k + 1 ≤ 601024; omega, by show 17048 + 6 * k + 6 ≤ 7293034; omega⟩ (fun z h => ?_) (fun d' hd' z h => ?_) (fun h => by cases h) hf rfl
      · cases h
        exact ih (k + 1) σ' d (by omega) (by omega) hi' hd
      · cases h
        exact ih (k + 1) σ' d' (by omega) (by omega) hi' (hd.trans hd')
    · exact law_fin hL hg hr hl9 C S hX k σ d (by omega) hk hd

theorem st_of {own tx : String} {k : Nat} {A : Array Value} {U : State} (h1 : (Cond.stringRef own k tx).before A U = true) (h2 : (Cond.exactly (Term.string own k) "java/lang/String").before A U = true) : ∃ sa, vk_R own k tx sa U := by
  obtain ⟨a, -, -, -, ha, -⟩ := Cond.exactly_spec h2
  exact ⟨a, vk_R.of h1 ha⟩
set_option maxHeartbeats 8000000 in
set_option maxRecDepth 100000 in
theorem whole_open (hgo : ∀ (xs : Nat → Int32) (L : Nat), L ≤ 2048 → Goes_on xs L) {p : Program} {e : Env} {s : State} {m : MethodId} {below : List Frame} {meth : Method} {c : Code} (l : Launch) (hflags : l.flags = flags0) {b L : Nat} {xs : Nat → Int32} (hL : L ≤ 2048) (C0 : lw_At p s m meth c b L xs) : W p l e room_1 s m #[Value.ref b] below meth c s.heap [] 0 0 (lw_Z below #[Value.ref b] s) (entryFrame m ([Value.ref b] : List Value).toArray 9) := by
  obtain ⟨hx, hb, hr, hml, hown, hts0, hXs, hbl, hlocks, hgv⟩ := id C0
  have hnar := flat_of_before _ hgv
  have hts : ∀ w ∈ WS, w.before #[Value.ref b] s = true := fun w hw => hts0 w (ws_tbl hw)
  have hl9 : l.stackTraces = false := by
    unfold Launch.stackTraces
    rw [hflags]
    decide +kernel
  obtain ⟨cI, kI, pI, fI1, fI2, fI3⟩ := Cond.arrayClass_spec (hts _ q_50)
  obtain ⟨cL, kL, pL, fL1, fL2, fL3⟩ := Cond.arrayClass_spec (hts _ q_1099)
  have hao : va_AOA .int s := va_AOA.of (A := #[Value.ref b]) (hts0 (Cond.arrayOver (.array .int)) (List.mem_append_right _ (List.mem_of_getElem? (i := 89) (by decide +kernel))))
  obtain ⟨pM, cM, kM, fM0, fM2, fM3, fM1⟩ := Cond.arrayOver_specA hao
  obtain ⟨cX0, iX0, hKX0⟩ := u_known (C := RX0) (T := TX0) (N := 3) (n := 3) hts iw_X0 (hts _ q_28)
  obtain ⟨cX1, iX1, hKX1⟩ := u_known (C := RX1) (T := TX1) (N := 4) (n := 4) hts iw_X1 (hts _ q_83)
  obtain ⟨cX2, iX2, hKX2⟩ := u_known (C := RX2) (T := TX2) (N := 2) (n := 2) hts iw_X2 (hts _ q_68)
  obtain ⟨cX3, iX3, hKX3⟩ := u_known (C := RX3) (T := TX3) (N := 1) (n := 1) hts iw_X3 (hts _ q_52)
  obtain ⟨cX4, iX4, hKX4⟩ := u_known (C := RX4) (T := TX4) (N := 6) (n := 6) hts iw_X4 (hts _ q_136)
  obtain ⟨cX5, iX5, hKX5⟩ := u_known (C := RX5) (T := TX5) (N := 7) (n := 7) hts iw_X5 (hts _ q_105)
  obtain ⟨cX6, iX6, hKX6⟩ := u_known (C := RX6) (T := TX6) (N := 7) (n := 7) hts iw_X6 (hts _ q_20)
  obtain ⟨cX7, iX7, hKX7⟩ := u_known (C := RX7) (T := TX7) (N := 19) (n := 19) hts iw_X7 (hts _ q_749)
  obtain ⟨dC, dI, hKc⟩ : ∃ (dC : Nat → ClassId) (dI : Nat → Nat → Nat), ∀ (k : Nat) (q : vw_C), vwCl[k]? = some q → u_Kn s q.1 q.2.1 q.2.2 (dC k) (dI k) := by
    refine ⟨fun k => match k with | 0 => cX0 | 1 => cX1 | 2 => cX2 | 3 => cX3 | 4 => cX4 | 5 => cX5 | 6 => cX6 | _ => cX7, fun k => match k with | 0 => iX0 | 1 => iX1 | 2 => iX2 | 3 => iX3 | 4 => iX4 | 5 => iX5 | 6 => iX6 | _ => iX7, ?_⟩
    intro k q hq
    match k, hq with
    | 0, hq => cases hq; exact hKX0
    | 1, hq => cases hq; exact hKX1
    | 2, hq => cases hq; exact hKX2
    | 3, hq => cases hq; exact hKX3
    | 4, hq => cases hq; exact hKX4
    | 5, hq => cases hq; exact hKX5
    | 6, hq => cases hq; exact hKX6
    | 7, hq => cases hq; exact hKX7
    | k + 8, hq => simp [vwCl] at hq
  have hK : ∀ ad : Nat → Nat, va_K (dC, dI) vwCl (tyl ((dC, dI), ad, cI, cL, cM, s.heap.size)) s := by
    intro ad
    refine ⟨hKc, fun k q hq => ?_⟩
    match k, hq with
    | 0, hq => cases hq; exact ⟨fun n z => ⟨fun k h => (by cases h), kI, fI2, pI, fI3⟩, fI1⟩
    | 1, hq => cases hq; exact ⟨fun n z => ⟨fun k h => (by cases h), kL, fL2, pL, fL3⟩, fL1⟩
    | 2, hq => cases hq; exact ⟨fun n z => ⟨fun k h => (by cases h), kM, fM2, pM, fM3⟩, fM1⟩
    | k + 3, hq => simp [tyl] at hq
  have hNW : NW s := by
    intro w hw
    have h1 := hts0 w (nw_tbl w hw)
    simp only [NWl, List.mem_cons, List.not_mem_nil, or_false] at hw
    rcases hw with rfl | rfl | rfl | rfl | rfl | rfl | rfl | rfl | rfl | rfl | rfl | rfl | rfl | rfl | rfl | rfl | rfl | rfl | rfl
    all_goals exact va_Nw.of rfl h1
  have hXP : ∀ ad : Nat → Nat, XP ((dC, dI), ad, cI, cL, cM, s.heap.size) s := by
    intro ad
    have hA : ∀ a : Nat, a < s.heap.size → ¬ fA ((dC, dI), ad, cI, cL, cM, s.heap.size) a := fun a h => Nat.not_le.mpr h
    refine ⟨vx_Zqof (hts0 _ (List.mem_append_right _ (List.mem_of_getElem? (i := 421) (by decide +kernel)))) (hts _ q_10) (hnar _ (by decide +kernel)) hA, vx_Zqof (hts0 _ (List.mem_append_right _ (List.mem_of_getElem? (i := 423) (by decide +kernel)))) (hts _ q_10) (hnar _ (by decide +kernel)) hA, ?_, ?_, ?_, ?_⟩
    · exact List.forall_mem_cons.mpr ⟨st_of (hts0 _ (List.mem_append_right _ (List.mem_of_getElem? (i := 435) (by decide +kernel)))) (hnar _ (by decide +kernel)), List.forall_mem_cons.mpr ⟨st_of (hts0 _ (List.mem_append_right _ (List.mem_of_getElem? (i := 487) (by decide +kernel)))) (hnar _ (by decide +kernel)), List.forall_mem_cons.mpr ⟨st_of (hts0 _ (List.mem_append_right _ (List.mem_of_getElem? (i := 504) (by decide +kernel)))) (hnar _ (by decide +kernel)), List.forall_mem_cons.mpr ⟨st_of (hts0 _ (List.mem_append_right _ (List.mem_of_getElem? (i := 538) (by decide +kernel)))) (hnar _ (by decide +kernel)), List.forall_mem_cons.mpr ⟨st_of (hts0 _ (List.mem_append_right _ (List.mem_of_getElem? (i := 554) (by decide +kernel)))) (hnar _ (by decide +kernel)), List.forall_mem_cons.mpr ⟨st_of (hts0 _ (List.mem_append_right _ (List.mem_of_getElem? (i := 561) (by decide +kernel)))) (hnar _ (by decide +kernel)), List.forall_mem_cons.mpr ⟨st_of (hts0 _ (List.mem_append_right _ (List.mem_of_getElem? (i := 592) (by decide +kernel)))) (hnar _ (by decide +kernel)), List.forall_mem_cons.mpr ⟨st_of (hts0 _ (List.mem_append_right _ (List.mem_of_getElem? (i := 609) (by decide +kernel)))) (hnar _ (by decide +kernel)), List.forall_mem_cons.mpr ⟨st_of (hts0 _ (List.mem_append_right _ (List.mem_of_getElem? (i := 622) (by decide +kernel)))) (hnar _ (by decide +kernel)), List.forall_mem_cons.mpr ⟨st_of (hts0 _ (List.mem_append_right _ (List.mem_of_getElem? (i := 623) (by decide +kernel)))) (hnar _ (by decide +kernel)), List.forall_mem_cons.mpr ⟨st_of (hts0 _ (List.mem_append_right _ (List.mem_of_getElem? (i := 639) (by decide +kernel)))) (hnar _ (by decide +kernel)), List.forall_mem_cons.mpr ⟨st_of (hts0 _ (List.mem_append_right _ (List.mem_of_getElem? (i := 657) (by decide +kernel)))) (hnar _ (by decide +kernel)), List.forall_mem_cons.mpr ⟨st_of (hts0 _ (List.mem_append_right _ (List.mem_of_getElem? (i := 665) (by decide +kernel)))) (hnar _ (by decide +kernel)), List.forall_mem_cons.mpr ⟨st_of (hts0 _ (List.mem_append_right _ (List.mem_of_getElem? (i := 680) (by decide +kernel)))) (hnar _ (by decide +kernel)), List.forall_mem_cons.mpr ⟨st_of (hts0 _ (List.mem_append_right _ (List.mem_of_getElem? (i := 717) (by decide +kernel)))) (hnar _ (by decide +kernel)), fun _ h => absurd h List.not_mem_nil⟩⟩⟩⟩⟩⟩⟩⟩⟩⟩⟩⟩⟩⟩⟩
    · exact List.forall_mem_cons.mpr ⟨va_Nw.of rfl (hts0 _ (List.mem_append_right _ (List.mem_of_getElem? (i := 396) (by decide +kernel)))), List.forall_mem_cons.mpr ⟨va_Nw.of rfl (hts0 _ (List.mem_append_right _ (List.mem_of_getElem? (i := 531) (by decide +kernel)))), List.forall_mem_cons.mpr ⟨va_Nw.of rfl (hts0 _ (List.mem_append_right _ (List.mem_of_getElem? (i := 480) (by decide +kernel)))), fun _ h => absurd h List.not_mem_nil⟩⟩⟩
    · exact List.forall_mem_cons.mpr ⟨va_Nw.of rfl (hts0 _ (List.mem_append_right _ (List.mem_of_getElem? (i := 398) (by decide +kernel)))), List.forall_mem_cons.mpr ⟨va_Nw.of rfl (hts0 _ (List.mem_append_right _ (List.mem_of_getElem? (i := 400) (by decide +kernel)))), List.forall_mem_cons.mpr ⟨va_Nw.of rfl (hts0 _ (List.mem_append_right _ (List.mem_of_getElem? (i := 402) (by decide +kernel)))), fun _ h => absurd h List.not_mem_nil⟩⟩⟩
    · exact List.forall_mem_cons.mpr ⟨va_Nc.of (hnar _ (by decide +kernel)), List.forall_mem_cons.mpr ⟨va_Nc.of (hnar _ (by decide +kernel)), List.forall_mem_cons.mpr ⟨va_Nc.of (hnar _ (by decide +kernel)), List.forall_mem_cons.mpr ⟨va_Nc.of (hnar _ (by decide +kernel)), List.forall_mem_cons.mpr ⟨va_Nc.of (hnar _ (by decide +kernel)), List.forall_mem_cons.mpr ⟨va_Nc.of (hnar _ (by decide +kernel)), fun _ h => absurd h List.not_mem_nil⟩⟩⟩⟩⟩⟩
  obtain ⟨I, hI0, hI⟩ := hgo xs L hL
  refine W.base ?_
  obtain ⟨g0, hg0⟩ : ∃ g0 : Gb, g0 = ((dC, dI), (fun _ => 0), cI, cL, cM, s.heap.size) := ⟨_, rfl⟩
  obtain ⟨x, hxe⟩ : ∃ x : Cx, x = lx p l e s m b below meth c s.drawn := ⟨_, rfl⟩
  obtain ⟨A, hAe⟩ : ∃ A : Nat → Prop, A = (fun q => s.heap.size ≤ q) := ⟨_, rfl⟩
  have C : CP x g0 A RL cL_law 9 room_1 := by
    subst hxe; subst hg0; subst hAe
    exact ⟨hx, hb, hml, hown, dr_words hts _, hK _, fun q h => h, fun w hw => (Cond.before_setDrawn _ _ _ w).trans (hNW w hw), ao_same (u := s) rfl hao, rfl, hlocks⟩
  have hl := lv_entry ([.ref b]) (n := 9) (Nat.le_of_ble_eq_true rfl)
  rw [lg_entry_eq]
  suffices hmain : PW x g0 A 9 0 0 0 [(0, .ref b)] [] [] by
    have := hmain s.heap [] _ (fun k q h => by simp at h) ⟨fun i j p q h => by simp at h, fun k q h => by simp at h⟩ (by subst hxe; exact va_S.rf) hl
    subst hxe
    exact this
  refine p_new C (fs := [.null, .null, .null, .null, .null, .null, .null]) (ci := 6) iw_X6 tyX6 tyX6_ok q_19 q_20 q_1 rfl (fun j hj => by rcases (show j = 0 ∨ j = 1 ∨ j = 2 ∨ j = 3 ∨ j = 4 ∨ j = 5 ∨ j = 6 by omega) with rfl | rfl | rfl | rfl | rfl | rfl | rfl <;> rfl) (Nat.le_of_ble_eq_true rfl) (Nat.le_of_ble_eq_true rfl) dL_law_0 3 rfl (fun q101 => ?_)
  show PW x g0 A 9 1 7 3 [(0, .ref b)] [.ref q101] [(q101, .inr (6, [.null, .null, .null, .null, .null, .null, .null]))]
  refine p_dup C dL_law_3 rfl 4 rfl ?_
  refine p_callI C (wr := []) (n := 0) [] [0] [] (fun sz => k_X6_init q101 sz) q_23 q_1 q_21 q_22 rfl (by decide +kernel) rfl rfl rfl rfl (by decide) rfl ⟨rfl, rfl⟩ ⟨(Nat.le_of_ble_eq_true rfl), (Nat.le_of_ble_eq_true rfl)⟩ ⟨(Nat.le_of_ble_eq_true rfl), (Nat.le_of_ble_eq_true rfl)⟩ _ rfl (Nat.le_of_ble_eq_true rfl) dL_law_4 7 rfl (fun ws1 hw => ?_)
  obtain ⟨q102, q103, q104, q105, q106, q107, q108, q109, r110, q111, r112, q113, q114, q115, q116, q117, q118, q119, q120, q121, q122, q123, rfl⟩ := hw
  show PW x g0 A 9 29 8526 7 [(0, .ref b)] [.ref q101] [(q101, .inr (6, [.ref q102, .ref q104, .ref q106, .ref q108, .ref q113, .ref q117, .ref q122])), (q102, .inr (0, [.int 6, .ref q103, .int 0])), (q103, .inl (g0.2.2.1, 12, .inl (fun _ => 0))), (q104, .inr (3, [.ref q105])), (q105, .inl (g0.2.2.1, 12, .inl (fillf (fun _ => 0) 12 (-1)))), (q106, .inr (2, [.ref q107, .int 0])), (q107, .inl (g0.2.2.1, 60, .inl (fun _ => 0))), (q108, .inr (1, [.ref q109, .ref q111, .int 0, .int 0])), (q109, .inl (g0.2.2.2.2.1, 4, .inr (.inr (.inr (.inr (fun i => if i < 4 then some (r110 i) else none)))))), (r110 0, .inl (g0.2.2.1, 12, .inl (fun _ => 0))), (r110 1, .inl (g0.2.2.1, 12, .inl (fun _ => 0))), (r110 2, .inl (g0.2.2.1, 12, .inl (fun _ => 0))), (r110 3, .inl (g0.2.2.1, 12, .inl (fun _ => 0))), (q111, .inl (g0.2.2.2.2.1, 4, .inr (.inr (.inr (.inr (fun i => if i < 4 then some (r112 i) else none)))))), (r112 0, .inl (g0.2.2.1, 12, .inl (fun _ => 0))), (r112 1, .inl (g0.2.2.1, 12, .inl (fun _ => 0))), (r112 2, .inl (g0.2.2.1, 12, .inl (fun _ => 0))), (r112 3, .inl (g0.2.2.1, 12, .inl (fun _ => 0))), (q113, .inr (5, [.ref q102, .ref q104, .ref q114, .ref q115, .ref q116, .int 0, .int 0])), (q114, .inl (g0.2.2.1, 12, .inl (fun _ => 0))), (q115, .inl (g0.2.2.1, 64, .inl (fun _ => 0))), (q116, .inl (g0.2.2.1, 12, .inl (fun _ => 0))), (q117, .inr (4, [.ref q102, .ref q118, .ref q119, .ref q120, .int 0, .int (-1)])), (q118, .inl (g0.2.2.1, 4096, .inl (fun _ => 0))), (q119, .inl (g0.2.2.1, 4096, .inl (fun _ => 0))), (q120, .inr (3, [.ref q121])), (q121, .inl (g0.2.2.1, 12, .inl (fillf (fun _ => 0) 12 (-1)))), (q122, .inr (0, [.int 6, .ref q123, .int 0])), (q123, .inl (g0.2.2.1, 12, .inl (fun _ => 0)))]
  refine p_astore_n C [(1, .ref q101), (0, .ref b)] dL_law_7 rfl (by decide) rfl 8 rfl ?_
  refine p_new C (fs := [.int 0, .int 0, .null, .null, .int 0, .null, .int 0, .null, .null, .null, .null, .null, .null, .int 0, .int 0, .int 0, .int 0, .null, .long 0]) (ci := 7) iw_X7 tyX7 tyX7_ok q_748 q_749 q_9 rfl (fun j hj => by rcases (show j = 0 ∨ j = 1 ∨ j = 2 ∨ j = 3 ∨ j = 4 ∨ j = 5 ∨ j = 6 ∨ j = 7 ∨ j = 8 ∨ j = 9 ∨ j = 10 ∨ j = 11 ∨ j = 12 ∨ j = 13 ∨ j = 14 ∨ j = 15 ∨ j = 16 ∨ j = 17 ∨ j = 18 by omega) with rfl | rfl | rfl | rfl | rfl | rfl | rfl | rfl | rfl | rfl | rfl | rfl | rfl | rfl | rfl | rfl | rfl | rfl | rfl <;> rfl) (Nat.le_of_ble_eq_true rfl) (Nat.le_of_ble_eq_true rfl) dL_law_8 11 rfl (fun q124 => ?_)
  show PW x g0 A 9 30 8545 11 [(1, .ref q101), (0, .ref b)] [.ref q124] [(q101, .inr (6, [.ref q102, .ref q104, .ref q106, .ref q108, .ref q113, .ref q117, .ref q122])), (q102, .inr (0, [.int 6, .ref q103, .int 0])), (q103, .inl (g0.2.2.1, 12, .inl (fun _ => 0))), (q104, .inr (3, [.ref q105])), (q105, .inl (g0.2.2.1, 12, .inl (fillf (fun _ => 0) 12 (-1)))), (q106, .inr (2, [.ref q107, .int 0])), (q107, .inl (g0.2.2.1, 60, .inl (fun _ => 0))), (q108, .inr (1, [.ref q109, .ref q111, .int 0, .int 0])), (q109, .inl (g0.2.2.2.2.1, 4, .inr (.inr (.inr (.inr (fun i => if i < 4 then some (r110 i) else none)))))), (r110 0, .inl (g0.2.2.1, 12, .inl (fun _ => 0))), (r110 1, .inl (g0.2.2.1, 12, .inl (fun _ => 0))), (r110 2, .inl (g0.2.2.1, 12, .inl (fun _ => 0))), (r110 3, .inl (g0.2.2.1, 12, .inl (fun _ => 0))), (q111, .inl (g0.2.2.2.2.1, 4, .inr (.inr (.inr (.inr (fun i => if i < 4 then some (r112 i) else none)))))), (r112 0, .inl (g0.2.2.1, 12, .inl (fun _ => 0))), (r112 1, .inl (g0.2.2.1, 12, .inl (fun _ => 0))), (r112 2, .inl (g0.2.2.1, 12, .inl (fun _ => 0))), (r112 3, .inl (g0.2.2.1, 12, .inl (fun _ => 0))), (q113, .inr (5, [.ref q102, .ref q104, .ref q114, .ref q115, .ref q116, .int 0, .int 0])), (q114, .inl (g0.2.2.1, 12, .inl (fun _ => 0))), (q115, .inl (g0.2.2.1, 64, .inl (fun _ => 0))), (q116, .inl (g0.2.2.1, 12, .inl (fun _ => 0))), (q117, .inr (4, [.ref q102, .ref q118, .ref q119, .ref q120, .int 0, .int (-1)])), (q118, .inl (g0.2.2.1, 4096, .inl (fun _ => 0))), (q119, .inl (g0.2.2.1, 4096, .inl (fun _ => 0))), (q120, .inr (3, [.ref q121])), (q121, .inl (g0.2.2.1, 12, .inl (fillf (fun _ => 0) 12 (-1)))), (q122, .inr (0, [.int 6, .ref q123, .int 0])), (q123, .inl (g0.2.2.1, 12, .inl (fun _ => 0))), (q124, .inr (7, [.int 0, .int 0, .null, .null, .int 0, .null, .int 0, .null, .null, .null, .null, .null, .null, .int 0, .int 0, .int 0, .int 0, .null, .long 0]))]
  refine p_dup C dL_law_11 rfl 12 rfl ?_
  refine p_callI C (wr := [(q101, .inr (6, [.ref q102, .ref q104, .ref q106, .ref q108, .ref q113, .ref q117, .ref q122])), (q102, .inr (0, [.int 6, .ref q103, .int 0])), (q103, .inl (g0.2.2.1, 12, .inl (fun _ => 0))), (q104, .inr (3, [.ref q105])), (q105, .inl (g0.2.2.1, 12, .inl (fillf (fun _ => 0) 12 (-1)))), (q106, .inr (2, [.ref q107, .int 0])), (q107, .inl (g0.2.2.1, 60, .inl (fun _ => 0))), (q108, .inr (1, [.ref q109, .ref q111, .int 0, .int 0])), (q109, .inl (g0.2.2.2.2.1, 4, .inr (.inr (.inr (.inr (fun i => if i < 4 then some (r110 i) else none)))))), (r110 0, .inl (g0.2.2.1, 12, .inl (fun _ => 0))), (r110 1, .inl (g0.2.2.1, 12, .inl (fun _ => 0))), (r110 2, .inl (g0.2.2.1, 12, .inl (fun _ => 0))), (r110 3, .inl (g0.2.2.1, 12, .inl (fun _ => 0))), (q111, .inl (g0.2.2.2.2.1, 4, .inr (.inr (.inr (.inr (fun i => if i < 4 then some (r112 i) else none)))))), (r112 0, .inl (g0.2.2.1, 12, .inl (fun _ => 0))), (r112 1, .inl (g0.2.2.1, 12, .inl (fun _ => 0))), (r112 2, .inl (g0.2.2.1, 12, .inl (fun _ => 0))), (r112 3, .inl (g0.2.2.1, 12, .inl (fun _ => 0))), (q113, .inr (5, [.ref q102, .ref q104, .ref q114, .ref q115, .ref q116, .int 0, .int 0])), (q114, .inl (g0.2.2.1, 12, .inl (fun _ => 0))), (q115, .inl (g0.2.2.1, 64, .inl (fun _ => 0))), (q116, .inl (g0.2.2.1, 12, .inl (fun _ => 0))), (q117, .inr (4, [.ref q102, .ref q118, .ref q119, .ref q120, .int 0, .int (-1)])), (q118, .inl (g0.2.2.1, 4096, .inl (fun _ => 0))), (q119, .inl (g0.2.2.1, 4096, .inl (fun _ => 0))), (q120, .inr (3, [.ref q121])), (q121, .inl (g0.2.2.1, 12, .inl (fillf (fun _ => 0) 12 (-1)))), (q122, .inr (0, [.int 6, .ref q123, .int 0])), (q123, .inl (g0.2.2.1, 12, .inl (fun _ => 0)))]) (n := 0) [] [29] [0, 1, 2, 3, 4, 5, 6, 7, 8, 9, 10, 11, 12, 13, 14, 15, 16, 17, 18, 19, 20, 21, 22, 23, 24, 25, 26, 27, 28] (fun sz => k_X7_init q124 sz) q_752 q_9 q_750 q_751 rfl (by decide +kernel) rfl rfl rfl rfl (by decide) rfl ⟨rfl, rfl⟩ ⟨(Nat.le_of_ble_eq_true rfl), (Nat.le_of_ble_eq_true rfl)⟩ ⟨(Nat.le_of_ble_eq_true rfl), (Nat.le_of_ble_eq_true rfl)⟩ _ rfl (Nat.le_of_ble_eq_true rfl) dL_law_12 15 rfl (fun ws1 hw => ?_)
  obtain ⟨q125, q126, q127, q128, q129, q130, q131, q132, q133, q134, rfl⟩ := hw
  show PW x g0 A 9 40 17047 15 [(1, .ref q101), (0, .ref b)] [.ref q124] [(q101, .inr (6, [.ref q102, .ref q104, .ref q106, .ref q108, .ref q113, .ref q117, .ref q122])), (q102, .inr (0, [.int 6, .ref q103, .int 0])), (q103, .inl (g0.2.2.1, 12, .inl (fun _ => 0))), (q104, .inr (3, [.ref q105])), (q105, .inl (g0.2.2.1, 12, .inl (fillf (fun _ => 0) 12 (-1)))), (q106, .inr (2, [.ref q107, .int 0])), (q107, .inl (g0.2.2.1, 60, .inl (fun _ => 0))), (q108, .inr (1, [.ref q109, .ref q111, .int 0, .int 0])), (q109, .inl (g0.2.2.2.2.1, 4, .inr (.inr (.inr (.inr (fun i => if i < 4 then some (r110 i) else none)))))), (r110 0, .inl (g0.2.2.1, 12, .inl (fun _ => 0))), (r110 1, .inl (g0.2.2.1, 12, .inl (fun _ => 0))), (r110 2, .inl (g0.2.2.1, 12, .inl (fun _ => 0))), (r110 3, .inl (g0.2.2.1, 12, .inl (fun _ => 0))), (q111, .inl (g0.2.2.2.2.1, 4, .inr (.inr (.inr (.inr (fun i => if i < 4 then some (r112 i) else none)))))), (r112 0, .inl (g0.2.2.1, 12, .inl (fun _ => 0))), (r112 1, .inl (g0.2.2.1, 12, .inl (fun _ => 0))), (r112 2, .inl (g0.2.2.1, 12, .inl (fun _ => 0))), (r112 3, .inl (g0.2.2.1, 12, .inl (fun _ => 0))), (q113, .inr (5, [.ref q102, .ref q104, .ref q114, .ref q115, .ref q116, .int 0, .int 0])), (q114, .inl (g0.2.2.1, 12, .inl (fun _ => 0))), (q115, .inl (g0.2.2.1, 64, .inl (fun _ => 0))), (q116, .inl (g0.2.2.1, 12, .inl (fun _ => 0))), (q117, .inr (4, [.ref q102, .ref q118, .ref q119, .ref q120, .int 0, .int (-1)])), (q118, .inl (g0.2.2.1, 4096, .inl (fun _ => 0))), (q119, .inl (g0.2.2.1, 4096, .inl (fun _ => 0))), (q120, .inr (3, [.ref q121])), (q121, .inl (g0.2.2.1, 12, .inl (fillf (fun _ => 0) 12 (-1)))), (q122, .inr (0, [.int 6, .ref q123, .int 0])), (q123, .inl (g0.2.2.1, 12, .inl (fun _ => 0))), (q127, .inl (g0.2.2.1, 96, .inl (fun _ => 0))), (q128, .inl (g0.2.2.1, 60, .inl (fun _ => 0))), (q129, .inl (g0.2.2.1, 4096, .inl (fun _ => 0))), (q130, .inl (g0.2.2.1, 4096, .inl (fun _ => 0))), (q131, .inl (g0.2.2.1, 12, .inl (fun _ => 0))), (q132, .inl (g0.2.2.1, 14, .inl (fun _ => 0))), (q133, .inl (g0.2.2.1, 14, .inl (fun _ => 0))), (q134, .inl (g0.2.2.1, 90, .inl (fun _ => 0))), (q124, .inr (7, [.int 0, .int 6, .ref q125, .ref q126, .int 0, .ref q127, .int 0, .ref q128, .ref q129, .ref q130, .ref q131, .ref q132, .ref q133, .int 0, .int 0, .int 0, .int 0, .ref q134, .long 0])), (q125, .inl (g0.2.2.1, 12, .inl (fillf (fun _ => 0) 12 0))), (q126, .inl (g0.2.2.1, 12, .inl (fillf (fun _ => 0) 12 (-1))))]
  refine p_astore_n C [(2, .ref q124), (1, .ref q101), (0, .ref b)] dL_law_15 rfl (by decide) rfl 16 rfl ?_
  refine p_iconst C (v := 1) dL_law_16 (by decide) 17 rfl ?_
  refine p_newl C 1 (by decide) (by decide) (by decide) q_1099 (Nat.le_of_ble_eq_true rfl) (Nat.le_of_ble_eq_true rfl) dL_law_17 19 rfl (fun q135 => ?_)
  show PW x g0 A 9 41 17048 19 [(2, .ref q124), (1, .ref q101), (0, .ref b)] [.ref q135] [(q101, .inr (6, [.ref q102, .ref q104, .ref q106, .ref q108, .ref q113, .ref q117, .ref q122])), (q102, .inr (0, [.int 6, .ref q103, .int 0])), (q103, .inl (g0.2.2.1, 12, .inl (fun _ => 0))), (q104, .inr (3, [.ref q105])), (q105, .inl (g0.2.2.1, 12, .inl (fillf (fun _ => 0) 12 (-1)))), (q106, .inr (2, [.ref q107, .int 0])), (q107, .inl (g0.2.2.1, 60, .inl (fun _ => 0))), (q108, .inr (1, [.ref q109, .ref q111, .int 0, .int 0])), (q109, .inl (g0.2.2.2.2.1, 4, .inr (.inr (.inr (.inr (fun i => if i < 4 then some (r110 i) else none)))))), (r110 0, .inl (g0.2.2.1, 12, .inl (fun _ => 0))), (r110 1, .inl (g0.2.2.1, 12, .inl (fun _ => 0))), (r110 2, .inl (g0.2.2.1, 12, .inl (fun _ => 0))), (r110 3, .inl (g0.2.2.1, 12, .inl (fun _ => 0))), (q111, .inl (g0.2.2.2.2.1, 4, .inr (.inr (.inr (.inr (fun i => if i < 4 then some (r112 i) else none)))))), (r112 0, .inl (g0.2.2.1, 12, .inl (fun _ => 0))), (r112 1, .inl (g0.2.2.1, 12, .inl (fun _ => 0))), (r112 2, .inl (g0.2.2.1, 12, .inl (fun _ => 0))), (r112 3, .inl (g0.2.2.1, 12, .inl (fun _ => 0))), (q113, .inr (5, [.ref q102, .ref q104, .ref q114, .ref q115, .ref q116, .int 0, .int 0])), (q114, .inl (g0.2.2.1, 12, .inl (fun _ => 0))), (q115, .inl (g0.2.2.1, 64, .inl (fun _ => 0))), (q116, .inl (g0.2.2.1, 12, .inl (fun _ => 0))), (q117, .inr (4, [.ref q102, .ref q118, .ref q119, .ref q120, .int 0, .int (-1)])), (q118, .inl (g0.2.2.1, 4096, .inl (fun _ => 0))), (q119, .inl (g0.2.2.1, 4096, .inl (fun _ => 0))), (q120, .inr (3, [.ref q121])), (q121, .inl (g0.2.2.1, 12, .inl (fillf (fun _ => 0) 12 (-1)))), (q122, .inr (0, [.int 6, .ref q123, .int 0])), (q123, .inl (g0.2.2.1, 12, .inl (fun _ => 0))), (q127, .inl (g0.2.2.1, 96, .inl (fun _ => 0))), (q128, .inl (g0.2.2.1, 60, .inl (fun _ => 0))), (q129, .inl (g0.2.2.1, 4096, .inl (fun _ => 0))), (q130, .inl (g0.2.2.1, 4096, .inl (fun _ => 0))), (q131, .inl (g0.2.2.1, 12, .inl (fun _ => 0))), (q132, .inl (g0.2.2.1, 14, .inl (fun _ => 0))), (q133, .inl (g0.2.2.1, 14, .inl (fun _ => 0))), (q134, .inl (g0.2.2.1, 90, .inl (fun _ => 0))), (q124, .inr (7, [.int 0, .int 6, .ref q125, .ref q126, .int 0, .ref q127, .int 0, .ref q128, .ref q129, .ref q130, .ref q131, .ref q132, .ref q133, .int 0, .int 0, .int 0, .int 0, .ref q134, .long 0])), (q125, .inl (g0.2.2.1, 12, .inl (fillf (fun _ => 0) 12 0))), (q126, .inl (g0.2.2.1, 12, .inl (fillf (fun _ => 0) 12 (-1)))), (q135, .inl (g0.2.2.2.1, 1, .inr (.inl (fun _ => 0))))]
  refine p_astore_n C [(3, .ref q135), (2, .ref q124), (1, .ref q101), (0, .ref b)] dL_law_19 rfl (by decide) rfl 20 rfl ?_
  refine p_iconst C (v := 0) dL_law_20 (by decide) 21 rfl ?_
  refine p_istore C [(4, .int 0), (3, .ref q135), (2, .ref q124), (1, .ref q101), (0, .ref b)] dL_law_21 (by decide) rfl 23 rfl ?_
  intro H locs ls hP hD hS hlv
  obtain ⟨ad, had⟩ : ∃ ad : Nat → Nat, ad = (fun k => match k with | 0 => q101 | 1 => q102 | 2 => q103 | 3 => q104 | 4 => q105 | 5 => q106 | 6 => q107 | 7 => q108 | 8 => q109 | 9 => r110 0 | 10 => r110 1 | 11 => r110 2 | 12 => r110 3 | 13 => q111 | 14 => r112 0 | 15 => r112 1 | 16 => r112 2 | 17 => r112 3 | 18 => q113 | 19 => q114 | 20 => q115 | 21 => q116 | 22 => q117 | 23 => q118 | 24 => q119 | 25 => q120 | 26 => q121 | 27 => q122 | 28 => q123 | 29 => q124 | 30 => q125 | 31 => q126 | 32 => q127 | 33 => q128 | 34 => q129 | 35 => q130 | 36 => q131 | 37 => q132 | 38 => q133 | 39 => q134 | 40 => q135 | _ => 0) := ⟨_, rfl⟩
  obtain ⟨g, hgd⟩ : ∃ g : Gb, g = ((dC, dI), ad, cI, cL, cM, s.heap.size) := ⟨_, rfl⟩
  have e9 : (fun i => if i < 4 then some (r110 i) else none) = rws g 9 := by
    subst hgd; subst had
    funext j
    match j with
    | 0 => rfl
    | 1 => rfl
    | 2 => rfl
    | 3 => rfl
    | j + 4 => simp [rws, show ¬ j + 4 < 4 by omega]
  have e14 : (fun i => if i < 4 then some (r112 i) else none) = rws g 14 := by
    subst hgd; subst had
    funext j
    match j with
    | 0 => rfl
    | 1 => rfl
    | 2 => rfl
    | 3 => rfl
    | j + 4 => simp [rws, show ¬ j + 4 < 4 by omega]
  have e40 : (fun _ : Nat => (0 : Int64)) = fun j => if j = 0 then w0.2.2 else 0 := by
    funext j
    by_cases h : j = 0 <;> simp [h, w0]
  rw [e9, e14, e40] at hP hD
  have hP2 : va_P g.1 vwCl (cells g w0) H := by
    have := hP.sub (ws' := cells g w0) [0, 1, 2, 3, 4, 5, 6, 7, 8, 9, 10, 11, 12, 13, 14, 15, 16, 17, 18, 19, 20, 21, 22, 23, 24, 25, 26, 27, 28, 37, 38, 39, 29, 30, 31, 32, 33, 34, 35, 36, 40] (by subst hg0; subst hgd; subst had; rfl)
    subst hg0; subst hgd
    exact this
  have hD2 : va_D (fA g) (cells g w0) := by
    have := hD.sub (ws' := cells g w0) [0, 1, 2, 3, 4, 5, 6, 7, 8, 9, 10, 11, 12, 13, 14, 15, 16, 17, 18, 19, 20, 21, 22, 23, 24, 25, 26, 27, 28, 37, 38, 39, 29, 30, 31, 32, 33, 34, 35, 36, 40] (by decide) (by subst hg0; subst hgd; subst had; rfl)
    subst hAe; subst hgd
    exact this
  have hDD : ∀ σ, va_D (fA g) (cells g σ) := fun σ => va_D_adr hD2 (cells_adr g σ w0)
  have hCF : ∀ d, CF (lx p l e s m b below meth c d) g RL cL_law 9 room_1 := by
    intro d
    subst hgd
    exact ⟨hx, hb, hml, hown, dr_words hts d, hK ad, hDD, fun w hw => (Cond.before_setDrawn _ _ _ w).trans (hNW w hw), Nat.le_refl _, rfl, hlocks⟩
  have hSC : ∀ d, SC (lx p l e s m b below meth c d) g b L xs := by
    intro d
    subst hgd
    exact ⟨hXs, hbl, Nat.not_le.mpr hbl⟩
  have hXd : ∀ d, XP g (s.setDrawn d) := by
    intro d
    subst hgd
    exact xp_same rfl rfl (hXP ad)
  have hgs : g.2.2.2.2.2 = s.heap.size := by subst hgd; rfl
  have key := law_loop hL hgs hr hl9 hCF hSC hXd hI (L + 1) 0 w0 s.drawn (by omega) (by omega) hI0 (Drawn.sameBut.refl _ _) H locs ls hP2 (by
    subst hxe; subst hAe
    have := hS
    refine ⟨this.1, fun q h1 h2 => this.2.1 q h1 (fun h3 => h2 (by unfold fA; rw [hgs]; exact h3)), fun q hq => by unfold fA; rw [hgs]; exact this.2.2 q hq⟩) (by
    have := lv_sub hlv [4, 3, 2, 1, 0] rfl
    subst hgd; subst had
    exact this)
  subst hxe
  exact key
