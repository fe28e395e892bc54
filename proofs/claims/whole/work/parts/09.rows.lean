section XJ
variable {x : Cx} {g : Gb} {own : String} {cc : ByteArray} {nL ce sl pc : Nat} {rm : Room} {lv : List (Nat × Value)} {st : List Value} {σ : WD}
theorem x_icmp_eq (C : CF x g own cc nL rm) {a b : Int32} {off : Int} (hdg : decode cc pc = .ok (.if_icmp .eq off, 3)) (tg : Nat) (ht : (pc : Int) + off = (tg : Int)) (pn : Nat) (hp : pc + 3 = pn) (kt : a = b → WW x g nL ce sl tg lv st σ) (kf : ¬ a = b → WW x g nL ce sl pn lv st σ) : WW x g nL ce sl pc lv (.int b :: .int a :: st) σ := by
  subst hp
  exact fun H locs ls hP hS hl => lv_icmp_eq C.ex C.by hdg ht (fun h => kt h H locs ls hP hS hl) (fun h => kf h H locs ls hP hS hl)
theorem x_icmp_ne (C : CF x g own cc nL rm) {a b : Int32} {off : Int} (hdg : decode cc pc = .ok (.if_icmp .ne off, 3)) (tg : Nat) (ht : (pc : Int) + off = (tg : Int)) (pn : Nat) (hp : pc + 3 = pn) (kt : ¬ a = b → WW x g nL ce sl tg lv st σ) (kf : a = b → WW x g nL ce sl pn lv st σ) : WW x g nL ce sl pc lv (.int b :: .int a :: st) σ := by
  subst hp
  exact fun H locs ls hP hS hl => lv_icmp_ne C.ex C.by hdg ht (fun h => kt h H locs ls hP hS hl) (fun h => kf h H locs ls hP hS hl)
theorem x_icmp_lt (C : CF x g own cc nL rm) {a b : Int32} {off : Int} (hdg : decode cc pc = .ok (.if_icmp .lt off, 3)) (tg : Nat) (ht : (pc : Int) + off = (tg : Int)) (pn : Nat) (hp : pc + 3 = pn) (kt : a < b → WW x g nL ce sl tg lv st σ) (kf : ¬ a < b → WW x g nL ce sl pn lv st σ) : WW x g nL ce sl pc lv (.int b :: .int a :: st) σ := by
  subst hp
  exact fun H locs ls hP hS hl => lv_icmp_lt C.ex C.by hdg ht (fun h => kt h H locs ls hP hS hl) (fun h => kf h H locs ls hP hS hl)
theorem x_icmp_ge (C : CF x g own cc nL rm) {a b : Int32} {off : Int} (hdg : decode cc pc = .ok (.if_icmp .ge off, 3)) (tg : Nat) (ht : (pc : Int) + off = (tg : Int)) (pn : Nat) (hp : pc + 3 = pn) (kt : b ≤ a → WW x g nL ce sl tg lv st σ) (kf : ¬ b ≤ a → WW x g nL ce sl pn lv st σ) : WW x g nL ce sl pc lv (.int b :: .int a :: st) σ := by
  subst hp
  exact fun H locs ls hP hS hl => lv_icmp_ge C.ex C.by hdg ht (fun h => kt h H locs ls hP hS hl) (fun h => kf h H locs ls hP hS hl)
theorem x_icmp_gt (C : CF x g own cc nL rm) {a b : Int32} {off : Int} (hdg : decode cc pc = .ok (.if_icmp .gt off, 3)) (tg : Nat) (ht : (pc : Int) + off = (tg : Int)) (pn : Nat) (hp : pc + 3 = pn) (kt : b < a → WW x g nL ce sl tg lv st σ) (kf : ¬ b < a → WW x g nL ce sl pn lv st σ) : WW x g nL ce sl pc lv (.int b :: .int a :: st) σ := by
  subst hp
  exact fun H locs ls hP hS hl => lv_icmp_gt C.ex C.by hdg ht (fun h => kt h H locs ls hP hS hl) (fun h => kf h H locs ls hP hS hl)
theorem x_icmp_le (C : CF x g own cc nL rm) {a b : Int32} {off : Int} (hdg : decode cc pc = .ok (.if_icmp .le off, 3)) (tg : Nat) (ht : (pc : Int) + off = (tg : Int)) (pn : Nat) (hp : pc + 3 = pn) (kt : a ≤ b → WW x g nL ce sl tg lv st σ) (kf : ¬ a ≤ b → WW x g nL ce sl pn lv st σ) : WW x g nL ce sl pc lv (.int b :: .int a :: st) σ := by
  subst hp
  exact fun H locs ls hP hS hl => lv_icmp_le C.ex C.by hdg ht (fun h => kt h H locs ls hP hS hl) (fun h => kf h H locs ls hP hS hl)
theorem x_if_eq (C : CF x g own cc nL rm) {a : Int32} {off : Int} (hdg : decode cc pc = .ok (.ifCond .eq off, 3)) (tg : Nat) (ht : (pc : Int) + off = (tg : Int)) (pn : Nat) (hp : pc + 3 = pn) (kt : a = 0 → WW x g nL ce sl tg lv st σ) (kf : ¬ a = 0 → WW x g nL ce sl pn lv st σ) : WW x g nL ce sl pc lv (.int a :: st) σ := by
  subst hp
  exact fun H locs ls hP hS hl => lv_if_eq C.ex C.by hdg ht (fun h => kt h H locs ls hP hS hl) (fun h => kf h H locs ls hP hS hl)
theorem x_if_ne (C : CF x g own cc nL rm) {a : Int32} {off : Int} (hdg : decode cc pc = .ok (.ifCond .ne off, 3)) (tg : Nat) (ht : (pc : Int) + off = (tg : Int)) (pn : Nat) (hp : pc + 3 = pn) (kt : ¬ a = 0 → WW x g nL ce sl tg lv st σ) (kf : a = 0 → WW x g nL ce sl pn lv st σ) : WW x g nL ce sl pc lv (.int a :: st) σ := by
  subst hp
  exact fun H locs ls hP hS hl => lv_if_ne C.ex C.by hdg ht (fun h => kt h H locs ls hP hS hl) (fun h => kf h H locs ls hP hS hl)
theorem x_if_lt (C : CF x g own cc nL rm) {a : Int32} {off : Int} (hdg : decode cc pc = .ok (.ifCond .lt off, 3)) (tg : Nat) (ht : (pc : Int) + off = (tg : Int)) (pn : Nat) (hp : pc + 3 = pn) (kt : a < 0 → WW x g nL ce sl tg lv st σ) (kf : ¬ a < 0 → WW x g nL ce sl pn lv st σ) : WW x g nL ce sl pc lv (.int a :: st) σ := by
  subst hp
  exact fun H locs ls hP hS hl => lv_if_lt C.ex C.by hdg ht (fun h => kt h H locs ls hP hS hl) (fun h => kf h H locs ls hP hS hl)
theorem x_if_ge (C : CF x g own cc nL rm) {a : Int32} {off : Int} (hdg : decode cc pc = .ok (.ifCond .ge off, 3)) (tg : Nat) (ht : (pc : Int) + off = (tg : Int)) (pn : Nat) (hp : pc + 3 = pn) (kt : 0 ≤ a → WW x g nL ce sl tg lv st σ) (kf : ¬ 0 ≤ a → WW x g nL ce sl pn lv st σ) : WW x g nL ce sl pc lv (.int a :: st) σ := by
  subst hp
  exact fun H locs ls hP hS hl => lv_if_ge C.ex C.by hdg ht (fun h => kt h H locs ls hP hS hl) (fun h => kf h H locs ls hP hS hl)
theorem x_if_gt (C : CF x g own cc nL rm) {a : Int32} {off : Int} (hdg : decode cc pc = .ok (.ifCond .gt off, 3)) (tg : Nat) (ht : (pc : Int) + off = (tg : Int)) (pn : Nat) (hp : pc + 3 = pn) (kt : 0 < a → WW x g nL ce sl tg lv st σ) (kf : ¬ 0 < a → WW x g nL ce sl pn lv st σ) : WW x g nL ce sl pc lv (.int a :: st) σ := by
  subst hp
  exact fun H locs ls hP hS hl => lv_if_gt C.ex C.by hdg ht (fun h => kt h H locs ls hP hS hl) (fun h => kf h H locs ls hP hS hl)
theorem x_if_le (C : CF x g own cc nL rm) {a : Int32} {off : Int} (hdg : decode cc pc = .ok (.ifCond .le off, 3)) (tg : Nat) (ht : (pc : Int) + off = (tg : Int)) (pn : Nat) (hp : pc + 3 = pn) (kt : a ≤ 0 → WW x g nL ce sl tg lv st σ) (kf : ¬ a ≤ 0 → WW x g nL ce sl pn lv st σ) : WW x g nL ce sl pc lv (.int a :: st) σ := by
  subst hp
  exact fun H locs ls hP hS hl => lv_if_le C.ex C.by hdg ht (fun h => kt h H locs ls hP hS hl) (fun h => kf h H locs ls hP hS hl)
/-- a table's place: by the number itself -/
theorem x_tabIn (C : CF x g own cc nL rm) {a : Int32} {dflt lo hi : Int} {offs : Array Int} {len : Nat} (v : Int32) (hv : a = v) (hdg : decode cc pc = .ok (.tableswitch dflt lo hi offs, len)) (off : Int) (hk : (¬ v.toInt < lo) ∧ (¬ hi < v.toInt) ∧ offs[(v.toInt - lo).toNat]? = some off) (tg : Nat) (ht : (pc : Int) + off = (tg : Int)) (k : WW x g nL ce sl tg lv st σ) : WW x g nL ce sl pc lv (.int a :: st) σ := by
  subst hv
  exact fun H locs ls hP hS hl => lv_tableIn C.ex C.by hdg hk.1 hk.2.1 hk.2.2 ht (k H locs ls hP hS hl)
theorem x_tabOut (C : CF x g own cc nL rm) {a : Int32} {dflt lo hi : Int} {offs : Array Int} {len : Nat} (hdg : decode cc pc = .ok (.tableswitch dflt lo hi offs, len)) (h : a.toInt < lo ∨ hi < a.toInt) (tg : Nat) (ht : (pc : Int) + dflt = (tg : Int)) (k : WW x g nL ce sl tg lv st σ) : WW x g nL ce sl pc lv (.int a :: st) σ :=
  fun H locs ls hP hS hl => lv_tableOut C.ex C.by hdg h ht (k H locs ls hP hS hl)
theorem x_get (C : CF x g own cc nL rm) {idx : Nat} {R : String} {T : u_T} {N ci : Nat} {fs : List Value} {v : Value} (k j : Nat) (hg : (cells g σ)[k]? = some (adr g k, .inr (ci, fs))) (hc : vwCl[ci]? = some (R, T, N)) (hin : ∀ w ∈ u_ws R T N, w ∈ WS) (hj : j < N) (hl0 : Cond.fieldLink own idx (T j).1 (T j).2.1 (T j).2.2.1 ∈ WS) (hv : fs[j]? = some v) (hdg : decode cc pc = .ok (.getfield idx, 3)) (pn : Nat) (hp : pc + 3 = pn) (kk : WW x g nL ce sl pn lv (v :: st) σ) : WW x g nL ce sl pc lv (.ref (adr g k) :: st) σ := by
  subst hp
  exact fun H locs ls hP hS hl => va_get (D := g.1) C.ex C.by C.ts hin C.ow C.K hP k hg hc j hj (C.ts _ hl0) (fun _ h => h) hv hdg (kk H locs ls hP hS hl)
theorem x_getN (C : CF x g own cc nL rm) {idx : Nat} {host R : String} {T : u_T} {N ci : Nat} {fs : List Value} {v : Value} (k j : Nat) (hg : (cells g σ)[k]? = some (adr g k, .inr (ci, fs))) (hc : vwCl[ci]? = some (R, T, N)) (hin : ∀ w ∈ u_ws R T N, w ∈ WS) (hj : j < N) (hl0 : ∀ {U : State}, NW U → va_Nw (Cond.fieldLinkNest own idx (T j).1 (T j).2.1 (T j).2.2.1 host) U) (hv : fs[j]? = some v) (hdg : decode cc pc = .ok (.getfield idx, 3)) (pn : Nat) (hp : pc + 3 = pn) (kk : WW x g nL ce sl pn lv (v :: st) σ) : WW x g nL ce sl pc lv (.ref (adr g k) :: st) σ := by
  subst hp
  exact fun H locs ls hP hS hl => va_getN (D := g.1) C.ex C.by C.ts hin C.ow C.K hP k hg hc j hj (va_Nw.use rfl (hl0 C.nw)) (fun _ h => h) hv hdg (kk H locs ls hP hS hl)
theorem x_put (C : CF x g own cc nL rm) {idx : Nat} {R : String} {T : u_T} {N ci : Nat} {fs : List Value} {v : Value} {ty : FieldType} {σ' : WD} (k j : Nat) (hg : (cells g σ)[k]? = some (adr g k, .inr (ci, fs))) (hc : vwCl[ci]? = some (R, T, N)) (hin : ∀ w ∈ u_ws R T N, w ∈ WS) (ty0 : Nat → FieldType) (hty : ∀ k, k < N → parseFieldDescriptor (T k).2.2.1 = some (ty0 k)) (hnm : ∀ a, a < N → ∀ b, b < N → a ≠ b → (T a).2.1 ≠ (T b).2.1) (hj : j < N) (hl0 : Cond.fieldLink own idx (T j).1 (T j).2.1 (T j).2.2.1 ∈ WS) (hfin : (T j).2.2.2 = false) (hd : parseFieldDescriptor (T j).2.2.1 = some ty) (hn : narrow ty v = v) (hfit : fits ty v = true) (hl9 : j < fs.length) (hs : (cells g σ).set k (adr g k, .inr (ci, fs.set j v)) = cells g σ') (hdg : decode cc pc = .ok (.putfield idx, 3)) (pn : Nat) (hp : pc + 3 = pn) (kk : WW x g nL ce sl pn lv st σ') : WW x g nL ce sl pc lv (v :: .ref (adr g k) :: st) σ := by
  subst hp
  exact fun H locs ls hP hS hl => va_put (D := g.1) C.ex C.by C.ts hin ty0 hty hnm C.ow C.K hP (C.D σ) hS k hg hc j hj (C.ts _ hl0) (fun _ h => h) hfin hd hn hfit hl9 hdg (fun H1 locs1 hP1 _ hS1 => kk H1 locs1 ls (hs ▸ hP1) hS1 hl)
theorem x_putN (C : CF x g own cc nL rm) {idx : Nat} {host R : String} {T : u_T} {N ci : Nat} {fs : List Value} {v : Value} {ty : FieldType} {σ' : WD} (k j : Nat) (hg : (cells g σ)[k]? = some (adr g k, .inr (ci, fs))) (hc : vwCl[ci]? = some (R, T, N)) (hin : ∀ w ∈ u_ws R T N, w ∈ WS) (ty0 : Nat → FieldType) (hty : ∀ k, k < N → parseFieldDescriptor (T k).2.2.1 = some (ty0 k)) (hnm : ∀ a, a < N → ∀ b, b < N → a ≠ b → (T a).2.1 ≠ (T b).2.1) (hj : j < N) (hl0 : ∀ {U : State}, NW U → va_Nw (Cond.fieldLinkNest own idx (T j).1 (T j).2.1 (T j).2.2.1 host) U) (hfin : (T j).2.2.2 = false) (hd : parseFieldDescriptor (T j).2.2.1 = some ty) (hn : narrow ty v = v) (hfit : fits ty v = true) (hl9 : j < fs.length) (hs : (cells g σ).set k (adr g k, .inr (ci, fs.set j v)) = cells g σ') (hdg : decode cc pc = .ok (.putfield idx, 3)) (pn : Nat) (hp : pc + 3 = pn) (kk : WW x g nL ce sl pn lv st σ') : WW x g nL ce sl pc lv (v :: .ref (adr g k) :: st) σ := by
  subst hp
  exact fun H locs ls hP hS hl => va_putN (D := g.1) C.ex C.by C.ts hin ty0 hty hnm C.ow C.K hP (C.D σ) hS k hg hc j hj (va_Nw.use rfl (hl0 C.nw)) (fun _ h => h) hfin hd hn hfit hl9 hdg (fun H1 locs1 hP1 _ hS1 => kk H1 locs1 ls (hs ▸ hP1) hS1 hl)
theorem x_iald (C : CF x g own cc nL rm) {n : Nat} {i : Int32} (k : Nat) (hg : (cells g σ)[k]? = some (adr g k, .inl (g.2.2.1, n, .inl (σ.1 k)))) (hin : ¬ (i < 0 ∨ n ≤ i.toNatClampNeg)) (hdg : decode cc pc = .ok (.iaload, 1)) (pn : Nat) (hp : pc + 1 = pn) (kk : WW x g nL ce sl pn lv (.int (σ.1 k i.toNatClampNeg) :: st) σ) : WW x g nL ce sl pc lv (.int i :: .ref (adr g k) :: st) σ := by
  subst hp
  exact fun H locs ls hP hS hl => va_iald C.ex C.by C.K hP k 0 hg rfl hin hdg (kk H locs ls hP hS hl)
theorem x_iast (C : CF x g own cc nL rm) {n : Nat} {i v : Int32} (k : Nat) (hg : (cells g σ)[k]? = some (adr g k, .inl (g.2.2.1, n, .inl (σ.1 k)))) (hs : ∀ f, (cells g σ).set k (adr g k, .inl (g.2.2.1, n, .inl f)) = cells g (ups σ k f)) (hin : ¬ (i < 0 ∨ n ≤ i.toNatClampNeg)) (hdg : decode cc pc = .ok (.iastore, 1)) (pn : Nat) (hp : pc + 1 = pn) (kk : WW x g nL ce sl pn lv st (upi σ k i.toNatClampNeg v)) : WW x g nL ce sl pc lv (.int v :: .int i :: .ref (adr g k) :: st) σ := by
  subst hp
  exact fun H locs ls hP hS hl => va_iast C.ex C.by C.K hP (C.D σ) hS k 0 hg rfl hin hdg (fun H1 locs1 hP1 _ hS1 => kk H1 locs1 ls (hs _ ▸ hP1) hS1 hl)
theorem x_alen (C : CF x g own cc nL rm) {n : Nat} {v : Int32} (k : Nat) (hg : (cells g σ)[k]? = some (adr g k, .inl (g.2.2.1, n, .inl (σ.1 k)))) (hv : Int32.ofNat n = v) (hdg : decode cc pc = .ok (.arraylength, 1)) (pn : Nat) (hp : pc + 1 = pn) (kk : WW x g nL ce sl pn lv (.int v :: st) σ) : WW x g nL ce sl pc lv (.ref (adr g k) :: st) σ := by
  subst hp
  exact fun H locs ls hP hS hl => va_alen C.ex C.by C.K hP k 0 (x := (n, .inl (σ.1 k))) hg rfl hv hdg (kk H locs ls hP hS hl)
theorem x_aald (C : CF x g own cc nL rm) {i : Int32} (k r : Nat) (hg : (cells g σ)[k]? = some (adr g k, .inl (g.2.2.2.2.1, 4, .inr (.inr (.inr (.inr (rws g r))))))) (hin : ¬ (i < 0 ∨ 4 ≤ i.toNatClampNeg)) (hdg : decode cc pc = .ok (.aaload, 1)) (pn : Nat) (hp : pc + 1 = pn) (kk : WW x g nL ce sl pn lv (.ref (adr g (r + i.toNatClampNeg)) :: st) σ) : WW x g nL ce sl pc lv (.int i :: .ref (adr g k) :: st) σ := by
  subst hp
  have hlt : i.toNatClampNeg < 4 := Nat.not_le.mp fun q => hin (Or.inr q)
  have hv : va_rf (rws g r i.toNatClampNeg) = .ref (adr g (r + i.toNatClampNeg)) := by simp [rws, hlt, va_rf]
  exact fun H locs ls hP hS hl => W.aald (v := .ref (adr g (r + i.toNatClampNeg))) (ty := .array .int) C.ex C.by (hP k _ hg) ((C.K.2 2 _ rfl).1 4 (fun j => va_rf (rws g r j))) rfl (fun q => by cases q) (by show ¬ (i < 0 ∨ (arrV _ _ _).slots.size ≤ _); rw [arrV_size]; exact hin) (by show (arrV _ _ _).slots[_]? = _; rw [arrV_read _ _ hlt]; rw [hv]) rfl rfl hdg (kk H locs ls hP hS hl)
theorem x_lald (C : CF x g own cc nL rm) (hdg : decode cc pc = .ok (.laload, 1)) (pn : Nat) (hp : pc + 1 = pn) (kk : WW x g nL ce sl pn lv (.long σ.2.2 :: st) σ) : WW x g nL ce sl pc lv (.int 0 :: .ref (adr g 40) :: st) σ := by
  subst hp
  exact fun H locs ls hP hS hl => va_lald C.ex C.by C.K hP 40 1 (gt_40 g σ) rfl (show ¬ ((0 : Int32) < 0 ∨ 1 ≤ (0 : Int32).toNatClampNeg) by decide) hdg (kk H locs ls hP hS hl)
theorem x_last (C : CF x g own cc nL rm) {v : Int64} (hdg : decode cc pc = .ok (.lastore, 1)) (pn : Nat) (hp : pc + 1 = pn) (kk : WW x g nL ce sl pn lv st (upo σ v)) : WW x g nL ce sl pc lv (.long v :: .int 0 :: .ref (adr g 40) :: st) σ := by
  subst hp
  exact fun H locs ls hP hS hl => va_last C.ex C.by C.K hP (C.D σ) hS 40 1 (gt_40 g σ) rfl (show ¬ ((0 : Int32) < 0 ∨ 1 ≤ (0 : Int32).toNatClampNeg) by decide) hdg (fun H1 locs1 hP1 _ hS1 => kk H1 locs1 ls (st_40 g σ v ▸ hP1) hS1 hl)

/-- a method's start: the world, the tables, the nest's words -/
def Wp (g : Gb) (σ : WD) (U : State) : Prop := g.2.2.2.2.2 ≤ U.heap.size ∧ va_P g.1 vwCl (cells g σ) U.heap ∧ va_K g.1 vwCl (tyl g) U ∧ (∀ σ, va_D (fA g) (cells g σ)) ∧ NW U
/-- its end: the answer, the world -/
def QC (g : Gb) (v : Option Value) (σ' : WD) : Array Value → State → Outcome → State → Prop := fun _ s oc t => (oc = .returned v ∧ va_P g.1 vwCl (cells g σ') t.heap) ∧ va_F (fA g) s t
/-- the contract -/
def MC (l : Launch) (g : Gb) (y : MethodName) (cw : Cond) (rm : Room) (av : List Value) (σ : WD) (v : Option Value) (σ' : WD) : Prop := Met l y (cw :: WS) rm (va_Pc av (Wp g σ)) (QC g v σ') 0 0 (fA g)
def rmk (f n : Nat) : Room := { frames := f, cells := 0, slots := 0, locals := n }
theorem ws_gi {cw : Cond} (h : cw ∈ WS) : GoodIn WS (cw :: WS) := fun w hw => (List.mem_cons.mp hw).elim (fun e => e ▸ ⟨h, good_of_word (ws_gd h)⟩) (fun h2 => ⟨h2, good_of_word (ws_gd h2)⟩)
theorem nw_warm {s U : State} (hW : s.WarmedH U.vm) (h : NW s) : NW U := by
  intro w hw
  have h1 := h w hw
  simp only [NWl, List.mem_cons, List.not_mem_nil, or_false] at hw
  rcases hw with rfl | rfl | rfl | rfl | rfl | rfl | rfl | rfl | rfl | rfl | rfl | rfl | rfl | rfl | rfl | rfl | rfl | rfl | rfl
  all_goals first | exact va_Nw.warmF hW h1 | exact va_Nw.warmM hW h1
theorem wp_blind {g : Gb} {av : List Value} {σ : WD} : FrameBlind (va_Pc av (Wp g σ)) := by
  intro a U gg mk q
  obtain ⟨q0, q1, q2, q3, q4, q5⟩ := q
  exact ⟨q0, q1, q2, va_K.moved (u := U) (U := U.calling gg mk a) (Vm.Alike.refl U.vm) q3, q4, fun w hw => by
    have hw' := hw
    simp only [NWl, List.mem_cons, List.not_mem_nil, or_false] at hw
    rcases hw with rfl | rfl | rfl | rfl | rfl | rfl | rfl | rfl | rfl | rfl | rfl | rfl | rfl | rfl | rfl | rfl | rfl | rfl | rfl
    all_goals exact va_Nw.same rfl (show U.vm = (U.calling gg mk a).vm from rfl) (q5 _ hw')⟩
/-- what is known of a method that is called on an object -/
def MI (y : MethodName) (cw : Cond) (bytes : ByteArray) (maxL n : Nat) (ret : Option FieldType) : Prop := cw = Cond.code y bytes maxL ret ∧ cw ∈ WS ∧ Cond.instanceMethod y ∈ WS ∧ Cond.selects y.cls y y ∈ WS ∧ Cond.initialized y.cls ∈ WS ∧ y.cls ≠ "java/lang/invoke/MethodHandle" ∧ y.cls ≠ "java/lang/invoke/VarHandle" ∧ (parseMethodDescriptor y.desc).map (fun d => d.parameters.length) = some n
/-- .. of a static one -/
def MS (y : MethodName) (cw : Cond) (bytes : ByteArray) (maxL n : Nat) (ret : Option FieldType) : Prop := cw = Cond.code y bytes maxL ret ∧ cw ∈ WS ∧ Cond.static y ∈ WS ∧ Cond.initialized y.cls ∈ WS ∧ y.cls ≠ "java/lang/invoke/MethodHandle" ∧ y.cls ≠ "java/lang/invoke/VarHandle" ∧ (parseMethodDescriptor y.desc).map (fun d => d.parameters.length) = some n
theorem x_call {v : Option Value} {σ' : WD} {H : Heap} {locs : List Loc} {ls : Array Slot} {st0 : List Value} {a : Array Value} (C : CF x g own cc nL rm)
    (hr : va_Run x.1 x.2.1 x.2.2.1 x.2.2.2.1 x.2.2.2.2.1 x.2.2.2.2.2.1 x.2.2.2.2.2.2.1 x.2.2.2.2.2.2.2.1 x.2.2.2.2.2.2.2.2.1 x.2.2.2.2.2.2.2.2.2.1 H locs ce sl 0 0 (F0 x.2.2.2.2.2.1 pc ls st0) st (QC g v σ' a) (fA g)) (hS : va_S (fA g) x.2.2.2.2.1.heap H locs) (hl : lv_has ls nL lv) (kk : WW x g nL ce sl (pc + 3) lv (v.toList ++ st) σ') :
    W x.1 x.2.1 x.2.2.1 x.2.2.2.1 x.2.2.2.2.1 x.2.2.2.2.2.1 x.2.2.2.2.2.2.1 x.2.2.2.2.2.2.2.1 x.2.2.2.2.2.2.2.2.1 x.2.2.2.2.2.2.2.2.2.1 H locs ce sl x.2.2.2.2.2.2.2.2.2.2 (F0 x.2.2.2.2.2.1 pc ls st0) := by
  intro T hT X
  obtain ⟨v1, s0, t, T', L, h0, X', hL, e1, e2, ⟨⟨hv, hb⟩, hz, hk⟩, stp⟩ := hr T hT X
  cases hv
  rw [h0] at hz hk
  obtain ⟨t2, a1, b1⟩ := kk T'.heap (locs ++ L) ls (by rw [e1]; exact hb)
    ⟨Nat.le_trans hS.1 (by rw [e1]; exact hz), fun q h1 h2 => by rw [e1, hk q (Nat.lt_of_lt_of_le h1 hS.1) h2]; exact hS.2.1 q h1 h2, fun q hq => by
      rcases List.mem_append.mp hq with h | h
      · exact hS.2.2 q h
      · exact hL q h⟩ hl T' rfl X'
  exact ⟨t2, stp t2 a1, b1⟩
theorem x_pre (C : CF x g own cc nL rm) {H : Heap} {locs : List Loc} {av : List Value} (hP : va_P g.1 vwCl (cells g σ) H) (hS : va_S (fA g) x.2.2.2.2.1.heap H locs) : ∀ U : State, U.heap = H → x.2.2.2.2.1.WarmedH U.vm → va_Pc av (Wp g σ) av.toArray U :=
  fun U hU hW => ⟨rfl, by rw [hU]; exact Nat.le_trans C.bs hS.1, by rw [hU]; exact hP, va_K.moved hW.alike C.K, C.D, nw_warm hW C.nw⟩
/-- a call on an object of the world -/
theorem x_callV (C : CF x g own cc nL rm) {y : MethodName} {cw : Cond} {bytes : ByteArray} {maxL n idx ci : Nat} {ret : Option FieldType} {rm' : Room} {v : Option Value} {σ' : WD} {fs : List Value} {T : u_T} {N : Nat} (k : Nat) (As : List Value)
    (hM : MC x.2.1 g y cw rm' (.ref (adr g k) :: As) σ v σ') (hI : MI y cw bytes maxL n ret) (hg : (cells g σ)[k]? = some (adr g k, .inr (ci, fs))) (hc : vwCl[ci]? = some (y.cls, T, N)) (hl0 : Cond.methodLink own idx y ∈ WS) (hn : As.length = n) (hz : rm'.cells = 0 ∧ rm'.slots = 0) (hR : rm'.frames + 1 ≤ rm.frames ∧ 8 + (maxL + 11) + rm'.locals ≤ rm.locals) (hce : ce ≤ rm.cells ∧ sl ≤ rm.slots) (st0 : List Value) (hst : st0 = As.reverse ++ .ref (adr g k) :: st) (hw : (st.map fun v => v.category).sum ≤ 8)
    (hdg : decode cc pc = .ok (.invokevirtual idx, 3)) (pn : Nat) (hp : pc + 3 = pn) (kk : WW x g nL ce sl pn lv (v.toList ++ st) σ') : WW x g nL ce sl pc lv st0 σ := by
  subst hp
  obtain ⟨h1, h2, h3, h4, h5, h6, h7, h8⟩ := hI
  subst h1
  intro H locs ls hP hS hl
  refine x_call C (va_runV (As := As) (rest := st) (C := y.cls) (bytes := bytes) (maxL := maxL) (ret := ret) ⟨C.ex, C.by, C.ml, C.ow, C.ts⟩ hM ⟨callB_of n C.ts (ws_gi h2) rfl hz.1 hz.2 (C.ts _ h5) (C.ts _ hl0) ⟨h6, h7, h8⟩ (by rw [C.ro]; exact hR), C.ts _ h3, C.ts _ h4⟩ ⟨wp_blind, va_recv C.K hP hc hg, x_pre C hP hS⟩ rfl hn hl.1 hst (lv_room hw) hdg (by rw [C.ro]; exact ⟨by omega, by omega⟩)) hS hl kk
theorem x_callS (C : CF x g own cc nL rm) {y : MethodName} {cw : Cond} {bytes : ByteArray} {maxL n idx : Nat} {ret : Option FieldType} {rm' : Room} {v : Option Value} {σ' : WD} (As : List Value)
    (hM : MC x.2.1 g y cw rm' As σ v σ') (hI : MS y cw bytes maxL n ret) (hl0 : Cond.methodLink own idx y ∈ WS) (hn : As.length = n) (hz : rm'.cells = 0 ∧ rm'.slots = 0) (hR : rm'.frames + 1 ≤ rm.frames ∧ 8 + (maxL + 11) + rm'.locals ≤ rm.locals) (hce : ce ≤ rm.cells ∧ sl ≤ rm.slots) (st0 : List Value) (hst : st0 = As.reverse ++ st) (hw : (st.map fun v => v.category).sum ≤ 8)
    (hdg : decode cc pc = .ok (.invokestatic idx, 3)) (pn : Nat) (hp : pc + 3 = pn) (kk : WW x g nL ce sl pn lv (v.toList ++ st) σ') : WW x g nL ce sl pc lv st0 σ := by
  subst hp
  obtain ⟨h1, h2, h3, h5, h6, h7, h8⟩ := hI
  subst h1
  intro H locs ls hP hS hl
  refine x_call C (va_runS (As := As) (rest := st) (bytes := bytes) (maxL := maxL) (ret := ret) ⟨C.ex, C.by, C.ml, C.ow, C.ts⟩ hM ⟨callB_of n C.ts (ws_gi h2) rfl hz.1 hz.2 (C.ts _ h5) (C.ts _ hl0) ⟨h6, h7, h8⟩ (by rw [C.ro]; exact hR), C.ts _ h3⟩ ⟨wp_blind, x_pre C hP hS⟩ rfl hn hl.1 hst (lv_room hw) hdg (by rw [C.ro]; exact ⟨by omega, by omega⟩)) hS hl kk
theorem x_copy (C : CF x g own cc nL rm) {idx n0 n1 : Nat} (k0 k1 : Nat) (hl0 : Cond.methodLink own idx arraycopyName ∈ WS) (hnat : Cond.native arraycopyName ∈ WS) (hstc : Cond.static arraycopyName ∈ WS) (hini : Cond.initialized "java/lang/System" ∈ WS) (hg0 : (cells g σ)[k0]? = some (adr g k0, .inl (g.2.2.1, n0, .inl (σ.1 k0)))) (hg1 : (cells g σ)[k1]? = some (adr g k1, .inl (g.2.2.1, n1, .inl (σ.1 k1)))) (hs : ∀ f, (cells g σ).set k1 (adr g k1, .inl (g.2.2.1, n1, .inl f)) = cells g (ups σ k1 f)) (hb0 : 12 ≤ n0) (hb1 : 12 ≤ n1) (hfr : 1 ≤ rm.frames) (hlo : (st.map fun v => v.category).sum + (nativeFrameWords "java/lang/System" "arraycopy" 5 + 11) ≤ rm.locals)
    (hdg : decode cc pc = .ok (.invokestatic idx, 3)) (pn : Nat) (hp : pc + 3 = pn) (kk : WW x g nL ce sl pn lv st (ups σ k1 (va_cpy (σ.1 k0) (σ.1 k1) 0 0 12))) : WW x g nL ce sl pc lv (.int 12 :: .int 0 :: .ref (adr g k1) :: .int 0 :: .ref (adr g k0) :: st) σ := by
  subst hp
  exact fun H locs ls hP hS hl => va_copyi C.ex C.by (C.ml.trans hl.1.symm) C.ow (C.ts _ hl0) (C.ts _ hnat) (C.ts _ hstc) (C.ts _ hini) C.K hP (C.D σ) hS k0 k1 0 0 hg0 hg1 rfl rfl rfl (by decide) (by decide) (by decide) hb0 hb1 (fun i _ => rfl) (by rw [C.ro]; exact hfr) (by rw [C.ro]; exact hlo) hdg (fun H1 locs1 hP1 _ hS1 => kk H1 locs1 ls (hs _ ▸ hP1) hS1 hl)
theorem x_dconst0 (C : CF x g own cc nL rm) (hdg : decode cc pc = .ok (.dconst 0, 1)) (pn : Nat) (hp : pc + 1 = pn) (k : WW x g nL ce sl pn lv (.double FP.dconst0 :: st) σ) : WW x g nL ce sl pc lv st σ := by
  subst hp
  exact fun H locs ls hP hS hl => lv_dconst0 C.ex C.by hdg (k H locs ls hP hS hl)
theorem x_mmax (C : CF x g own cc nL rm) {idx : Nat} {a b : Int32} (hl0 : Cond.methodLink own idx yJ9_max_7cf53 ∈ WS) (hs : Cond.static yJ9_max_7cf53 ∈ WS) (hi : Cond.initialized "java/lang/Math" ∈ WS) (hc : Cond.code yJ9_max_7cf53 cJ9_max_7cf53 2 (some .int) ∈ WS) (hfr : 1 ≤ rm.frames) (hlo : (st.map fun v => v.category).sum + 13 ≤ rm.locals) (hce : ce ≤ rm.cells ∧ sl ≤ rm.slots) (hdg : decode cc pc = .ok (.invokestatic idx, 3)) (pn : Nat) (hp : pc + 3 = pn) (kk : WW x g nL ce sl pn lv (.int (if a < b then b else a) :: st) σ) : WW x g nL ce sl pc lv (.int b :: .int a :: st) σ := by
  subst hp
  exact fun H locs ls hP hS hl => va_mmax C.ex C.by (C.ml.trans hl.1.symm) C.ow (C.ts _ hl0) (C.ts _ hs) (C.ts _ hi) (C.ts _ hc) (by rw [C.ro]; exact hfr) (by rw [C.ro]; exact hlo) (by rw [C.ro]; exact hce.1) (by rw [C.ro]; exact hce.2) hdg (kk H locs ls hP hS hl)
theorem x_mmin (C : CF x g own cc nL rm) {idx : Nat} {a b : Int32} (hl0 : Cond.methodLink own idx yJ9_min_7cf53 ∈ WS) (hs : Cond.static yJ9_min_7cf53 ∈ WS) (hi : Cond.initialized "java/lang/Math" ∈ WS) (hc : Cond.code yJ9_min_7cf53 cJ9_min_7cf53 2 (some .int) ∈ WS) (hfr : 1 ≤ rm.frames) (hlo : (st.map fun v => v.category).sum + 13 ≤ rm.locals) (hce : ce ≤ rm.cells ∧ sl ≤ rm.slots) (hdg : decode cc pc = .ok (.invokestatic idx, 3)) (pn : Nat) (hp : pc + 3 = pn) (kk : WW x g nL ce sl pn lv (.int (if b < a then b else a) :: st) σ) : WW x g nL ce sl pc lv (.int b :: .int a :: st) σ := by
  subst hp
  exact fun H locs ls hP hS hl => va_mmin C.ex C.by (C.ml.trans hl.1.symm) C.ow (C.ts _ hl0) (C.ts _ hs) (C.ts _ hi) (C.ts _ hc) (by rw [C.ro]; exact hfr) (by rw [C.ro]; exact hlo) (by rw [C.ro]; exact hce.1) (by rw [C.ro]; exact hce.2) hdg (kk H locs ls hP hS hl)

end XJ
section XK
variable {l : Launch} {g : Gb} {y : MethodName} {cc : ByteArray} {nL : Nat} {rm : Room} {av : List Value} {σ σ' : WD}
theorem MC.of {ret : Option FieldType} {v : Option Value} (hy : plainName y.cls = true) (hn : (lg_sl av).length ≤ nL) (body : ∀ x : Cx, CF x g y.cls cc nL rm → x.2.1 = l → x.2.2.2.2.2.2.2.2.1.sig.returnType = ret → x.2.2.2.2.2.2.2.2.2.2 = MQ x.2.2.2.2.2.2.2.1 (QC g v σ') x.2.2.2.2.2.2.1 x.2.2.2.2.1 0 0 (fA g) → WW x g nL 0 0 0 (lv_args 0 av) [] σ) : MC l g y (.code y cc nL ret) rm av σ v σ' := by
  refine Met.ofW (cc := cc) (maxL := nL) (ret := ret) hy rfl ?_
  intro p e s m args below meth c s₁ B hml hv
  obtain ⟨rfl, q1, q2, q3, q4, q5⟩ := hv
  have hts := atoms_spec (ws := .code y cc nL ret :: WS) B.pre
  have hl := lv_entry av (n := nL) hn
  rw [lg_entry_eq]
  exact body (p, l, e, _, s, m, _, below, meth, c, _) ⟨B.exec, B.bytes, hml, findClass_of_methodNamed B.named, fun w hw => hts w (List.mem_cons_of_mem _ hw), q3, q4, q5, q1, rfl, B.notSynchronized⟩ rfl B.returns rfl s.heap [] _ q2 va_S.rf hl
theorem x_iret {x : Cx} {own : String} {v : Int32} {pc : Nat} {lv : List (Nat × Value)} (C : CF x g own cc nL rm) (hr : x.2.2.2.2.2.2.2.2.1.sig.returnType = some .int) (hq : x.2.2.2.2.2.2.2.2.2.2 = MQ x.2.2.2.2.2.2.2.1 (QC g (some (.int v)) σ') x.2.2.2.2.2.2.1 x.2.2.2.2.1 0 0 (fA g)) (hdg : decode cc pc = .ok (.ireturn, 1)) : WW x g nL 0 0 pc lv [.int v] σ' := by
  intro H locs ls hP hS hl
  rw [hq]
  exact W.iret C.ex C.by hr (fun t ht hW => ⟨⟨rfl, by rw [ht]; exact hP⟩, hS.F ht⟩) hS.2.2 hdg C.lk
theorem x_zret {x : Cx} {own : String} {v : Int32} {pc : Nat} {lv : List (Nat × Value)} (C : CF x g own cc nL rm) (hr : x.2.2.2.2.2.2.2.2.1.sig.returnType = some .boolean) (hq : x.2.2.2.2.2.2.2.2.2.2 = MQ x.2.2.2.2.2.2.2.1 (QC g (some (.int v)) σ') x.2.2.2.2.2.2.1 x.2.2.2.2.1 0 0 (fA g)) (hn : narrow .boolean (.int v) = .int v) (hdg : decode cc pc = .ok (.ireturn, 1)) : WW x g nL 0 0 pc lv [.int v] σ' := by
  intro H locs ls hP hS hl
  rw [hq]
  exact W.zret C.ex C.by hr hn (fun t ht hW => ⟨⟨rfl, by rw [ht]; exact hP⟩, hS.F ht⟩) hS.2.2 hdg C.lk
theorem x_lret {x : Cx} {own : String} {v : Int64} {pc : Nat} {lv : List (Nat × Value)} (C : CF x g own cc nL rm) (hr : x.2.2.2.2.2.2.2.2.1.sig.returnType = some .long) (hq : x.2.2.2.2.2.2.2.2.2.2 = MQ x.2.2.2.2.2.2.2.1 (QC g (some (.long v)) σ') x.2.2.2.2.2.2.1 x.2.2.2.2.1 0 0 (fA g)) (hdg : decode cc pc = .ok (.lreturn, 1)) : WW x g nL 0 0 pc lv [.long v] σ' := by
  intro H locs ls hP hS hl
  rw [hq]
  exact W.lret C.ex C.by hr (fun t ht hW => ⟨⟨rfl, by rw [ht]; exact hP⟩, hS.F ht⟩) hS.2.2 hdg C.lk
theorem x_vret {x : Cx} {own : String} {pc : Nat} {lv : List (Nat × Value)} (C : CF x g own cc nL rm) (hr : x.2.2.2.2.2.2.2.2.1.sig.returnType = none) (hq : x.2.2.2.2.2.2.2.2.2.2 = MQ x.2.2.2.2.2.2.2.1 (QC g none σ') x.2.2.2.2.2.2.1 x.2.2.2.2.1 0 0 (fA g)) (hdg : decode cc pc = .ok (.return_, 1)) : WW x g nL 0 0 pc lv [] σ' := by
  intro H locs ls hP hS hl
  rw [hq]
  exact W.vret C.ex C.by hr (fun t ht hW => ⟨⟨rfl, by rw [ht]; exact hP⟩, hS.F ht⟩) hS.2.2 hdg C.lk
theorem x_aret {x : Cx} {own cn : String} {a pc : Nat} {lv : List (Nat × Value)} (C : CF x g own cc nL rm) (hr : x.2.2.2.2.2.2.2.2.1.sig.returnType = some (.object cn)) (hq : x.2.2.2.2.2.2.2.2.2.2 = MQ x.2.2.2.2.2.2.2.1 (QC g (some (.ref a)) σ') x.2.2.2.2.2.2.1 x.2.2.2.2.1 0 0 (fA g)) (hdg : decode cc pc = .ok (.areturn, 1)) : WW x g nL 0 0 pc lv [.ref a] σ' := by
  intro H locs ls hP hS hl
  rw [hq]
  exact W.aret C.ex C.by hr (Or.inl ⟨_, rfl⟩) (Or.inr ⟨_, rfl⟩) (fun t ht hW => ⟨⟨rfl, by rw [ht]; exact hP⟩, hS.F ht⟩) hS.2.2 hdg C.lk
/-- a double's answer: 0.0, or a quotient of two ints (or any NaN where that is one) -/
def dvl (d : Option (Int32 × Int32)) : UInt64 := match d with | none => FP.dconst0 | some (a, b) => FP.ddiv (FP.i2d a) (FP.i2d b)
def QD (g : Gb) (d : Option (Int32 × Int32)) (σ' : WD) : Array Value → State → Outcome → State → Prop := fun _ s oc t => (∃ r : UInt64, oc = .returned (some (.double r)) ∧ alike64 r (dvl d) = true ∧ va_P g.1 vwCl (cells g σ') t.heap) ∧ va_F (fA g) s t
def MCD (l : Launch) (g : Gb) (y : MethodName) (cw : Cond) (rm : Room) (av : List Value) (σ : WD) (d : Option (Int32 × Int32)) (σ' : WD) : Prop := MetD lw_cs l y (cw :: WS) rm (va_Pc av (Wp g σ)) (QD g d σ') 0 0 (fA g)
theorem MCD.of {ret : Option FieldType} {d : Option (Int32 × Int32)} (hy : plainName y.cls = true) (hn : (lg_sl av).length ≤ nL) (body : ∀ x : Cx, CF x g y.cls cc nL rm → x.2.1 = l → x.2.2.2.2.2.2.2.2.1.sig.returnType = ret → x.2.2.2.2.2.2.2.2.2.2 = MQD lw_cs x.2.2.2.2.2.2.2.1 (QD g d σ') x.2.2.2.2.2.2.1 x.2.2.2.2.1 0 0 (fA g) → WW x g nL 0 0 0 (lv_args 0 av) [] σ) : MCD l g y (.code y cc nL ret) rm av σ d σ' := by
  refine MetD.ofW (cc := cc) (maxL := nL) (ret := ret) hy rfl ?_
  intro p e s m args below meth c s₁ B hml hv _
  obtain ⟨rfl, q1, q2, q3, q4, q5⟩ := hv
  have hts := atoms_spec (ws := .code y cc nL ret :: WS) B.pre
  have hl := lv_entry av (n := nL) hn
  rw [lg_entry_eq]
  exact body (p, l, e, _, s, m, _, below, meth, c, _) ⟨B.exec, B.bytes, hml, findClass_of_methodNamed B.named, fun w hw => hts w (List.mem_cons_of_mem _ hw), q3, q4, q5, q1, rfl, B.notSynchronized⟩ rfl B.returns rfl s.heap [] _ q2 va_S.rf hl
theorem x_dret0 {x : Cx} {own : String} {pc : Nat} {lv : List (Nat × Value)} (C : CF x g own cc nL rm) (hr : x.2.2.2.2.2.2.2.2.1.sig.returnType = some .double) (hq : x.2.2.2.2.2.2.2.2.2.2 = MQD lw_cs x.2.2.2.2.2.2.2.1 (QD g none σ') x.2.2.2.2.2.2.1 x.2.2.2.2.1 0 0 (fA g)) (hdg : decode cc pc = .ok (.dreturn, 1)) : WW x g nL 0 0 pc lv [.double FP.dconst0] σ' := by
  intro H locs ls hP hS hl
  rw [hq]
  refine W.endD (d0 := x.2.2.2.2.1.drawn) (Drawn.sameBut.refl _ _) ?_
  exact W.dret C.ex C.by hr (fun t ht hW => ⟨⟨_, rfl, by simp [alike64, dvl], by rw [ht]; exact hP⟩, hS.F ht⟩) hS.2.2 hdg C.lk
theorem x_ddret {x : Cx} {own : String} {a b : Int32} {pc : Nat} {lv : List (Nat × Value)} (C : CF x g own cc nL rm) (hr : x.2.2.2.2.2.2.2.2.1.sig.returnType = some .double) (hq : x.2.2.2.2.2.2.2.2.2.2 = MQD lw_cs x.2.2.2.2.2.2.2.1 (QD g (some (a, b)) σ') x.2.2.2.2.2.2.1 x.2.2.2.2.1 0 0 (fA g)) (hdg : decode cc pc = .ok (.ddiv, 1)) (hdg2 : decode cc (pc + 1) = .ok (.dreturn, 1)) : WW x g nL 0 0 pc lv [.double (FP.i2d b), .double (FP.i2d a)] σ' := by
  intro H locs ls hP hS hl
  rw [hq]
  refine lv_ddiv_any (d0 := x.2.2.2.2.1.drawn) (cs := lw_cs) (Drawn.sameBut.refl _ _) lw_bits C.ex C.by hdg (fun r d1 hal hd1 => ?_)
  refine W.endD hd1 ?_
  exact W.dret C.ex C.by hr (fun t ht hW => ⟨⟨_, rfl, hal, by rw [ht]; exact hP⟩, hS.F ht⟩) hS.2.2 hdg2 C.lk
end XK
-- the pure side: what may fail, loops
def gi {γ : Type} (i : Int32) (n : Nat) (k : Option γ) : Option γ := if i < 0 ∨ n ≤ i.toNatClampNeg then none else k
def gz {γ : Type} (b : Int32) (k : Option γ) : Option γ := if b = 0 then none else k
def gb {γ : Type} (b : Int32) (k : Option γ) : Option γ := if b = 0 ∨ b = 1 then k else none
def bn {α β γ : Type} (m : Option (α × β)) (k : α → β → Option γ) : Option γ := match m with | some (a, b) => k a b | none => none
def bv {α γ : Type} (m : Option α) (k : α → Option γ) : Option γ := match m with | some a => k a | none => none
/-- of a method that may throw, where it does not -/
def bq {α γ : Type} (m : Option (α ⊕ Nat)) (k : α → Option γ) : Option γ := match m with | some (.inl a) => k a | _ => none
/-- of a method that may throw, in one that passes it on -/
def bx {α γ : Type} (m : Option (α ⊕ Nat)) (k : α → Option (γ ⊕ Nat)) : Option (γ ⊕ Nat) := match m with | some (.inl a) => k a | some (.inr e) => some (.inr e) | none => none
theorem gi_some {γ : Type} {i : Int32} {n : Nat} {k : Option γ} {r : γ} (h : gi i n k = some r) : ¬ (i < 0 ∨ n ≤ i.toNatClampNeg) ∧ k = some r := by
  unfold gi at h
  split at h
  · cases h
  · exact ⟨by assumption, h⟩
theorem gz_some {γ : Type} {b : Int32} {k : Option γ} {r : γ} (h : gz b k = some r) : ¬ b = 0 ∧ k = some r := by
  unfold gz at h
  split at h
  · cases h
  · exact ⟨by assumption, h⟩
theorem gb_some {γ : Type} {b : Int32} {k : Option γ} {r : γ} (h : gb b k = some r) : narrow .boolean (.int b) = .int b ∧ k = some r := by
  unfold gb at h
  split at h
  · rename_i hb
    refine ⟨?_, h⟩
    rcases hb with rfl | rfl <;> rfl
  · cases h
theorem bn_some {α β γ : Type} {m : Option (α × β)} {k : α → β → Option γ} {r : γ} (h : bn m k = some r) : ∃ a b, m = some (a, b) ∧ k a b = some r := by
  unfold bn at h
  split at h
  · exact ⟨_, _, rfl, h⟩
  · cases h
theorem bv_some {α γ : Type} {m : Option α} {k : α → Option γ} {r : γ} (h : bv m k = some r) : ∃ a, m = some a ∧ k a = some r := by
  unfold bv at h
  split at h
  · exact ⟨_, rfl, h⟩
  · cases h
theorem bq_some {α γ : Type} {m : Option (α ⊕ Nat)} {k : α → Option γ} {r : γ} (h : bq m k = some r) : ∃ a, m = some (.inl a) ∧ k a = some r := by
  unfold bq at h
  split at h
  · exact ⟨_, rfl, h⟩
  · cases h
theorem bx_inl {α γ : Type} {m : Option (α ⊕ Nat)} {k : α → Option (γ ⊕ Nat)} {r : γ} (h : bx m k = some (.inl r)) : ∃ a, m = some (.inl a) ∧ k a = some (.inl r) := by
  unfold bx at h
  split at h
  · exact ⟨_, rfl, h⟩
  · cases h
  · cases h
theorem bx_inr {α γ : Type} {m : Option (α ⊕ Nat)} {k : α → Option (γ ⊕ Nat)} {e : Nat} (h : bx m k = some (.inr e)) : m = some (.inr e) ∨ ∃ a, m = some (.inl a) ∧ k a = some (.inr e) := by
  unfold bx at h
  split at h
  · exact Or.inr ⟨_, rfl, h⟩
  · cases h; exact Or.inl rfl
  · cases h
def ml {γ : Type} (m : Option γ) : Option (γ ⊕ Nat) := m.map .inl
theorem ml_inl {γ : Type} {m : Option γ} {r : γ} (h : ml m = some (.inl r)) : m = some r := by
  cases m with
  | none => cases h
  | some a => cases h; rfl
theorem ml_inr {γ : Type} {m : Option γ} {e : Nat} (h : ml m = some (.inr e)) : False := by
  cases m with
  | none => cases h
  | some a => cases h
def mr {σ1 γ : Type} (m : Option γ) : Option (σ1 ⊕ γ) := m.map .inr
theorem mr_some {σ1 γ : Type} {m : Option γ} {t : σ1 ⊕ γ} (h : mr m = some t) : ∃ r, m = some r ∧ t = .inr r := by
  cases m with
  | none => cases h
  | some a => cases h; exact ⟨a, rfl, rfl⟩
theorem ip {c : Prop} {_ : Decidable c} {γ : Type} {a b : Option γ} {t : γ} (hc : c) (h : (if c then a else b) = some t) : a = some t := (if_pos hc).symm.trans h
theorem iq {c : Prop} {_ : Decidable c} {γ : Type} {a b : Option γ} {t : γ} (hc : ¬ c) (h : (if c then a else b) = some t) : b = some t := (if_neg hc).symm.trans h
/-- a loop, n rounds at most -/
def lpn {σ1 ρ : Type} (f : σ1 → Option (σ1 ⊕ ρ)) : Nat → σ1 → Option ρ
  | 0, _ => none
  | n + 1, s => match f s with
    | some (.inl s') => lpn f n s'
    | some (.inr r) => some r
    | none => none
theorem lpn_mono {σ1 ρ : Type} {f : σ1 → Option (σ1 ⊕ ρ)} : ∀ {n : Nat} {s : σ1} {r : ρ}, lpn f n s = some r → ∀ m, n ≤ m → lpn f m s = some r
  | 0, _, _, h, _, _ => by cases h
  | n + 1, s, r, h, m, hm => by
    obtain ⟨m, rfl⟩ : ∃ k, m = k + 1 := ⟨m - 1, by omega⟩
    unfold lpn at h ⊢
    split at h
    · exact lpn_mono h m (by omega)
    · exact h
    · cases h
/-- a loop, as long as it needs; none if it never ends, or fails -/
noncomputable def lp {σ1 ρ : Type} (f : σ1 → Option (σ1 ⊕ ρ)) (s : σ1) : Option ρ := by
  classical
  exact if h : ∃ n r, lpn f n s = some r then some h.choose_spec.choose else none
theorem lp_of {σ1 ρ : Type} {f : σ1 → Option (σ1 ⊕ ρ)} {s : σ1} {r : ρ} {n : Nat} (h : lpn f n s = some r) : lp f s = some r := by
  have hx : ∃ n r, lpn f n s = some r := ⟨n, r, h⟩
  unfold lp
  rw [dif_pos hx]
  have h2 := hx.choose_spec.choose_spec
  have a := lpn_mono h (max n hx.choose) (by omega)
  have b := lpn_mono h2 (max n hx.choose) (by omega)
  rw [a] at b
  exact b.symm
theorem lp_ex {σ1 ρ : Type} {f : σ1 → Option (σ1 ⊕ ρ)} {s : σ1} {r : ρ} (h : lp f s = some r) : ∃ n, lpn f n s = some r := by
  unfold lp at h
  split at h
  · rename_i hx
    cases h
    exact ⟨_, hx.choose_spec.choose_spec⟩
  · cases h
theorem lp_ind {σ1 ρ : Type} {f : σ1 → Option (σ1 ⊕ ρ)} (P : σ1 → Prop) (E : ρ → Prop) {s : σ1} {t : ρ} (h : lp f s = some t) (ht : E t) (step : ∀ s y, f s = some y → Sum.elim P E y → P s) : P s := by
  obtain ⟨n, hn⟩ := lp_ex h
  clear h
  induction n generalizing s with
  | zero => cases hn
  | succ n ih =>
    unfold lpn at hn
    split at hn
    · rename_i e
      exact step s _ e (ih hn)
    · rename_i e
      cases hn
      exact step s _ e ht
    · cases hn
theorem lp_go {σ1 ρ : Type} {f : σ1 → Option (σ1 ⊕ ρ)} {s s' : σ1} (h : f s = some (.inl s')) : lp f s = lp f s' := by
  by_cases hx : ∃ r, lp f s' = some r
  · obtain ⟨r, hr⟩ := hx
    obtain ⟨n, hn⟩ := lp_ex hr
    rw [hr]
    exact lp_of (n := n + 1) (by unfold lpn; rw [h]; exact hn)
  · have h1 : lp f s' = none := by
      cases e : lp f s' with
      | none => rfl
      | some r => exact absurd ⟨r, e⟩ hx
    rw [h1]
    cases e : lp f s with
    | none => rfl
    | some r =>
      obtain ⟨n, hn⟩ := lp_ex e
      cases n with
      | zero => cases hn
      | succ n =>
        unfold lpn at hn
        rw [h] at hn
        exact absurd ⟨r, lp_of hn⟩ hx
theorem lp_end {σ1 ρ : Type} {f : σ1 → Option (σ1 ⊕ ρ)} {s : σ1} {r : ρ} (h : f s = some (.inr r)) : lp f s = some r := lp_of (n := 1) (by unfold lpn; rw [h])
