set_option maxHeartbeats 4000000 in
set_option maxRecDepth 100000 in
theorem w_fill {x : Cx} {g : Gb} (C : CF x g RJ7 cJ7_fill_53178 4 (rmk 1 1)) (k n : Nat) (hn : n < 2 ^ 31) (hgt : ∀ σ, (cells g σ)[k]? = some (adr g k, .inl (g.2.2.1, n, .inl (σ.1 k)))) (hst : ∀ (σ : WD) (f : Nat → Int32), (cells g σ).set k (adr g k, .inl (g.2.2.1, n, .inl f)) = cells g (ups σ k f)) (v : Int32) {σ : WD}
    (hE : ∀ pc lv, decode cJ7_fill_53178 pc = .ok (.return_, 1) → WW x g 4 0 0 pc lv [] (ups σ k (fillf (σ.1 k) n v))) : ∀ m i, n - i = m → i ≤ n → WW x g 4 0 0 5 [(0, .ref (adr g k)), (1, .int v), (2, .int (nI i)), (3, .int (nI n))] [] (ups σ k (fillf (σ.1 k) i v)) := by
  intro m
  induction m with
  | zero =>
    intro i hm hi
    obtain rfl : i = n := by omega
    refine x_iload_n C dJ7_fill_53178_5 rfl 2 rfl 6 rfl ?_
    refine x_iload_n C dJ7_fill_53178_6 rfl 3 rfl 7 rfl ?_
    refine x_icmp_ge C dJ7_fill_53178_7 20 (by decide) 10 rfl (fun hc => ?_) (fun hc => ?_)
    · exact hE 20 _ dJ7_fill_53178_20
    · exact absurd (nI_le (Nat.le_refl i) hn) hc
  | succ m ih =>
    intro i hm hi
    have hlt : i < n := by omega
    refine x_iload_n C dJ7_fill_53178_5 rfl 2 rfl 6 rfl ?_
    refine x_iload_n C dJ7_fill_53178_6 rfl 3 rfl 7 rfl ?_
    refine x_icmp_ge C dJ7_fill_53178_7 20 (by decide) 10 rfl (fun hc => ?_) (fun hc => ?_)
    · exact absurd hc (nI_ge hlt hn)
    · refine x_aload_n C dJ7_fill_53178_10 rfl 0 rfl 11 rfl ?_
      refine x_iload_n C dJ7_fill_53178_11 rfl 2 rfl 12 rfl ?_
      refine x_iload_n C dJ7_fill_53178_12 rfl 1 rfl 13 rfl ?_
      refine x_iast C k (hgt _) (hst _) (nI_in hlt hn) dJ7_fill_53178_13 14 rfl ?_
      refine x_iinc C [(2, .int (nI (i + 1))), (0, .ref (adr g k)), (1, .int v), (3, .int (nI n))] dJ7_fill_53178_14 2 rfl (by rw [nI_succ]; rfl) (by decide) rfl 17 rfl ?_
      refine x_goto C dJ7_fill_53178_17 5 (by decide) ?_
      refine x_sub [1, 2, 0, 3] rfl ?_
      have e : upi (ups σ k (fillf (σ.1 k) i v)) k (nI i).toNatClampNeg v = ups σ k (fillf (σ.1 k) (i + 1) v) := by
        unfold upi
        rw [ups_ups, ups_self, nI_clamp (by omega), fillf_succ]
      rw [e]
      exact ih (i + 1) (by omega) hlt
set_option maxHeartbeats 4000000 in
set_option maxRecDepth 100000 in
theorem c_fill {l : Launch} {g : Gb} (k n : Nat) (hn : n < 2 ^ 31) (hgt : ∀ σ, (cells g σ)[k]? = some (adr g k, .inl (g.2.2.1, n, .inl (σ.1 k)))) (hst : ∀ (σ : WD) (f : Nat → Int32), (cells g σ).set k (adr g k, .inl (g.2.2.1, n, .inl f)) = cells g (ups σ k f)) (v : Int32) {σ : WD} : MC l g yJ7_fill_53178 (.code yJ7_fill_53178 cJ7_fill_53178 4 none) (rmk 1 1) [.ref (adr g k), .int v] σ none (ups σ k (fillf (σ.1 k) n v)) := by
  refine MC.of (by decide) (Nat.le_of_ble_eq_true rfl) (fun x C hl hr hq => ?_)
  subst hl
  show WW x g 4 0 0 0 [(0, .ref (adr g k)), (1, .int v)] [] σ
  refine x_iconst C (v := 0) dJ7_fill_53178_0 (by decide) 1 rfl ?_
  refine x_istore_n C [(2, .int 0), (0, .ref (adr g k)), (1, .int v)] dJ7_fill_53178_1 rfl (by decide) rfl 2 rfl ?_
  refine x_aload_n C dJ7_fill_53178_2 rfl 1 rfl 3 rfl ?_
  refine x_alen C k (hgt _) (v := nI n) rfl dJ7_fill_53178_3 4 rfl ?_
  refine x_istore_n C [(3, .int (nI n)), (2, .int 0), (0, .ref (adr g k)), (1, .int v)] dJ7_fill_53178_4 rfl (by decide) rfl 5 rfl ?_
  refine x_sub [2, 3, 1, 0] rfl ?_
  have h := w_fill C k n hn hgt hst v (σ := σ) (fun pc lv hd => x_vret C hr hq hd) n 0 (by omega) (by omega)
  rw [fillf_zero, ups_id] at h
  exact h
set_option maxHeartbeats 4000000 in
set_option maxRecDepth 100000 in
theorem w_X0_clear {x : Cx} {g : Gb} {E : WD → Prop} (C : CF x g RX0 cX0_clear 2 (rmk 2 44))  {a1 : Int32} {σ : WD} (hE : ∀ (s2 : WD), E s2 → ∀ pc lv, decode cX0_clear pc = .ok (.return_, 1) → WW x g 2 0 0 pc lv [] s2) {t : WD} (h : f_X0_clear a1 σ = some t) (ht : E t) : WW x g 2 0 0 0 [(0, .ref (adr g 1)), (1, .int a1)] [] σ := by
  unfold f_X0_clear at h
  refine x_aload_n C dX0_clear_0 rfl 0 rfl 1 rfl ?_
  refine x_iload_n C dX0_clear_1 rfl 1 rfl 2 rfl ?_
  refine pf_33_1 C dX0_clear_2 5 rfl ?_
  obtain ⟨σ2, e2, h⟩ := lt_some h
  refine x_we e2 ?_
  refine x_aload_n C dX0_clear_5 rfl 0 rfl 6 rfl ?_
  refine gf_37_1 C dX0_clear_6 9 rfl ?_
  refine x_iconst C (v := 0) dX0_clear_9 (by decide) 10 rfl ?_
  refine x_callS C [.ref (adr g 2), .int 0] (c_fill 2 12 (by decide) (fun σ => (gt_2 g σ)) (fun σ => (st_2 g σ)) 0) mi_J7_fill_53178 q_570 rfl ⟨rfl, rfl⟩ (by decide) (by decide) _ rfl (Nat.le_of_ble_eq_true rfl) dX0_clear_10 13 rfl ?_
  obtain ⟨σ10, e10, h⟩ := lt_some h
  refine x_we e10 ?_
  refine x_aload_n C dX0_clear_13 rfl 0 rfl 14 rfl ?_
  refine x_dup C dX0_clear_14 rfl 15 rfl ?_
  refine gf_41_1 C dX0_clear_15 18 rfl ?_
  refine x_iconst C (v := 1) dX0_clear_18 (by decide) 19 rfl ?_
  refine x_iadd C dX0_clear_19 20 rfl ?_
  refine pf_41_1 C dX0_clear_20 23 rfl ?_
  obtain ⟨σ20, e20, h⟩ := lt_some h
  refine x_we e20 ?_
  cases h
  exact hE _ ht 23 _ dX0_clear_23
set_option maxHeartbeats 4000000 in
set_option maxRecDepth 100000 in
theorem c_X0_clear {g : Gb} {l : Launch}  {a1 : Int32} {σ : WD} {σ2 : WD} (h : f_X0_clear a1 σ = some σ2) : MC l g yX0_clear (.code yX0_clear cX0_clear 2 none) (rmk 2 44) [.ref (adr g 1), .int a1] σ none σ2 := by
  refine MC.of (by decide) (Nat.le_of_ble_eq_true rfl) (fun x C hl hr hq => ?_)
  subst hl
  exact w_X0_clear (E := fun z => z = σ2) C  (fun a he pc lv hd => by cases he; exact x_vret C hr hq hd) h rfl
set_option maxHeartbeats 4000000 in
set_option maxRecDepth 100000 in
theorem w_X0_joined {x : Cx} {g : Gb} {E : Int32 → Prop} (C : CF x g RX0 cX0_joined 3 (rmk 1 1))  {a1 : Int32} {a2 : Int32} {σ : WD} (hE : ∀ (a : Int32), E a → ∀ pc lv, narrow .boolean (.int a) = .int a → decode cX0_joined pc = .ok (.ireturn, 1) → WW x g 3 0 0 pc lv [.int a] σ) {t : Int32} (h : f_X0_joined a1 a2 σ = some t) (ht : E t) : WW x g 3 0 0 0 [(0, .ref (adr g 1)), (1, .int a1), (2, .int a2)] [] σ := by
  unfold f_X0_joined at h
  refine x_aload_n C dX0_joined_0 rfl 0 rfl 1 rfl ?_
  refine gf_37_1 C dX0_joined_1 4 rfl ?_
  refine x_iload_n C dX0_joined_4 rfl 1 rfl 5 rfl ?_
  obtain ⟨hin, h⟩ := gi_some h
  refine x_iald C 2 (gt_2 g _) hin dX0_joined_5 6 rfl ?_
  refine x_iload_n C dX0_joined_6 rfl 2 rfl 7 rfl ?_
  refine x_ishr C dX0_joined_7 8 rfl ?_
  refine x_iconst C (v := 1) dX0_joined_8 (by decide) 9 rfl ?_
  refine x_iand C dX0_joined_9 10 rfl ?_
  refine x_if_eq C dX0_joined_10 17 (by decide) 13 rfl (fun hc => ?_) (fun hc => ?_)
  · have h := ip hc h
    refine x_iconst C (v := 0) dX0_joined_17 (by decide) 18 rfl ?_
    cases h
    exact hE _ ht 18 _ rfl dX0_joined_18
  · have h := iq hc h
    refine x_iconst C (v := 1) dX0_joined_13 (by decide) 14 rfl ?_
    refine x_goto C dX0_joined_14 18 (by decide) ?_
    cases h
    exact hE _ ht 18 _ rfl dX0_joined_18
set_option maxHeartbeats 4000000 in
set_option maxRecDepth 100000 in
theorem c_X0_joined {g : Gb} {l : Launch}  {a1 : Int32} {a2 : Int32} {σ : WD} {r : Int32} (h : f_X0_joined a1 a2 σ = some r) : MC l g yX0_joined (.code yX0_joined cX0_joined 3 (some (.boolean))) (rmk 1 1) [.ref (adr g 1), .int a1, .int a2] σ (some (.int r)) σ := by
  refine MC.of (by decide) (Nat.le_of_ble_eq_true rfl) (fun x C hl hr hq => ?_)
  subst hl
  exact w_X0_joined (E := fun z => z = r) C  (fun a he pc lv hn hd => by cases he; exact x_zret C hr hq hn hd) h rfl
set_option maxHeartbeats 4000000 in
set_option maxRecDepth 100000 in
theorem w_X0_put {x : Cx} {g : Gb} {E : WD → Prop} (C : CF x g RX0 cX0_put 4 (rmk 2 24))  {a1 : Int32} {a2 : Int32} {a3 : Int32} {σ : WD} (hE : ∀ (s2 : WD), E s2 → ∀ pc lv, decode cX0_put pc = .ok (.return_, 1) → WW x g 4 0 0 pc lv [] s2) {t : WD} (h : f_X0_put a1 a2 a3 σ = some t) (ht : E t) : WW x g 4 0 0 0 [(0, .ref (adr g 1)), (1, .int a1), (2, .int a2), (3, .int a3)] [] σ := by
  unfold f_X0_put at h
  refine x_aload_n C dX0_put_0 rfl 0 rfl 1 rfl ?_
  refine x_iload_n C dX0_put_1 rfl 1 rfl 2 rfl ?_
  refine x_iload_n C dX0_put_2 rfl 2 rfl 3 rfl ?_
  obtain ⟨r3, h3, h⟩ := bv_some h
  refine x_callV C 1 [.int a1, .int a2] (c_X0_joined  h3) mi_X0_joined (gt_1 g _) rfl q_575 rfl ⟨rfl, rfl⟩ ⟨Nat.le_of_ble_eq_true rfl, Nat.le_of_ble_eq_true rfl⟩ ⟨Nat.zero_le _, Nat.zero_le _⟩ _ rfl (Nat.le_of_ble_eq_true rfl) dX0_put_3 6 rfl ?_
  refine x_iload_n C dX0_put_6 rfl 3 rfl 7 rfl ?_
  refine x_icmp_eq C dX0_put_7 44 (by decide) 10 rfl (fun hc => ?_) (fun hc => ?_)
  · have h := ip hc h
    cases h
    exact hE _ ht 44 _ dX0_put_44
  · have h := iq hc h
    refine x_aload_n C dX0_put_10 rfl 0 rfl 11 rfl ?_
    refine gf_37_1 C dX0_put_11 14 rfl ?_
    refine x_iload_n C dX0_put_14 rfl 1 rfl 15 rfl ?_
    refine x_dup2 C dX0_put_15 rfl rfl 16 rfl ?_
    obtain ⟨hin, h⟩ := gi_some h
    refine x_iald C 2 (gt_2 g _) hin dX0_put_16 17 rfl ?_
    refine x_iconst C (v := 1) dX0_put_17 (by decide) 18 rfl ?_
    refine x_iload_n C dX0_put_18 rfl 2 rfl 19 rfl ?_
    refine x_ishl C dX0_put_19 20 rfl ?_
    refine x_ixor C dX0_put_20 21 rfl ?_
    obtain ⟨hin, h⟩ := gi_some h
    refine x_iast C 2 (gt_2 g _) (st_2 g _) hin dX0_put_21 22 rfl ?_
    obtain ⟨σ21, e21, h⟩ := lt_some h
    refine x_we e21 ?_
    refine x_aload_n C dX0_put_22 rfl 0 rfl 23 rfl ?_
    refine gf_37_1 C dX0_put_23 26 rfl ?_
    refine x_iload_n C dX0_put_26 rfl 2 rfl 27 rfl ?_
    refine x_dup2 C dX0_put_27 rfl rfl 28 rfl ?_
    obtain ⟨hin, h⟩ := gi_some h
    refine x_iald C 2 (gt_2 g _) hin dX0_put_28 29 rfl ?_
    refine x_iconst C (v := 1) dX0_put_29 (by decide) 30 rfl ?_
    refine x_iload_n C dX0_put_30 rfl 1 rfl 31 rfl ?_
    refine x_ishl C dX0_put_31 32 rfl ?_
    refine x_ixor C dX0_put_32 33 rfl ?_
    obtain ⟨hin, h⟩ := gi_some h
    refine x_iast C 2 (gt_2 g _) (st_2 g _) hin dX0_put_33 34 rfl ?_
    obtain ⟨σ33, e33, h⟩ := lt_some h
    refine x_we e33 ?_
    refine x_aload_n C dX0_put_34 rfl 0 rfl 35 rfl ?_
    refine x_dup C dX0_put_35 rfl 36 rfl ?_
    refine gf_41_1 C dX0_put_36 39 rfl ?_
    refine x_iconst C (v := 1) dX0_put_39 (by decide) 40 rfl ?_
    refine x_iadd C dX0_put_40 41 rfl ?_
    refine pf_41_1 C dX0_put_41 44 rfl ?_
    obtain ⟨σ41, e41, h⟩ := lt_some h
    refine x_we e41 ?_
    cases h
    exact hE _ ht 44 _ dX0_put_44
set_option maxHeartbeats 4000000 in
set_option maxRecDepth 100000 in
theorem c_X0_put {g : Gb} {l : Launch}  {a1 : Int32} {a2 : Int32} {a3 : Int32} {σ : WD} {σ2 : WD} (h : f_X0_put a1 a2 a3 σ = some σ2) : MC l g yX0_put (.code yX0_put cX0_put 4 none) (rmk 2 24) [.ref (adr g 1), .int a1, .int a2, .int a3] σ none σ2 := by
  refine MC.of (by decide) (Nat.le_of_ble_eq_true rfl) (fun x C hl hr hq => ?_)
  subst hl
  exact w_X0_put (E := fun z => z = σ2) C  (fun a he pc lv hd => by cases he; exact x_vret C hr hq hd) h rfl
set_option maxHeartbeats 4000000 in
set_option maxRecDepth 100000 in
theorem w_X0_all {x : Cx} {g : Gb} {E : Int32 → Prop} (C : CF x g RX0 cX0_all 1 (rmk 1 1))   {σ : WD} (hE : ∀ (a : Int32), E a → ∀ pc lv, decode cX0_all pc = .ok (.ireturn, 1) → WW x g 1 0 0 pc lv [.int a] σ) {t : Int32} (h : f_X0_all  σ = some t) (ht : E t) : WW x g 1 0 0 0 [(0, .ref (adr g 1))] [] σ := by
  unfold f_X0_all at h
  refine x_iconst C (v := 1) dX0_all_0 (by decide) 1 rfl ?_
  refine x_aload_n C dX0_all_1 rfl 0 rfl 2 rfl ?_
  refine gf_33_1 C dX0_all_2 5 rfl ?_
  refine x_ishl C dX0_all_5 6 rfl ?_
  refine x_iconst C (v := 1) dX0_all_6 (by decide) 7 rfl ?_
  refine x_isub C dX0_all_7 8 rfl ?_
  cases h
  exact hE _ ht 8 _ dX0_all_8
set_option maxHeartbeats 4000000 in
set_option maxRecDepth 100000 in
theorem c_X0_all {g : Gb} {l : Launch}   {σ : WD} {r : Int32} (h : f_X0_all  σ = some r) : MC l g yX0_all (.code yX0_all cX0_all 1 (some (.int))) (rmk 1 1) [.ref (adr g 1)] σ (some (.int r)) σ := by
  refine MC.of (by decide) (Nat.le_of_ble_eq_true rfl) (fun x C hl hr hq => ?_)
  subst hl
  exact w_X0_all (E := fun z => z = r) C  (fun a he pc lv hd => by cases he; exact x_iret C hr hq hd) h rfl
set_option maxHeartbeats 4000000 in
set_option maxRecDepth 100000 in
theorem w_X0_copyFrom_r9 {x : Cx} {g : Gb} {E : WD → Prop} (C : CF x g RX0 cX0_copyFrom 2 (rmk 2 61)) {j1 : Nat} (hj1 : j1 < 4)  {σ : WD} (hE : ∀ (s2 : WD), E s2 → ∀ pc lv, decode cX0_copyFrom pc = .ok (.return_, 1) → WW x g 2 0 0 pc lv [] s2) {t : WD} (h : f_X0_copyFrom_r9 j1 σ = some t) (ht : E t) : WW x g 2 0 0 0 [(0, .ref (adr g 1)), (1, .ref (adr g (9 + j1)))] [] σ := by
  unfold f_X0_copyFrom_r9 at h
  refine x_aload_n C dX0_copyFrom_0 rfl 1 rfl 1 rfl ?_
  refine x_iconst C (v := 0) dX0_copyFrom_1 (by decide) 2 rfl ?_
  refine x_aload_n C dX0_copyFrom_2 rfl 0 rfl 3 rfl ?_
  refine gf_37_1 C dX0_copyFrom_3 6 rfl ?_
  refine x_iconst C (v := 0) dX0_copyFrom_6 (by decide) 7 rfl ?_
  refine x_bipush C (v := 12) dX0_copyFrom_7 (by decide) 9 rfl ?_
  refine x_copy C (9 + j1) 2 q_689 q_214 q_213 q_15 (gt_r9 g _ hj1) (gt_2 g _) (st_2 g _) (by decide) (by decide) (by decide) (by decide) dX0_copyFrom_9 12 rfl ?_
  obtain ⟨σ9, e9, h⟩ := lt_some h
  refine x_we e9 ?_
  refine x_aload_n C dX0_copyFrom_12 rfl 0 rfl 13 rfl ?_
  refine x_dup C dX0_copyFrom_13 rfl 14 rfl ?_
  refine gf_41_1 C dX0_copyFrom_14 17 rfl ?_
  refine x_iconst C (v := 1) dX0_copyFrom_17 (by decide) 18 rfl ?_
  refine x_iadd C dX0_copyFrom_18 19 rfl ?_
  refine pf_41_1 C dX0_copyFrom_19 22 rfl ?_
  obtain ⟨σ19, e19, h⟩ := lt_some h
  refine x_we e19 ?_
  cases h
  exact hE _ ht 22 _ dX0_copyFrom_22
set_option maxHeartbeats 4000000 in
set_option maxRecDepth 100000 in
theorem c_X0_copyFrom_r9 {g : Gb} {l : Launch} {j1 : Nat} (hj1 : j1 < 4)  {σ : WD} {σ2 : WD} (h : f_X0_copyFrom_r9 j1 σ = some σ2) : MC l g yX0_copyFrom (.code yX0_copyFrom cX0_copyFrom 2 none) (rmk 2 61) [.ref (adr g 1), .ref (adr g (9 + j1))] σ none σ2 := by
  refine MC.of (by decide) (Nat.le_of_ble_eq_true rfl) (fun x C hl hr hq => ?_)
  subst hl
  exact w_X0_copyFrom_r9 (E := fun z => z = σ2) C hj1 (fun a he pc lv hd => by cases he; exact x_vret C hr hq hd) h rfl
set_option maxHeartbeats 4000000 in
set_option maxRecDepth 100000 in
theorem w_X0_besides_b4 {x : Cx} {g : Gb} {E : (Int32 × Int32) ⊕ (Int32) → Prop} (C : CF x g RX0 cX0_besides 4 (rmk 1 1))  {l1 : Int32} {l2 : Int32} {l3 : Int32} {σ : WD} (hI0 : ∀ s, E (.inl s) → WW x g 4 0 0 4 [(0, .ref (adr g 1)), (1, .int l1), (2, .int s.1), (3, .int s.2)] [] σ) (hE : ∀ (a : Int32), E (.inr a) → ∀ pc lv, decode cX0_besides pc = .ok (.ireturn, 1) → WW x g 4 0 0 pc lv [.int a] σ) {t : (Int32 × Int32) ⊕ (Int32)} (h : f_X0_besides_b4 l1 l2 l3 σ = some t) (ht : E t) : WW x g 4 0 0 4 [(0, .ref (adr g 1)), (1, .int l1), (2, .int l2), (3, .int l3)] [] σ := by
  unfold f_X0_besides_b4 at h
  refine x_iload_n C dX0_besides_4 rfl 3 rfl 5 rfl ?_
  refine x_aload_n C dX0_besides_5 rfl 0 rfl 6 rfl ?_
  refine gf_33_1 C dX0_besides_6 9 rfl ?_
  refine x_icmp_ge C dX0_besides_9 35 (by decide) 12 rfl (fun hc => ?_) (fun hc => ?_)
  · have h := ip hc h
    refine x_iload_n C dX0_besides_35 rfl 2 rfl 36 rfl ?_
    cases h
    exact hE _ ht 36 _ dX0_besides_36
  · have h := iq hc h
    refine x_iload_n C dX0_besides_12 rfl 1 rfl 13 rfl ?_
    refine x_iload_n C dX0_besides_13 rfl 3 rfl 14 rfl ?_
    refine x_ishr C dX0_besides_14 15 rfl ?_
    refine x_iconst C (v := 1) dX0_besides_15 (by decide) 16 rfl ?_
    refine x_iand C dX0_besides_16 17 rfl ?_
    refine x_if_eq C dX0_besides_17 29 (by decide) 20 rfl (fun hc => ?_) (fun hc => ?_)
    · have h := ip hc h
      refine x_iinc C [(3, .int (l3 + 1)), (0, .ref (adr g 1)), (1, .int l1), (2, .int l2)] dX0_besides_29 3 rfl rfl (by decide) rfl 32 rfl ?_
      refine x_goto C dX0_besides_32 4 (by decide) ?_
      cases h
      exact x_sub [1, 2, 3, 0] rfl (hI0 (l2, (l3 + 1)) ht)
    · have h := iq hc h
      refine x_iload_n C dX0_besides_20 rfl 2 rfl 21 rfl ?_
      refine x_aload_n C dX0_besides_21 rfl 0 rfl 22 rfl ?_
      refine gf_37_1 C dX0_besides_22 25 rfl ?_
      refine x_iload_n C dX0_besides_25 rfl 3 rfl 26 rfl ?_
      obtain ⟨hin, h⟩ := gi_some h
      refine x_iald C 2 (gt_2 g _) hin dX0_besides_26 27 rfl ?_
      refine x_ior C dX0_besides_27 28 rfl ?_
      obtain ⟨v28, e28, h⟩ := li_some h
      refine x_te e28 ?_
      refine x_istore_n C [(2, .int v28), (0, .ref (adr g 1)), (1, .int l1), (3, .int l3)] dX0_besides_28 rfl (by decide) rfl 29 rfl ?_
      refine x_iinc C [(3, .int (l3 + 1)), (2, .int v28), (0, .ref (adr g 1)), (1, .int l1)] dX0_besides_29 3 rfl rfl (by decide) rfl 32 rfl ?_
      refine x_goto C dX0_besides_32 4 (by decide) ?_
      cases h
      exact x_sub [2, 3, 1, 0] rfl (hI0 (v28, (l3 + 1)) ht)
set_option maxHeartbeats 4000000 in
set_option maxRecDepth 100000 in
theorem w_X0_besides_4 {x : Cx} {g : Gb} {E : Int32 → Prop} (C : CF x g RX0 cX0_besides 4 (rmk 1 1))  {l1 : Int32} {l2 : Int32} {l3 : Int32} {σ : WD} (hE : ∀ (a : Int32), E a → ∀ pc lv, decode cX0_besides pc = .ok (.ireturn, 1) → WW x g 4 0 0 pc lv [.int a] σ) {t : Int32} (h : f_X0_besides_4 l1 l2 l3 σ = some t) (ht : E t) : WW x g 4 0 0 4 [(0, .ref (adr g 1)), (1, .int l1), (2, .int l2), (3, .int l3)] [] σ := by
  unfold f_X0_besides_4 at h
  exact lp_ind (fun s : Int32 × Int32 => WW x g 4 0 0 4 [(0, .ref (adr g 1)), (1, .int l1), (2, .int s.1), (3, .int s.2)] [] σ) E h ht (fun s y hb hy => w_X0_besides_b4 (E := Sum.elim (fun s : Int32 × Int32 => WW x g 4 0 0 4 [(0, .ref (adr g 1)), (1, .int l1), (2, .int s.1), (3, .int s.2)] [] σ) E) C  (fun _ h => h)  hE hb hy)
set_option maxHeartbeats 4000000 in
set_option maxRecDepth 100000 in
theorem w_X0_besides {x : Cx} {g : Gb} {E : Int32 → Prop} (C : CF x g RX0 cX0_besides 4 (rmk 1 1))  {a1 : Int32} {σ : WD} (hE : ∀ (a : Int32), E a → ∀ pc lv, decode cX0_besides pc = .ok (.ireturn, 1) → WW x g 4 0 0 pc lv [.int a] σ) {t : Int32} (h : f_X0_besides a1 σ = some t) (ht : E t) : WW x g 4 0 0 0 [(0, .ref (adr g 1)), (1, .int a1)] [] σ := by
  unfold f_X0_besides at h
  refine x_iconst C (v := 0) dX0_besides_0 (by decide) 1 rfl ?_
  refine x_istore_n C [(2, .int 0), (0, .ref (adr g 1)), (1, .int a1)] dX0_besides_1 rfl (by decide) rfl 2 rfl ?_
  refine x_iconst C (v := 0) dX0_besides_2 (by decide) 3 rfl ?_
  refine x_istore_n C [(3, .int 0), (2, .int 0), (0, .ref (adr g 1)), (1, .int a1)] dX0_besides_3 rfl (by decide) rfl 4 rfl ?_
  exact x_sub [2, 3, 1, 0] rfl (w_X0_besides_4 C  hE h ht)
set_option maxHeartbeats 4000000 in
set_option maxRecDepth 100000 in
theorem c_X0_besides {g : Gb} {l : Launch}  {a1 : Int32} {σ : WD} {r : Int32} (h : f_X0_besides a1 σ = some r) : MC l g yX0_besides (.code yX0_besides cX0_besides 4 (some (.int))) (rmk 1 1) [.ref (adr g 1), .int a1] σ (some (.int r)) σ := by
  refine MC.of (by decide) (Nat.le_of_ble_eq_true rfl) (fun x C hl hr hq => ?_)
  subst hl
  exact w_X0_besides (E := fun z => z = r) C  (fun a he pc lv hd => by cases he; exact x_iret C hr hq hd) h rfl
set_option maxHeartbeats 4000000 in
set_option maxRecDepth 100000 in
theorem w_X0_shortestOddWalk_b6 {x : Cx} {g : Gb} {E : (Int32 × Int32) ⊕ (Int32) → Prop} (C : CF x g RX0 cX0_shortestOddWalk 4 (rmk 2 25))  {l1 : Int32} {l2 : Int32} {l3 : Int32} {σ : WD} (hI0 : ∀ s, E (.inl s) → WW x g 4 0 0 6 [(0, .ref (adr g 1)), (1, .int l1), (2, .int s.1), (3, .int s.2)] [] σ) (hE : ∀ (a : Int32), E (.inr a) → ∀ pc lv, decode cX0_shortestOddWalk pc = .ok (.ireturn, 1) → WW x g 4 0 0 pc lv [.int a] σ) {t : (Int32 × Int32) ⊕ (Int32)} (h : f_X0_shortestOddWalk_b6 l1 l2 l3 σ = some t) (ht : E t) : WW x g 4 0 0 6 [(0, .ref (adr g 1)), (1, .int l1), (2, .int l2), (3, .int l3)] [] σ := by
  unfold f_X0_shortestOddWalk_b6 at h
  refine x_iload_n C dX0_shortestOddWalk_6 rfl 3 rfl 7 rfl ?_
  refine x_aload_n C dX0_shortestOddWalk_7 rfl 0 rfl 8 rfl ?_
  refine gf_33_1 C dX0_shortestOddWalk_8 11 rfl ?_
  refine x_icmp_gt C dX0_shortestOddWalk_11 43 (by decide) 14 rfl (fun hc => ?_) (fun hc => ?_)
  · have h := ip hc h
    refine x_iconst C (v := -1) dX0_shortestOddWalk_43 (by decide) 44 rfl ?_
    cases h
    exact hE _ ht 44 _ dX0_shortestOddWalk_44
  · have h := iq hc h
    refine x_aload_n C dX0_shortestOddWalk_14 rfl 0 rfl 15 rfl ?_
    refine x_iload_n C dX0_shortestOddWalk_15 rfl 2 rfl 16 rfl ?_
    obtain ⟨r16, h16, h⟩ := bv_some h
    refine x_callV C 1 [.int l2] (c_X0_besides  h16) mi_X0_besides (gt_1 g _) rfl q_314 rfl ⟨rfl, rfl⟩ ⟨Nat.le_of_ble_eq_true rfl, Nat.le_of_ble_eq_true rfl⟩ ⟨Nat.zero_le _, Nat.zero_le _⟩ _ rfl (Nat.le_of_ble_eq_true rfl) dX0_shortestOddWalk_16 19 rfl ?_
    refine x_istore_n C [(2, .int r16), (0, .ref (adr g 1)), (1, .int l1), (3, .int l3)] dX0_shortestOddWalk_19 rfl (by decide) rfl 20 rfl ?_
    refine x_iload_n C dX0_shortestOddWalk_20 rfl 3 rfl 21 rfl ?_
    refine x_iconst C (v := 2) dX0_shortestOddWalk_21 (by decide) 22 rfl ?_
    obtain ⟨hz, h⟩ := gz_some h
    refine x_irem C dX0_shortestOddWalk_22 hz 23 rfl ?_
    refine x_iconst C (v := 1) dX0_shortestOddWalk_23 (by decide) 24 rfl ?_
    refine x_icmp_ne C dX0_shortestOddWalk_24 37 (by decide) 27 rfl (fun hc => ?_) (fun hc => ?_)
    · have h := iq hc h
      refine x_iinc C [(3, .int (l3 + 1)), (2, .int r16), (0, .ref (adr g 1)), (1, .int l1)] dX0_shortestOddWalk_37 3 rfl rfl (by decide) rfl 40 rfl ?_
      refine x_goto C dX0_shortestOddWalk_40 6 (by decide) ?_
      cases h
      exact x_sub [2, 3, 1, 0] rfl (hI0 (r16, (l3 + 1)) ht)
    · have h := ip hc h
      refine x_iload_n C dX0_shortestOddWalk_27 rfl 0 rfl 28 rfl ?_
      refine x_iload_n C dX0_shortestOddWalk_28 rfl 2 rfl 29 rfl ?_
      refine x_ishr C dX0_shortestOddWalk_29 30 rfl ?_
      refine x_iconst C (v := 1) dX0_shortestOddWalk_30 (by decide) 31 rfl ?_
      refine x_iand C dX0_shortestOddWalk_31 32 rfl ?_
      refine x_if_eq C dX0_shortestOddWalk_32 37 (by decide) 35 rfl (fun hc => ?_) (fun hc => ?_)
      · have h := ip hc h
        refine x_iinc C [(3, .int (l3 + 1)), (2, .int r16), (0, .ref (adr g 1)), (1, .int l1)] dX0_shortestOddWalk_37 3 rfl rfl (by decide) rfl 40 rfl ?_
        refine x_goto C dX0_shortestOddWalk_40 6 (by decide) ?_
        cases h
        exact x_sub [2, 3, 1, 0] rfl (hI0 (r16, (l3 + 1)) ht)
      · have h := iq hc h
        refine x_iload_n C dX0_shortestOddWalk_35 rfl 3 rfl 36 rfl ?_
        cases h
        exact hE _ ht 36 _ dX0_shortestOddWalk_36
set_option maxHeartbeats 4000000 in
set_option maxRecDepth 100000 in
theorem w_X0_shortestOddWalk_6 {x : Cx} {g : Gb} {E : Int32 → Prop} (C : CF x g RX0 cX0_shortestOddWalk 4 (rmk 2 25))  {l1 : Int32} {l2 : Int32} {l3 : Int32} {σ : WD} (hE : ∀ (a : Int32), E a → ∀ pc lv, decode cX0_shortestOddWalk pc = .ok (.ireturn, 1) → WW x g 4 0 0 pc lv [.int a] σ) {t : Int32} (h : f_X0_shortestOddWalk_6 l1 l2 l3 σ = some t) (ht : E t) : WW x g 4 0 0 6 [(0, .ref (adr g 1)), (1, .int l1), (2, .int l2), (3, .int l3)] [] σ := by
  unfold f_X0_shortestOddWalk_6 at h
  exact lp_ind (fun s : Int32 × Int32 => WW x g 4 0 0 6 [(0, .ref (adr g 1)), (1, .int l1), (2, .int s.1), (3, .int s.2)] [] σ) E h ht (fun s y hb hy => w_X0_shortestOddWalk_b6 (E := Sum.elim (fun s : Int32 × Int32 => WW x g 4 0 0 6 [(0, .ref (adr g 1)), (1, .int l1), (2, .int s.1), (3, .int s.2)] [] σ) E) C  (fun _ h => h)  hE hb hy)
set_option maxHeartbeats 4000000 in
set_option maxRecDepth 100000 in
theorem w_X0_shortestOddWalk {x : Cx} {g : Gb} {E : Int32 → Prop} (C : CF x g RX0 cX0_shortestOddWalk 4 (rmk 2 25))  {a1 : Int32} {σ : WD} (hE : ∀ (a : Int32), E a → ∀ pc lv, decode cX0_shortestOddWalk pc = .ok (.ireturn, 1) → WW x g 4 0 0 pc lv [.int a] σ) {t : Int32} (h : f_X0_shortestOddWalk a1 σ = some t) (ht : E t) : WW x g 4 0 0 0 [(0, .ref (adr g 1)), (1, .int a1)] [] σ := by
  unfold f_X0_shortestOddWalk at h
  refine x_iconst C (v := 1) dX0_shortestOddWalk_0 (by decide) 1 rfl ?_
  refine x_iload_n C dX0_shortestOddWalk_1 rfl 1 rfl 2 rfl ?_
  refine x_ishl C dX0_shortestOddWalk_2 3 rfl ?_
  obtain ⟨v3, e3, h⟩ := li_some h
  refine x_te e3 ?_
  refine x_istore_n C [(2, .int v3), (0, .ref (adr g 1)), (1, .int a1)] dX0_shortestOddWalk_3 rfl (by decide) rfl 4 rfl ?_
  refine x_iconst C (v := 1) dX0_shortestOddWalk_4 (by decide) 5 rfl ?_
  refine x_istore_n C [(3, .int 1), (2, .int v3), (0, .ref (adr g 1)), (1, .int a1)] dX0_shortestOddWalk_5 rfl (by decide) rfl 6 rfl ?_
  exact x_sub [2, 3, 1, 0] rfl (w_X0_shortestOddWalk_6 C  hE h ht)
set_option maxHeartbeats 4000000 in
set_option maxRecDepth 100000 in
theorem c_X0_shortestOddWalk {g : Gb} {l : Launch}  {a1 : Int32} {σ : WD} {r : Int32} (h : f_X0_shortestOddWalk a1 σ = some r) : MC l g yX0_shortestOddWalk (.code yX0_shortestOddWalk cX0_shortestOddWalk 4 (some (.int))) (rmk 2 25) [.ref (adr g 1), .int a1] σ (some (.int r)) σ := by
  refine MC.of (by decide) (Nat.le_of_ble_eq_true rfl) (fun x C hl hr hq => ?_)
  subst hl
  exact w_X0_shortestOddWalk (E := fun z => z = r) C  (fun a he pc lv hd => by cases he; exact x_iret C hr hq hd) h rfl
set_option maxHeartbeats 4000000 in
set_option maxRecDepth 100000 in
theorem w_J6_bitCount_0f7a4 {x : Cx} {g : Gb} {E : Int32 → Prop} (C : CF x g RJ6 cJ6_bitCount_0f7a4 1 (rmk 1 1))  {a1 : Int32} {σ : WD} (hE : ∀ (a : Int32), E a → ∀ pc lv, decode cJ6_bitCount_0f7a4 pc = .ok (.ireturn, 1) → WW x g 1 0 0 pc lv [.int a] σ) {t : Int32} (h : f_J6_bitCount_0f7a4 a1 σ = some t) (ht : E t) : WW x g 1 0 0 0 [(0, .int a1)] [] σ := by
  unfold f_J6_bitCount_0f7a4 at h
  refine x_iload_n C dJ6_bitCount_0f7a4_0 rfl 0 rfl 1 rfl ?_
  refine x_iload_n C dJ6_bitCount_0f7a4_1 rfl 0 rfl 2 rfl ?_
  refine x_iconst C (v := 1) dJ6_bitCount_0f7a4_2 (by decide) 3 rfl ?_
  refine x_iushr C dJ6_bitCount_0f7a4_3 4 rfl ?_
  refine x_ldcw C dJ6_bitCount_0f7a4_4 q_330 7 rfl ?_
  refine x_iand C dJ6_bitCount_0f7a4_7 8 rfl ?_
  refine x_isub C dJ6_bitCount_0f7a4_8 9 rfl ?_
  obtain ⟨v9, e9, h⟩ := li_some h
  refine x_te e9 ?_
  refine x_istore_n C [(0, .int v9)] dJ6_bitCount_0f7a4_9 rfl (by decide) rfl 10 rfl ?_
  refine x_iload_n C dJ6_bitCount_0f7a4_10 rfl 0 rfl 11 rfl ?_
  refine x_ldcw C dJ6_bitCount_0f7a4_11 q_331 14 rfl ?_
  refine x_iand C dJ6_bitCount_0f7a4_14 15 rfl ?_
  refine x_iload_n C dJ6_bitCount_0f7a4_15 rfl 0 rfl 16 rfl ?_
  refine x_iconst C (v := 2) dJ6_bitCount_0f7a4_16 (by decide) 17 rfl ?_
  refine x_iushr C dJ6_bitCount_0f7a4_17 18 rfl ?_
  refine x_ldcw C dJ6_bitCount_0f7a4_18 q_331 21 rfl ?_
  refine x_iand C dJ6_bitCount_0f7a4_21 22 rfl ?_
  refine x_iadd C dJ6_bitCount_0f7a4_22 23 rfl ?_
  obtain ⟨v23, e23, h⟩ := li_some h
  refine x_te e23 ?_
  refine x_istore_n C [(0, .int v23)] dJ6_bitCount_0f7a4_23 rfl (by decide) rfl 24 rfl ?_
  refine x_iload_n C dJ6_bitCount_0f7a4_24 rfl 0 rfl 25 rfl ?_
  refine x_iload_n C dJ6_bitCount_0f7a4_25 rfl 0 rfl 26 rfl ?_
  refine x_iconst C (v := 4) dJ6_bitCount_0f7a4_26 (by decide) 27 rfl ?_
  refine x_iushr C dJ6_bitCount_0f7a4_27 28 rfl ?_
  refine x_iadd C dJ6_bitCount_0f7a4_28 29 rfl ?_
  refine x_ldcw C dJ6_bitCount_0f7a4_29 q_332 32 rfl ?_
  refine x_iand C dJ6_bitCount_0f7a4_32 33 rfl ?_
  obtain ⟨v33, e33, h⟩ := li_some h
  refine x_te e33 ?_
  refine x_istore_n C [(0, .int v33)] dJ6_bitCount_0f7a4_33 rfl (by decide) rfl 34 rfl ?_
  refine x_iload_n C dJ6_bitCount_0f7a4_34 rfl 0 rfl 35 rfl ?_
  refine x_iload_n C dJ6_bitCount_0f7a4_35 rfl 0 rfl 36 rfl ?_
  refine x_bipush C (v := 8) dJ6_bitCount_0f7a4_36 (by decide) 38 rfl ?_
  refine x_iushr C dJ6_bitCount_0f7a4_38 39 rfl ?_
  refine x_iadd C dJ6_bitCount_0f7a4_39 40 rfl ?_
  obtain ⟨v40, e40, h⟩ := li_some h
  refine x_te e40 ?_
  refine x_istore_n C [(0, .int v40)] dJ6_bitCount_0f7a4_40 rfl (by decide) rfl 41 rfl ?_
  refine x_iload_n C dJ6_bitCount_0f7a4_41 rfl 0 rfl 42 rfl ?_
  refine x_iload_n C dJ6_bitCount_0f7a4_42 rfl 0 rfl 43 rfl ?_
  refine x_bipush C (v := 16) dJ6_bitCount_0f7a4_43 (by decide) 45 rfl ?_
  refine x_iushr C dJ6_bitCount_0f7a4_45 46 rfl ?_
  refine x_iadd C dJ6_bitCount_0f7a4_46 47 rfl ?_
  obtain ⟨v47, e47, h⟩ := li_some h
  refine x_te e47 ?_
  refine x_istore_n C [(0, .int v47)] dJ6_bitCount_0f7a4_47 rfl (by decide) rfl 48 rfl ?_
  refine x_iload_n C dJ6_bitCount_0f7a4_48 rfl 0 rfl 49 rfl ?_
  refine x_bipush C (v := 63) dJ6_bitCount_0f7a4_49 (by decide) 51 rfl ?_
  refine x_iand C dJ6_bitCount_0f7a4_51 52 rfl ?_
  cases h
  exact hE _ ht 52 _ dJ6_bitCount_0f7a4_52
set_option maxHeartbeats 4000000 in
set_option maxRecDepth 100000 in
theorem c_J6_bitCount_0f7a4 {g : Gb} {l : Launch}  {a1 : Int32} {σ : WD} {r : Int32} (h : f_J6_bitCount_0f7a4 a1 σ = some r) : MC l g yJ6_bitCount_0f7a4 (.code yJ6_bitCount_0f7a4 cJ6_bitCount_0f7a4 1 (some (.int))) (rmk 1 1) [.int a1] σ (some (.int r)) σ := by
  refine MC.of (by decide) (Nat.le_of_ble_eq_true rfl) (fun x C hl hr hq => ?_)
  subst hl
  exact w_J6_bitCount_0f7a4 (E := fun z => z = r) C  (fun a he pc lv hd => by cases he; exact x_iret C hr hq hd) h rfl
set_option maxHeartbeats 4000000 in
set_option maxRecDepth 100000 in
theorem w_J6_numberOfTrailingZeros_0f7a4_74 {x : Cx} {g : Gb} {E : Int32 → Prop} (C : CF x g RJ6 cJ6_numberOfTrailingZeros_0f7a4 2 (rmk 1 1))  {l0 : Int32} {l1 : Int32} {σ : WD} (hE : ∀ (a : Int32), E a → ∀ pc lv, decode cJ6_numberOfTrailingZeros_0f7a4 pc = .ok (.ireturn, 1) → WW x g 2 0 0 pc lv [.int a] σ) {t : Int32} (h : f_J6_numberOfTrailingZeros_0f7a4_74 l0 l1 σ = some t) (ht : E t) : WW x g 2 0 0 74 [(0, .int l0), (1, .int l1)] [] σ := by
  unfold f_J6_numberOfTrailingZeros_0f7a4_74 at h
  refine x_iload_n C dJ6_numberOfTrailingZeros_0f7a4_74 rfl 1 rfl 75 rfl ?_
  refine x_iload_n C dJ6_numberOfTrailingZeros_0f7a4_75 rfl 0 rfl 76 rfl ?_
  refine x_iconst C (v := 1) dJ6_numberOfTrailingZeros_0f7a4_76 (by decide) 77 rfl ?_
  refine x_iushr C dJ6_numberOfTrailingZeros_0f7a4_77 78 rfl ?_
  refine x_iadd C dJ6_numberOfTrailingZeros_0f7a4_78 79 rfl ?_
  cases h
  exact hE _ ht 79 _ dJ6_numberOfTrailingZeros_0f7a4_79
set_option maxHeartbeats 4000000 in
set_option maxRecDepth 100000 in
theorem w_J6_numberOfTrailingZeros_0f7a4_62 {x : Cx} {g : Gb} {E : Int32 → Prop} (C : CF x g RJ6 cJ6_numberOfTrailingZeros_0f7a4 2 (rmk 1 1))  {l0 : Int32} {l1 : Int32} {σ : WD} (hE : ∀ (a : Int32), E a → ∀ pc lv, decode cJ6_numberOfTrailingZeros_0f7a4 pc = .ok (.ireturn, 1) → WW x g 2 0 0 pc lv [.int a] σ) {t : Int32} (h : f_J6_numberOfTrailingZeros_0f7a4_62 l0 l1 σ = some t) (ht : E t) : WW x g 2 0 0 62 [(0, .int l0), (1, .int l1)] [] σ := by
  unfold f_J6_numberOfTrailingZeros_0f7a4_62 at h
  refine x_iload_n C dJ6_numberOfTrailingZeros_0f7a4_62 rfl 0 rfl 63 rfl ?_
  refine x_iconst C (v := 4) dJ6_numberOfTrailingZeros_0f7a4_63 (by decide) 64 rfl ?_
  refine x_icmp_le C dJ6_numberOfTrailingZeros_0f7a4_64 74 (by decide) 67 rfl (fun hc => ?_) (fun hc => ?_)
  · have h := ip hc h
    exact x_sub [0, 1] rfl (w_J6_numberOfTrailingZeros_0f7a4_74 C  hE h ht)
  · have h := iq hc h
    refine x_iinc C [(1, .int (l1 + 2)), (0, .int l0)] dJ6_numberOfTrailingZeros_0f7a4_67 1 rfl rfl (by decide) rfl 70 rfl ?_
    refine x_iload_n C dJ6_numberOfTrailingZeros_0f7a4_70 rfl 1 rfl 71 rfl ?_
    refine x_iconst C (v := 2) dJ6_numberOfTrailingZeros_0f7a4_71 (by decide) 72 rfl ?_
    refine x_iushr C dJ6_numberOfTrailingZeros_0f7a4_72 73 rfl ?_
    obtain ⟨v73, e73, h⟩ := li_some h
    refine x_te e73 ?_
    refine x_istore_n C [(0, .int v73), (1, .int (l1 + 2))] dJ6_numberOfTrailingZeros_0f7a4_73 rfl (by decide) rfl 74 rfl ?_
    exact x_sub [0, 1] rfl (w_J6_numberOfTrailingZeros_0f7a4_74 C  hE h ht)
set_option maxHeartbeats 4000000 in
set_option maxRecDepth 100000 in
theorem w_J6_numberOfTrailingZeros_0f7a4_49 {x : Cx} {g : Gb} {E : Int32 → Prop} (C : CF x g RJ6 cJ6_numberOfTrailingZeros_0f7a4 2 (rmk 1 1))  {l0 : Int32} {l1 : Int32} {σ : WD} (hE : ∀ (a : Int32), E a → ∀ pc lv, decode cJ6_numberOfTrailingZeros_0f7a4 pc = .ok (.ireturn, 1) → WW x g 2 0 0 pc lv [.int a] σ) {t : Int32} (h : f_J6_numberOfTrailingZeros_0f7a4_49 l0 l1 σ = some t) (ht : E t) : WW x g 2 0 0 49 [(0, .int l0), (1, .int l1)] [] σ := by
  unfold f_J6_numberOfTrailingZeros_0f7a4_49 at h
  refine x_iload_n C dJ6_numberOfTrailingZeros_0f7a4_49 rfl 0 rfl 50 rfl ?_
  refine x_bipush C (v := 16) dJ6_numberOfTrailingZeros_0f7a4_50 (by decide) 52 rfl ?_
  refine x_icmp_le C dJ6_numberOfTrailingZeros_0f7a4_52 62 (by decide) 55 rfl (fun hc => ?_) (fun hc => ?_)
  · have h := ip hc h
    exact x_sub [0, 1] rfl (w_J6_numberOfTrailingZeros_0f7a4_62 C  hE h ht)
  · have h := iq hc h
    refine x_iinc C [(1, .int (l1 + 4)), (0, .int l0)] dJ6_numberOfTrailingZeros_0f7a4_55 1 rfl rfl (by decide) rfl 58 rfl ?_
    refine x_iload_n C dJ6_numberOfTrailingZeros_0f7a4_58 rfl 1 rfl 59 rfl ?_
    refine x_iconst C (v := 4) dJ6_numberOfTrailingZeros_0f7a4_59 (by decide) 60 rfl ?_
    refine x_iushr C dJ6_numberOfTrailingZeros_0f7a4_60 61 rfl ?_
    obtain ⟨v61, e61, h⟩ := li_some h
    refine x_te e61 ?_
    refine x_istore_n C [(0, .int v61), (1, .int (l1 + 4))] dJ6_numberOfTrailingZeros_0f7a4_61 rfl (by decide) rfl 62 rfl ?_
    exact x_sub [0, 1] rfl (w_J6_numberOfTrailingZeros_0f7a4_62 C  hE h ht)
set_option maxHeartbeats 4000000 in
set_option maxRecDepth 100000 in
theorem w_J6_numberOfTrailingZeros_0f7a4_34 {x : Cx} {g : Gb} {E : Int32 → Prop} (C : CF x g RJ6 cJ6_numberOfTrailingZeros_0f7a4 2 (rmk 1 1))  {l0 : Int32} {l1 : Int32} {σ : WD} (hE : ∀ (a : Int32), E a → ∀ pc lv, decode cJ6_numberOfTrailingZeros_0f7a4 pc = .ok (.ireturn, 1) → WW x g 2 0 0 pc lv [.int a] σ) {t : Int32} (h : f_J6_numberOfTrailingZeros_0f7a4_34 l0 l1 σ = some t) (ht : E t) : WW x g 2 0 0 34 [(0, .int l0), (1, .int l1)] [] σ := by
  unfold f_J6_numberOfTrailingZeros_0f7a4_34 at h
  refine x_iload_n C dJ6_numberOfTrailingZeros_0f7a4_34 rfl 0 rfl 35 rfl ?_
  refine x_sipush C (v := 256) dJ6_numberOfTrailingZeros_0f7a4_35 (by decide) 38 rfl ?_
  refine x_icmp_le C dJ6_numberOfTrailingZeros_0f7a4_38 49 (by decide) 41 rfl (fun hc => ?_) (fun hc => ?_)
  · have h := ip hc h
    exact x_sub [0, 1] rfl (w_J6_numberOfTrailingZeros_0f7a4_49 C  hE h ht)
  · have h := iq hc h
    refine x_iinc C [(1, .int (l1 + 8)), (0, .int l0)] dJ6_numberOfTrailingZeros_0f7a4_41 1 rfl rfl (by decide) rfl 44 rfl ?_
    refine x_iload_n C dJ6_numberOfTrailingZeros_0f7a4_44 rfl 1 rfl 45 rfl ?_
    refine x_bipush C (v := 8) dJ6_numberOfTrailingZeros_0f7a4_45 (by decide) 47 rfl ?_
    refine x_iushr C dJ6_numberOfTrailingZeros_0f7a4_47 48 rfl ?_
    obtain ⟨v48, e48, h⟩ := li_some h
    refine x_te e48 ?_
    refine x_istore_n C [(0, .int v48), (1, .int (l1 + 8))] dJ6_numberOfTrailingZeros_0f7a4_48 rfl (by decide) rfl 49 rfl ?_
    exact x_sub [0, 1] rfl (w_J6_numberOfTrailingZeros_0f7a4_49 C  hE h ht)
set_option maxHeartbeats 4000000 in
set_option maxRecDepth 100000 in
theorem w_J6_numberOfTrailingZeros_0f7a4 {x : Cx} {g : Gb} {E : Int32 → Prop} (C : CF x g RJ6 cJ6_numberOfTrailingZeros_0f7a4 2 (rmk 1 1))  {a1 : Int32} {σ : WD} (hE : ∀ (a : Int32), E a → ∀ pc lv, decode cJ6_numberOfTrailingZeros_0f7a4 pc = .ok (.ireturn, 1) → WW x g 2 0 0 pc lv [.int a] σ) {t : Int32} (h : f_J6_numberOfTrailingZeros_0f7a4 a1 σ = some t) (ht : E t) : WW x g 2 0 0 0 [(0, .int a1)] [] σ := by
  unfold f_J6_numberOfTrailingZeros_0f7a4 at h
  refine x_iload_n C dJ6_numberOfTrailingZeros_0f7a4_0 rfl 0 rfl 1 rfl ?_
  refine x_iconst C (v := -1) dJ6_numberOfTrailingZeros_0f7a4_1 (by decide) 2 rfl ?_
  refine x_ixor C dJ6_numberOfTrailingZeros_0f7a4_2 3 rfl ?_
  refine x_iload_n C dJ6_numberOfTrailingZeros_0f7a4_3 rfl 0 rfl 4 rfl ?_
  refine x_iconst C (v := 1) dJ6_numberOfTrailingZeros_0f7a4_4 (by decide) 5 rfl ?_
  refine x_isub C dJ6_numberOfTrailingZeros_0f7a4_5 6 rfl ?_
  refine x_iand C dJ6_numberOfTrailingZeros_0f7a4_6 7 rfl ?_
  obtain ⟨v7, e7, h⟩ := li_some h
  refine x_te e7 ?_
  refine x_istore_n C [(0, .int v7)] dJ6_numberOfTrailingZeros_0f7a4_7 rfl (by decide) rfl 8 rfl ?_
  refine x_iload_n C dJ6_numberOfTrailingZeros_0f7a4_8 rfl 0 rfl 9 rfl ?_
  refine x_if_gt C dJ6_numberOfTrailingZeros_0f7a4_9 17 (by decide) 12 rfl (fun hc => ?_) (fun hc => ?_)
  · have h := ip hc h
    refine x_iconst C (v := 1) dJ6_numberOfTrailingZeros_0f7a4_17 (by decide) 18 rfl ?_
    refine x_istore_n C [(1, .int 1), (0, .int v7)] dJ6_numberOfTrailingZeros_0f7a4_18 rfl (by decide) rfl 19 rfl ?_
    refine x_iload_n C dJ6_numberOfTrailingZeros_0f7a4_19 rfl 1 rfl 20 rfl ?_
    refine x_ldcw C dJ6_numberOfTrailingZeros_0f7a4_20 q_348 23 rfl ?_
    refine x_icmp_le C dJ6_numberOfTrailingZeros_0f7a4_23 34 (by decide) 26 rfl (fun hc => ?_) (fun hc => ?_)
    · have h := ip hc h
      exact x_sub [1, 0] rfl (w_J6_numberOfTrailingZeros_0f7a4_34 C  hE h ht)
    · have h := iq hc h
      refine x_iinc C [(1, .int (1 + 16)), (0, .int v7)] dJ6_numberOfTrailingZeros_0f7a4_26 0 rfl rfl (by decide) rfl 29 rfl ?_
      refine x_iload_n C dJ6_numberOfTrailingZeros_0f7a4_29 rfl 1 rfl 30 rfl ?_
      refine x_bipush C (v := 16) dJ6_numberOfTrailingZeros_0f7a4_30 (by decide) 32 rfl ?_
      refine x_iushr C dJ6_numberOfTrailingZeros_0f7a4_32 33 rfl ?_
      obtain ⟨v33, e33, h⟩ := li_some h
      refine x_te e33 ?_
      refine x_istore_n C [(0, .int v33), (1, .int (1 + 16))] dJ6_numberOfTrailingZeros_0f7a4_33 rfl (by decide) rfl 34 rfl ?_
      exact x_sub [0, 1] rfl (w_J6_numberOfTrailingZeros_0f7a4_34 C  hE h ht)
  · have h := iq hc h
    refine x_iload_n C dJ6_numberOfTrailingZeros_0f7a4_12 rfl 0 rfl 13 rfl ?_
    refine x_bipush C (v := 32) dJ6_numberOfTrailingZeros_0f7a4_13 (by decide) 15 rfl ?_
    refine x_iand C dJ6_numberOfTrailingZeros_0f7a4_15 16 rfl ?_
    cases h
    exact hE _ ht 16 _ dJ6_numberOfTrailingZeros_0f7a4_16
set_option maxHeartbeats 4000000 in
set_option maxRecDepth 100000 in
theorem c_J6_numberOfTrailingZeros_0f7a4 {g : Gb} {l : Launch}  {a1 : Int32} {σ : WD} {r : Int32} (h : f_J6_numberOfTrailingZeros_0f7a4 a1 σ = some r) : MC l g yJ6_numberOfTrailingZeros_0f7a4 (.code yJ6_numberOfTrailingZeros_0f7a4 cJ6_numberOfTrailingZeros_0f7a4 2 (some (.int))) (rmk 1 1) [.int a1] σ (some (.int r)) σ := by
  refine MC.of (by decide) (Nat.le_of_ble_eq_true rfl) (fun x C hl hr hq => ?_)
  subst hl
  exact w_J6_numberOfTrailingZeros_0f7a4 (E := fun z => z = r) C  (fun a he pc lv hd => by cases he; exact x_iret C hr hq hd) h rfl
set_option maxHeartbeats 4000000 in
set_option maxRecDepth 100000 in
theorem w_X0_pieceOf_b10 {x : Cx} {g : Gb} {E : (Int32 × Int32 × Int32) ⊕ (Int32) → Prop} (C : CF x g RX0 cX0_pieceOf 8 (rmk 2 23))  {l2 : Int32} {l3 : Int32} {l4 : Int32} {l5 : Int32} {σ : WD} (hI0 : ∀ s, E (.inl s) → WW x g 8 0 0 10 [(0, .ref (adr g 1)), (2, .int l2), (3, .int s.1), (4, .int s.2.1), (5, .int s.2.2)] [] σ) (hE : ∀ (a : Int32), E (.inr a) → ∀ pc lv, decode cX0_pieceOf pc = .ok (.ireturn, 1) → WW x g 8 0 0 pc lv [.int a] σ) {t : (Int32 × Int32 × Int32) ⊕ (Int32)} (h : f_X0_pieceOf_b10 l2 l3 l4 l5 σ = some t) (ht : E t) : WW x g 8 0 0 10 [(0, .ref (adr g 1)), (2, .int l2), (3, .int l3), (4, .int l4), (5, .int l5)] [] σ := by
  unfold f_X0_pieceOf_b10 at h
  refine x_iload C dX0_pieceOf_10 4 rfl 12 rfl ?_
  refine x_aload_n C dX0_pieceOf_12 rfl 0 rfl 13 rfl ?_
  refine gf_33_1 C dX0_pieceOf_13 16 rfl ?_
  refine x_icmp_ge C dX0_pieceOf_16 71 (by decide) 19 rfl (fun hc => ?_) (fun hc => ?_)
  · have h := ip hc h
    refine x_iload_n C dX0_pieceOf_71 rfl 2 rfl 72 rfl ?_
    cases h
    exact hE _ ht 72 _ dX0_pieceOf_72
  · have h := iq hc h
    refine x_iload C dX0_pieceOf_19 3 rfl 21 rfl ?_
    refine x_if_eq C dX0_pieceOf_21 71 (by decide) 24 rfl (fun hc => ?_) (fun hc => ?_)
    · have h := ip hc h
      refine x_iload_n C dX0_pieceOf_71 rfl 2 rfl 72 rfl ?_
      cases h
      exact hE _ ht 72 _ dX0_pieceOf_72
    · have h := iq hc h
      refine x_iload C dX0_pieceOf_24 3 rfl 26 rfl ?_
      obtain ⟨r26, h26, h⟩ := bv_some h
      refine x_callS C [.int l4] (c_J6_numberOfTrailingZeros_0f7a4  h26) mi_J6_numberOfTrailingZeros_0f7a4 q_345 rfl ⟨rfl, rfl⟩ ⟨Nat.le_of_ble_eq_true rfl, Nat.le_of_ble_eq_true rfl⟩ ⟨Nat.zero_le _, Nat.zero_le _⟩ _ rfl (Nat.le_of_ble_eq_true rfl) dX0_pieceOf_26 29 rfl ?_
      refine x_istore C [(6, .int r26), (0, .ref (adr g 1)), (2, .int l2), (3, .int l3), (4, .int l4), (5, .int l5)] dX0_pieceOf_29 (by decide) rfl 31 rfl ?_
      refine x_aload_n C dX0_pieceOf_31 rfl 1 rfl 32 rfl ?_
      refine gf_37_1 C dX0_pieceOf_32 35 rfl ?_
      refine x_iload C dX0_pieceOf_35 0 rfl 37 rfl ?_
      obtain ⟨hin, h⟩ := gi_some h
      refine x_iald C 2 (gt_2 g _) hin dX0_pieceOf_37 38 rfl ?_
      refine x_iload_n C dX0_pieceOf_38 rfl 2 rfl 39 rfl ?_
      refine x_iand C dX0_pieceOf_39 40 rfl ?_
      refine x_iload_n C dX0_pieceOf_40 rfl 3 rfl 41 rfl ?_
      refine x_iconst C (v := -1) dX0_pieceOf_41 (by decide) 42 rfl ?_
      refine x_ixor C dX0_pieceOf_42 43 rfl ?_
      refine x_iand C dX0_pieceOf_43 44 rfl ?_
      obtain ⟨v44, e44, h⟩ := li_some h
      refine x_te e44 ?_
      refine x_istore C [(7, .int v44), (6, .int r26), (0, .ref (adr g 1)), (2, .int l2), (3, .int l3), (4, .int l4), (5, .int l5)] dX0_pieceOf_44 (by decide) rfl 46 rfl ?_
      refine x_iload_n C dX0_pieceOf_46 rfl 4 rfl 47 rfl ?_
      refine x_iload C dX0_pieceOf_47 0 rfl 49 rfl ?_
      refine x_ior C dX0_pieceOf_49 50 rfl ?_
      refine x_istore_n C [(3, .int (l3 ||| v44)), (7, .int v44), (6, .int r26), (0, .ref (adr g 1)), (2, .int l2), (4, .int l4), (5, .int l5)] dX0_pieceOf_50 rfl (by decide) rfl 51 rfl ?_
      refine x_iload C dX0_pieceOf_51 5 rfl 53 rfl ?_
      refine x_iconst C (v := 1) dX0_pieceOf_53 (by decide) 54 rfl ?_
      refine x_iload C dX0_pieceOf_54 2 rfl 56 rfl ?_
      refine x_ishl C dX0_pieceOf_56 57 rfl ?_
      refine x_iconst C (v := -1) dX0_pieceOf_57 (by decide) 58 rfl ?_
      refine x_ixor C dX0_pieceOf_58 59 rfl ?_
      refine x_iand C dX0_pieceOf_59 60 rfl ?_
      refine x_iload C dX0_pieceOf_60 1 rfl 62 rfl ?_
      refine x_ior C dX0_pieceOf_62 63 rfl ?_
      obtain ⟨v63, e63, h⟩ := li_some h
      refine x_te e63 ?_
      refine x_istore C [(4, .int v63), (3, .int (l3 ||| v44)), (7, .int v44), (6, .int r26), (0, .ref (adr g 1)), (2, .int l2), (5, .int l5)] dX0_pieceOf_63 (by decide) rfl 65 rfl ?_
      refine x_iinc C [(5, .int (l5 + 1)), (4, .int v63), (3, .int (l3 ||| v44)), (7, .int v44), (6, .int r26), (0, .ref (adr g 1)), (2, .int l2)] dX0_pieceOf_65 6 rfl rfl (by decide) rfl 68 rfl ?_
      refine x_goto C dX0_pieceOf_68 10 (by decide) ?_
      cases h
      exact x_sub [5, 6, 2, 1, 0] rfl (hI0 ((l3 ||| v44), v63, (l5 + 1)) ht)
set_option maxHeartbeats 4000000 in
set_option maxRecDepth 100000 in
theorem w_X0_pieceOf_10 {x : Cx} {g : Gb} {E : Int32 → Prop} (C : CF x g RX0 cX0_pieceOf 8 (rmk 2 23))  {l2 : Int32} {l3 : Int32} {l4 : Int32} {l5 : Int32} {σ : WD} (hE : ∀ (a : Int32), E a → ∀ pc lv, decode cX0_pieceOf pc = .ok (.ireturn, 1) → WW x g 8 0 0 pc lv [.int a] σ) {t : Int32} (h : f_X0_pieceOf_10 l2 l3 l4 l5 σ = some t) (ht : E t) : WW x g 8 0 0 10 [(0, .ref (adr g 1)), (2, .int l2), (3, .int l3), (4, .int l4), (5, .int l5)] [] σ := by
  unfold f_X0_pieceOf_10 at h
  exact lp_ind (fun s : Int32 × Int32 × Int32 => WW x g 8 0 0 10 [(0, .ref (adr g 1)), (2, .int l2), (3, .int s.1), (4, .int s.2.1), (5, .int s.2.2)] [] σ) E h ht (fun s y hb hy => w_X0_pieceOf_b10 (E := Sum.elim (fun s : Int32 × Int32 × Int32 => WW x g 8 0 0 10 [(0, .ref (adr g 1)), (2, .int l2), (3, .int s.1), (4, .int s.2.1), (5, .int s.2.2)] [] σ) E) C  (fun _ h => h)  hE hb hy)
set_option maxHeartbeats 4000000 in
set_option maxRecDepth 100000 in
theorem w_X0_pieceOf {x : Cx} {g : Gb} {E : Int32 → Prop} (C : CF x g RX0 cX0_pieceOf 8 (rmk 2 23))  {a1 : Int32} {a2 : Int32} {σ : WD} (hE : ∀ (a : Int32), E a → ∀ pc lv, decode cX0_pieceOf pc = .ok (.ireturn, 1) → WW x g 8 0 0 pc lv [.int a] σ) {t : Int32} (h : f_X0_pieceOf a1 a2 σ = some t) (ht : E t) : WW x g 8 0 0 0 [(0, .ref (adr g 1)), (1, .int a1), (2, .int a2)] [] σ := by
  unfold f_X0_pieceOf at h
  refine x_iconst C (v := 1) dX0_pieceOf_0 (by decide) 1 rfl ?_
  refine x_iload_n C dX0_pieceOf_1 rfl 1 rfl 2 rfl ?_
  refine x_ishl C dX0_pieceOf_2 3 rfl ?_
  obtain ⟨v3, e3, h⟩ := li_some h
  refine x_te e3 ?_
  refine x_istore_n C [(3, .int v3), (0, .ref (adr g 1)), (1, .int a1), (2, .int a2)] dX0_pieceOf_3 rfl (by decide) rfl 4 rfl ?_
  refine x_iload_n C dX0_pieceOf_4 rfl 0 rfl 5 rfl ?_
  refine x_istore C [(4, .int v3), (3, .int v3), (0, .ref (adr g 1)), (1, .int a1), (2, .int a2)] dX0_pieceOf_5 (by decide) rfl 7 rfl ?_
  refine x_iconst C (v := 0) dX0_pieceOf_7 (by decide) 8 rfl ?_
  refine x_istore C [(5, .int 0), (4, .int v3), (3, .int v3), (0, .ref (adr g 1)), (1, .int a1), (2, .int a2)] dX0_pieceOf_8 (by decide) rfl 10 rfl ?_
  exact x_sub [3, 5, 2, 1, 0] rfl (w_X0_pieceOf_10 C  hE h ht)
set_option maxHeartbeats 4000000 in
set_option maxRecDepth 100000 in
theorem c_X0_pieceOf {g : Gb} {l : Launch}  {a1 : Int32} {a2 : Int32} {σ : WD} {r : Int32} (h : f_X0_pieceOf a1 a2 σ = some r) : MC l g yX0_pieceOf (.code yX0_pieceOf cX0_pieceOf 8 (some (.int))) (rmk 2 23) [.ref (adr g 1), .int a1, .int a2] σ (some (.int r)) σ := by
  refine MC.of (by decide) (Nat.le_of_ble_eq_true rfl) (fun x C hl hr hq => ?_)
  subst hl
  exact w_X0_pieceOf (E := fun z => z = r) C  (fun a he pc lv hd => by cases he; exact x_iret C hr hq hd) h rfl
set_option maxHeartbeats 4000000 in
set_option maxRecDepth 100000 in
theorem w_X0_pieces_b8 {x : Cx} {g : Gb} {E : (Int32 × Int32 × Int32) ⊕ (Int32) → Prop} (C : CF x g RX0 cX0_pieces 7 (rmk 3 51))  {l1 : Int32} {l2 : Int32} {l3 : Int32} {l4 : Int32} {l5 : Int32} {σ : WD} (hI0 : ∀ s, E (.inl s) → WW x g 7 0 0 8 [(0, .ref (adr g 1)), (1, .int l1), (2, .int l2), (3, .int s.1), (4, .int s.2.1), (5, .int s.2.2)] [] σ) (hE : ∀ (a : Int32), E (.inr a) → ∀ pc lv, decode cX0_pieces pc = .ok (.ireturn, 1) → WW x g 7 0 0 pc lv [.int a] σ) {t : (Int32 × Int32 × Int32) ⊕ (Int32)} (h : f_X0_pieces_b8 l1 l2 l3 l4 l5 σ = some t) (ht : E t) : WW x g 7 0 0 8 [(0, .ref (adr g 1)), (1, .int l1), (2, .int l2), (3, .int l3), (4, .int l4), (5, .int l5)] [] σ := by
  unfold f_X0_pieces_b8 at h
  refine x_iload C dX0_pieces_8 5 rfl 10 rfl ?_
  refine x_aload_n C dX0_pieces_10 rfl 0 rfl 11 rfl ?_
  refine gf_33_1 C dX0_pieces_11 14 rfl ?_
  refine x_icmp_ge C dX0_pieces_14 68 (by decide) 17 rfl (fun hc => ?_) (fun hc => ?_)
  · have h := ip hc h
    refine x_iload C dX0_pieces_68 4 rfl 70 rfl ?_
    cases h
    exact hE _ ht 70 _ dX0_pieces_70
  · have h := iq hc h
    refine x_iload_n C dX0_pieces_17 rfl 3 rfl 18 rfl ?_
    refine x_iload C dX0_pieces_18 5 rfl 20 rfl ?_
    refine x_ishr C dX0_pieces_20 21 rfl ?_
    refine x_iconst C (v := 1) dX0_pieces_21 (by decide) 22 rfl ?_
    refine x_iand C dX0_pieces_22 23 rfl ?_
    refine x_if_eq C dX0_pieces_23 62 (by decide) 26 rfl (fun hc => ?_) (fun hc => ?_)
    · have h := ip hc h
      refine x_iinc C [(5, .int (l5 + 1)), (0, .ref (adr g 1)), (1, .int l1), (2, .int l2), (3, .int l3), (4, .int l4)] dX0_pieces_62 5 rfl rfl (by decide) rfl 65 rfl ?_
      refine x_goto C dX0_pieces_65 8 (by decide) ?_
      cases h
      exact x_sub [1, 2, 3, 4, 5, 0] rfl (hI0 (l3, l4, (l5 + 1)) ht)
    · have h := iq hc h
      refine x_aload_n C dX0_pieces_26 rfl 0 rfl 27 rfl ?_
      refine x_iload C dX0_pieces_27 5 rfl 29 rfl ?_
      refine x_iload_n C dX0_pieces_29 rfl 1 rfl 30 rfl ?_
      obtain ⟨r30, h30, h⟩ := bv_some h
      refine x_callV C 1 [.int l5, .int l1] (c_X0_pieceOf  h30) mi_X0_pieceOf (gt_1 g _) rfl q_341 rfl ⟨rfl, rfl⟩ ⟨Nat.le_of_ble_eq_true rfl, Nat.le_of_ble_eq_true rfl⟩ ⟨Nat.zero_le _, Nat.zero_le _⟩ _ rfl (Nat.le_of_ble_eq_true rfl) dX0_pieces_30 33 rfl ?_
      refine x_istore C [(6, .int r30), (0, .ref (adr g 1)), (1, .int l1), (2, .int l2), (3, .int l3), (4, .int l4), (5, .int l5)] dX0_pieces_33 (by decide) rfl 35 rfl ?_
      refine x_iload_n C dX0_pieces_35 rfl 4 rfl 36 rfl ?_
      refine x_iload C dX0_pieces_36 0 rfl 38 rfl ?_
      refine x_iconst C (v := -1) dX0_pieces_38 (by decide) 39 rfl ?_
      refine x_ixor C dX0_pieces_39 40 rfl ?_
      refine x_iand C dX0_pieces_40 41 rfl ?_
      obtain ⟨v41, e41, h⟩ := li_some h
      refine x_te e41 ?_
      refine x_istore_n C [(3, .int v41), (6, .int r30), (0, .ref (adr g 1)), (1, .int l1), (2, .int l2), (4, .int l4), (5, .int l5)] dX0_pieces_41 rfl (by decide) rfl 42 rfl ?_
      refine x_iload C dX0_pieces_42 5 rfl 44 rfl ?_
      refine x_iload_n C dX0_pieces_44 rfl 4 rfl 45 rfl ?_
      refine x_if_eq C dX0_pieces_45 58 (by decide) 48 rfl (fun hc => ?_) (fun hc => ?_)
      · have h := ip hc h
        refine x_iconst C (v := 1) dX0_pieces_58 (by decide) 59 rfl ?_
        refine x_iadd C dX0_pieces_59 60 rfl ?_
        refine x_istore C [(4, .int (l4 + 1)), (3, .int v41), (6, .int r30), (0, .ref (adr g 1)), (1, .int l1), (2, .int l2), (5, .int l5)] dX0_pieces_60 (by decide) rfl 62 rfl ?_
        refine x_iinc C [(5, .int (l5 + 1)), (4, .int (l4 + 1)), (3, .int v41), (6, .int r30), (0, .ref (adr g 1)), (1, .int l1), (2, .int l2)] dX0_pieces_62 6 rfl rfl (by decide) rfl 65 rfl ?_
        refine x_goto C dX0_pieces_65 8 (by decide) ?_
        cases h
        exact x_sub [4, 5, 6, 2, 1, 0] rfl (hI0 (v41, (l4 + 1), (l5 + 1)) ht)
      · have h := iq hc h
        refine x_iload C dX0_pieces_48 1 rfl 50 rfl ?_
        obtain ⟨r50, h50, h⟩ := bv_some h
        refine x_callS C [.int r30] (c_J6_bitCount_0f7a4  h50) mi_J6_bitCount_0f7a4 q_349 rfl ⟨rfl, rfl⟩ ⟨Nat.le_of_ble_eq_true rfl, Nat.le_of_ble_eq_true rfl⟩ ⟨Nat.zero_le _, Nat.zero_le _⟩ _ rfl (Nat.le_of_ble_eq_true rfl) dX0_pieces_50 53 rfl ?_
        refine x_iconst C (v := 1) dX0_pieces_53 (by decide) 54 rfl ?_
        refine x_iand C dX0_pieces_54 55 rfl ?_
        refine x_goto C dX0_pieces_55 59 (by decide) ?_
        refine x_iadd C dX0_pieces_59 60 rfl ?_
        obtain ⟨v60, e60, h⟩ := li_some h
        refine x_te e60 ?_
        refine x_istore C [(4, .int v60), (3, .int v41), (6, .int r30), (0, .ref (adr g 1)), (1, .int l1), (2, .int l2), (5, .int l5)] dX0_pieces_60 (by decide) rfl 62 rfl ?_
        refine x_iinc C [(5, .int (l5 + 1)), (4, .int v60), (3, .int v41), (6, .int r30), (0, .ref (adr g 1)), (1, .int l1), (2, .int l2)] dX0_pieces_62 6 rfl rfl (by decide) rfl 65 rfl ?_
        refine x_goto C dX0_pieces_65 8 (by decide) ?_
        cases h
        exact x_sub [4, 5, 6, 2, 1, 0] rfl (hI0 (v41, v60, (l5 + 1)) ht)
set_option maxHeartbeats 4000000 in
set_option maxRecDepth 100000 in
theorem w_X0_pieces_8 {x : Cx} {g : Gb} {E : Int32 → Prop} (C : CF x g RX0 cX0_pieces 7 (rmk 3 51))  {l1 : Int32} {l2 : Int32} {l3 : Int32} {l4 : Int32} {l5 : Int32} {σ : WD} (hE : ∀ (a : Int32), E a → ∀ pc lv, decode cX0_pieces pc = .ok (.ireturn, 1) → WW x g 7 0 0 pc lv [.int a] σ) {t : Int32} (h : f_X0_pieces_8 l1 l2 l3 l4 l5 σ = some t) (ht : E t) : WW x g 7 0 0 8 [(0, .ref (adr g 1)), (1, .int l1), (2, .int l2), (3, .int l3), (4, .int l4), (5, .int l5)] [] σ := by
  unfold f_X0_pieces_8 at h
  exact lp_ind (fun s : Int32 × Int32 × Int32 => WW x g 7 0 0 8 [(0, .ref (adr g 1)), (1, .int l1), (2, .int l2), (3, .int s.1), (4, .int s.2.1), (5, .int s.2.2)] [] σ) E h ht (fun s y hb hy => w_X0_pieces_b8 (E := Sum.elim (fun s : Int32 × Int32 × Int32 => WW x g 7 0 0 8 [(0, .ref (adr g 1)), (1, .int l1), (2, .int l2), (3, .int s.1), (4, .int s.2.1), (5, .int s.2.2)] [] σ) E) C  (fun _ h => h)  hE hb hy)
set_option maxHeartbeats 4000000 in
set_option maxRecDepth 100000 in
theorem w_X0_pieces {x : Cx} {g : Gb} {E : Int32 → Prop} (C : CF x g RX0 cX0_pieces 7 (rmk 3 51))  {a1 : Int32} {a2 : Int32} {σ : WD} (hE : ∀ (a : Int32), E a → ∀ pc lv, decode cX0_pieces pc = .ok (.ireturn, 1) → WW x g 7 0 0 pc lv [.int a] σ) {t : Int32} (h : f_X0_pieces a1 a2 σ = some t) (ht : E t) : WW x g 7 0 0 0 [(0, .ref (adr g 1)), (1, .int a1), (2, .int a2)] [] σ := by
  unfold f_X0_pieces at h
  refine x_iload_n C dX0_pieces_0 rfl 1 rfl 1 rfl ?_
  refine x_istore_n C [(3, .int a1), (0, .ref (adr g 1)), (1, .int a1), (2, .int a2)] dX0_pieces_1 rfl (by decide) rfl 2 rfl ?_
  refine x_iconst C (v := 0) dX0_pieces_2 (by decide) 3 rfl ?_
  refine x_istore C [(4, .int 0), (3, .int a1), (0, .ref (adr g 1)), (1, .int a1), (2, .int a2)] dX0_pieces_3 (by decide) rfl 5 rfl ?_
  refine x_iconst C (v := 0) dX0_pieces_5 (by decide) 6 rfl ?_
  refine x_istore C [(5, .int 0), (4, .int 0), (3, .int a1), (0, .ref (adr g 1)), (1, .int a1), (2, .int a2)] dX0_pieces_6 (by decide) rfl 8 rfl ?_
  exact x_sub [3, 4, 5, 2, 1, 0] rfl (w_X0_pieces_8 C  hE h ht)
set_option maxHeartbeats 4000000 in
set_option maxRecDepth 100000 in
theorem c_X0_pieces {g : Gb} {l : Launch}  {a1 : Int32} {a2 : Int32} {σ : WD} {r : Int32} (h : f_X0_pieces a1 a2 σ = some r) : MC l g yX0_pieces (.code yX0_pieces cX0_pieces 7 (some (.int))) (rmk 3 51) [.ref (adr g 1), .int a1, .int a2] σ (some (.int r)) σ := by
  refine MC.of (by decide) (Nat.le_of_ble_eq_true rfl) (fun x C hl hr hq => ?_)
  subst hl
  exact w_X0_pieces (E := fun z => z = r) C  (fun a he pc lv hd => by cases he; exact x_iret C hr hq hd) h rfl
set_option maxHeartbeats 4000000 in
set_option maxRecDepth 100000 in
theorem w_X0_edges_30 {x : Cx} {g : Gb} {E : Int32 → Prop} (C : CF x g RX0 cX0_edges 3 (rmk 2 22))  {l1 : Int32} {σ : WD} (hE : ∀ (a : Int32), E a → ∀ pc lv, decode cX0_edges pc = .ok (.ireturn, 1) → WW x g 3 0 0 pc lv [.int a] σ) {t : Int32} (h : f_X0_edges_30 l1 σ = some t) (ht : E t) : WW x g 3 0 0 30 [(1, .int l1)] [] σ := by
  unfold f_X0_edges_30 at h
  refine x_iload_n C dX0_edges_30 rfl 0 rfl 31 rfl ?_
  refine x_iconst C (v := 2) dX0_edges_31 (by decide) 32 rfl ?_
  obtain ⟨hz, h⟩ := gz_some h
  refine x_idiv C dX0_edges_32 hz 33 rfl ?_
  cases h
  exact hE _ ht 33 _ dX0_edges_33
set_option maxHeartbeats 4000000 in
set_option maxRecDepth 100000 in
theorem w_X0_edges_b4 {x : Cx} {g : Gb} {E : (Int32 × Int32) ⊕ (Int32) → Prop} (C : CF x g RX0 cX0_edges 3 (rmk 2 22))  {l1 : Int32} {l2 : Int32} {σ : WD} (hI0 : ∀ s, E (.inl s) → WW x g 3 0 0 4 [(0, .ref (adr g 1)), (1, .int s.1), (2, .int s.2)] [] σ) (hE : ∀ (a : Int32), E (.inr a) → ∀ pc lv, decode cX0_edges pc = .ok (.ireturn, 1) → WW x g 3 0 0 pc lv [.int a] σ) {t : (Int32 × Int32) ⊕ (Int32)} (h : f_X0_edges_b4 l1 l2 σ = some t) (ht : E t) : WW x g 3 0 0 4 [(0, .ref (adr g 1)), (1, .int l1), (2, .int l2)] [] σ := by
  unfold f_X0_edges_b4 at h
  refine x_iload_n C dX0_edges_4 rfl 2 rfl 5 rfl ?_
  refine x_aload_n C dX0_edges_5 rfl 0 rfl 6 rfl ?_
  refine gf_33_1 C dX0_edges_6 9 rfl ?_
  refine x_icmp_ge C dX0_edges_9 30 (by decide) 12 rfl (fun hc => ?_) (fun hc => ?_)
  · have h := ip hc h
    obtain ⟨_, hm0, rfl⟩ := mr_some h
    exact x_sub [1] rfl (w_X0_edges_30 (E := fun r => E (.inr r)) C  hE hm0 ht)
  · have h := iq hc h
    refine x_iload_n C dX0_edges_12 rfl 1 rfl 13 rfl ?_
    refine x_aload_n C dX0_edges_13 rfl 0 rfl 14 rfl ?_
    refine gf_37_1 C dX0_edges_14 17 rfl ?_
    refine x_iload_n C dX0_edges_17 rfl 2 rfl 18 rfl ?_
    obtain ⟨hin, h⟩ := gi_some h
    refine x_iald C 2 (gt_2 g _) hin dX0_edges_18 19 rfl ?_
    obtain ⟨r19, h19, h⟩ := bv_some h
    refine x_callS C [.int (σ.1 2 (l2 : Int32).toNatClampNeg)] (c_J6_bitCount_0f7a4  h19) mi_J6_bitCount_0f7a4 q_349 rfl ⟨rfl, rfl⟩ ⟨Nat.le_of_ble_eq_true rfl, Nat.le_of_ble_eq_true rfl⟩ ⟨Nat.zero_le _, Nat.zero_le _⟩ _ rfl (Nat.le_of_ble_eq_true rfl) dX0_edges_19 22 rfl ?_
    refine x_iadd C dX0_edges_22 23 rfl ?_
    refine x_istore_n C [(1, .int (l1 + r19)), (0, .ref (adr g 1)), (2, .int l2)] dX0_edges_23 rfl (by decide) rfl 24 rfl ?_
    refine x_iinc C [(2, .int (l2 + 1)), (1, .int (l1 + r19)), (0, .ref (adr g 1))] dX0_edges_24 2 rfl rfl (by decide) rfl 27 rfl ?_
    refine x_goto C dX0_edges_27 4 (by decide) ?_
    cases h
    exact x_sub [2, 1, 0] rfl (hI0 ((l1 + r19), (l2 + 1)) ht)
set_option maxHeartbeats 4000000 in
set_option maxRecDepth 100000 in
theorem w_X0_edges_4 {x : Cx} {g : Gb} {E : Int32 → Prop} (C : CF x g RX0 cX0_edges 3 (rmk 2 22))  {l1 : Int32} {l2 : Int32} {σ : WD} (hE : ∀ (a : Int32), E a → ∀ pc lv, decode cX0_edges pc = .ok (.ireturn, 1) → WW x g 3 0 0 pc lv [.int a] σ) {t : Int32} (h : f_X0_edges_4 l1 l2 σ = some t) (ht : E t) : WW x g 3 0 0 4 [(0, .ref (adr g 1)), (1, .int l1), (2, .int l2)] [] σ := by
  unfold f_X0_edges_4 at h
  exact lp_ind (fun s : Int32 × Int32 => WW x g 3 0 0 4 [(0, .ref (adr g 1)), (1, .int s.1), (2, .int s.2)] [] σ) E h ht (fun s y hb hy => w_X0_edges_b4 (E := Sum.elim (fun s : Int32 × Int32 => WW x g 3 0 0 4 [(0, .ref (adr g 1)), (1, .int s.1), (2, .int s.2)] [] σ) E) C  (fun _ h => h)  hE hb hy)
set_option maxHeartbeats 4000000 in
set_option maxRecDepth 100000 in
theorem w_X0_edges {x : Cx} {g : Gb} {E : Int32 → Prop} (C : CF x g RX0 cX0_edges 3 (rmk 2 22))   {σ : WD} (hE : ∀ (a : Int32), E a → ∀ pc lv, decode cX0_edges pc = .ok (.ireturn, 1) → WW x g 3 0 0 pc lv [.int a] σ) {t : Int32} (h : f_X0_edges  σ = some t) (ht : E t) : WW x g 3 0 0 0 [(0, .ref (adr g 1))] [] σ := by
  unfold f_X0_edges at h
  refine x_iconst C (v := 0) dX0_edges_0 (by decide) 1 rfl ?_
  refine x_istore_n C [(1, .int 0), (0, .ref (adr g 1))] dX0_edges_1 rfl (by decide) rfl 2 rfl ?_
  refine x_iconst C (v := 0) dX0_edges_2 (by decide) 3 rfl ?_
  refine x_istore_n C [(2, .int 0), (1, .int 0), (0, .ref (adr g 1))] dX0_edges_3 rfl (by decide) rfl 4 rfl ?_
  exact x_sub [2, 1, 0] rfl (w_X0_edges_4 C  hE h ht)
set_option maxHeartbeats 4000000 in
set_option maxRecDepth 100000 in
theorem c_X0_edges {g : Gb} {l : Launch}   {σ : WD} {r : Int32} (h : f_X0_edges  σ = some r) : MC l g yX0_edges (.code yX0_edges cX0_edges 3 (some (.int))) (rmk 2 22) [.ref (adr g 1)] σ (some (.int r)) σ := by
  refine MC.of (by decide) (Nat.le_of_ble_eq_true rfl) (fun x C hl hr hq => ?_)
  subst hl
  exact w_X0_edges (E := fun z => z = r) C  (fun a he pc lv hd => by cases he; exact x_iret C hr hq hd) h rfl
set_option maxHeartbeats 4000000 in
set_option maxRecDepth 100000 in
theorem w_X0_clear_d {x : Cx} {g : Gb} {E : WD → Prop} (C : CF x g RX0 cX0_clear 2 (rmk 2 44))  {a1 : Int32} {σ : WD} (hE : ∀ (s2 : WD), E s2 → ∀ pc lv, decode cX0_clear pc = .ok (.return_, 1) → WW x g 2 0 0 pc lv [] s2) {t : WD} (h : f_X0_clear_d a1 σ = some t) (ht : E t) : WW x g 2 0 0 0 [(0, .ref (adr g 27)), (1, .int a1)] [] σ := by
  unfold f_X0_clear_d at h
  refine x_aload_n C dX0_clear_0 rfl 0 rfl 1 rfl ?_
  refine x_iload_n C dX0_clear_1 rfl 1 rfl 2 rfl ?_
  refine pf_33_27 C dX0_clear_2 5 rfl ?_
  obtain ⟨σ2, e2, h⟩ := lt_some h
  refine x_we e2 ?_
  refine x_aload_n C dX0_clear_5 rfl 0 rfl 6 rfl ?_
  refine gf_37_27 C dX0_clear_6 9 rfl ?_
  refine x_iconst C (v := 0) dX0_clear_9 (by decide) 10 rfl ?_
  refine x_callS C [.ref (adr g 28), .int 0] (c_fill 28 12 (by decide) (fun σ => (gt_28 g σ)) (fun σ => (st_28 g σ)) 0) mi_J7_fill_53178 q_570 rfl ⟨rfl, rfl⟩ (by decide) (by decide) _ rfl (Nat.le_of_ble_eq_true rfl) dX0_clear_10 13 rfl ?_
  obtain ⟨σ10, e10, h⟩ := lt_some h
  refine x_we e10 ?_
  refine x_aload_n C dX0_clear_13 rfl 0 rfl 14 rfl ?_
  refine x_dup C dX0_clear_14 rfl 15 rfl ?_
  refine gf_41_27 C dX0_clear_15 18 rfl ?_
  refine x_iconst C (v := 1) dX0_clear_18 (by decide) 19 rfl ?_
  refine x_iadd C dX0_clear_19 20 rfl ?_
  refine pf_41_27 C dX0_clear_20 23 rfl ?_
  obtain ⟨σ20, e20, h⟩ := lt_some h
  refine x_we e20 ?_
  cases h
  exact hE _ ht 23 _ dX0_clear_23
set_option maxHeartbeats 4000000 in
set_option maxRecDepth 100000 in
theorem c_X0_clear_d {g : Gb} {l : Launch}  {a1 : Int32} {σ : WD} {σ2 : WD} (h : f_X0_clear_d a1 σ = some σ2) : MC l g yX0_clear (.code yX0_clear cX0_clear 2 none) (rmk 2 44) [.ref (adr g 27), .int a1] σ none σ2 := by
  refine MC.of (by decide) (Nat.le_of_ble_eq_true rfl) (fun x C hl hr hq => ?_)
  subst hl
  exact w_X0_clear_d (E := fun z => z = σ2) C  (fun a he pc lv hd => by cases he; exact x_vret C hr hq hd) h rfl
set_option maxHeartbeats 4000000 in
set_option maxRecDepth 100000 in
theorem w_X0_joined_d {x : Cx} {g : Gb} {E : Int32 → Prop} (C : CF x g RX0 cX0_joined 3 (rmk 1 1))  {a1 : Int32} {a2 : Int32} {σ : WD} (hE : ∀ (a : Int32), E a → ∀ pc lv, narrow .boolean (.int a) = .int a → decode cX0_joined pc = .ok (.ireturn, 1) → WW x g 3 0 0 pc lv [.int a] σ) {t : Int32} (h : f_X0_joined_d a1 a2 σ = some t) (ht : E t) : WW x g 3 0 0 0 [(0, .ref (adr g 27)), (1, .int a1), (2, .int a2)] [] σ := by
  unfold f_X0_joined_d at h
  refine x_aload_n C dX0_joined_0 rfl 0 rfl 1 rfl ?_
  refine gf_37_27 C dX0_joined_1 4 rfl ?_
  refine x_iload_n C dX0_joined_4 rfl 1 rfl 5 rfl ?_
  obtain ⟨hin, h⟩ := gi_some h
  refine x_iald C 28 (gt_28 g _) hin dX0_joined_5 6 rfl ?_
  refine x_iload_n C dX0_joined_6 rfl 2 rfl 7 rfl ?_
  refine x_ishr C dX0_joined_7 8 rfl ?_
  refine x_iconst C (v := 1) dX0_joined_8 (by decide) 9 rfl ?_
  refine x_iand C dX0_joined_9 10 rfl ?_
  refine x_if_eq C dX0_joined_10 17 (by decide) 13 rfl (fun hc => ?_) (fun hc => ?_)
  · have h := ip hc h
    refine x_iconst C (v := 0) dX0_joined_17 (by decide) 18 rfl ?_
    cases h
    exact hE _ ht 18 _ rfl dX0_joined_18
  · have h := iq hc h
    refine x_iconst C (v := 1) dX0_joined_13 (by decide) 14 rfl ?_
    refine x_goto C dX0_joined_14 18 (by decide) ?_
    cases h
    exact hE _ ht 18 _ rfl dX0_joined_18
set_option maxHeartbeats 4000000 in
set_option maxRecDepth 100000 in
theorem c_X0_joined_d {g : Gb} {l : Launch}  {a1 : Int32} {a2 : Int32} {σ : WD} {r : Int32} (h : f_X0_joined_d a1 a2 σ = some r) : MC l g yX0_joined (.code yX0_joined cX0_joined 3 (some (.boolean))) (rmk 1 1) [.ref (adr g 27), .int a1, .int a2] σ (some (.int r)) σ := by
  refine MC.of (by decide) (Nat.le_of_ble_eq_true rfl) (fun x C hl hr hq => ?_)
  subst hl
  exact w_X0_joined_d (E := fun z => z = r) C  (fun a he pc lv hn hd => by cases he; exact x_zret C hr hq hn hd) h rfl
set_option maxHeartbeats 4000000 in
set_option maxRecDepth 100000 in
theorem w_X0_put_d {x : Cx} {g : Gb} {E : WD → Prop} (C : CF x g RX0 cX0_put 4 (rmk 2 24))  {a1 : Int32} {a2 : Int32} {a3 : Int32} {σ : WD} (hE : ∀ (s2 : WD), E s2 → ∀ pc lv, decode cX0_put pc = .ok (.return_, 1) → WW x g 4 0 0 pc lv [] s2) {t : WD} (h : f_X0_put_d a1 a2 a3 σ = some t) (ht : E t) : WW x g 4 0 0 0 [(0, .ref (adr g 27)), (1, .int a1), (2, .int a2), (3, .int a3)] [] σ := by
  unfold f_X0_put_d at h
  refine x_aload_n C dX0_put_0 rfl 0 rfl 1 rfl ?_
  refine x_iload_n C dX0_put_1 rfl 1 rfl 2 rfl ?_
  refine x_iload_n C dX0_put_2 rfl 2 rfl 3 rfl ?_
  obtain ⟨r3, h3, h⟩ := bv_some h
  refine x_callV C 27 [.int a1, .int a2] (c_X0_joined_d  h3) mi_X0_joined (gt_27 g _) rfl q_575 rfl ⟨rfl, rfl⟩ ⟨Nat.le_of_ble_eq_true rfl, Nat.le_of_ble_eq_true rfl⟩ ⟨Nat.zero_le _, Nat.zero_le _⟩ _ rfl (Nat.le_of_ble_eq_true rfl) dX0_put_3 6 rfl ?_
  refine x_iload_n C dX0_put_6 rfl 3 rfl 7 rfl ?_
  refine x_icmp_eq C dX0_put_7 44 (by decide) 10 rfl (fun hc => ?_) (fun hc => ?_)
  · have h := ip hc h
    cases h
    exact hE _ ht 44 _ dX0_put_44
  · have h := iq hc h
    refine x_aload_n C dX0_put_10 rfl 0 rfl 11 rfl ?_
    refine gf_37_27 C dX0_put_11 14 rfl ?_
    refine x_iload_n C dX0_put_14 rfl 1 rfl 15 rfl ?_
    refine x_dup2 C dX0_put_15 rfl rfl 16 rfl ?_
    obtain ⟨hin, h⟩ := gi_some h
    refine x_iald C 28 (gt_28 g _) hin dX0_put_16 17 rfl ?_
    refine x_iconst C (v := 1) dX0_put_17 (by decide) 18 rfl ?_
    refine x_iload_n C dX0_put_18 rfl 2 rfl 19 rfl ?_
    refine x_ishl C dX0_put_19 20 rfl ?_
    refine x_ixor C dX0_put_20 21 rfl ?_
    obtain ⟨hin, h⟩ := gi_some h
    refine x_iast C 28 (gt_28 g _) (st_28 g _) hin dX0_put_21 22 rfl ?_
    obtain ⟨σ21, e21, h⟩ := lt_some h
    refine x_we e21 ?_
    refine x_aload_n C dX0_put_22 rfl 0 rfl 23 rfl ?_
    refine gf_37_27 C dX0_put_23 26 rfl ?_
    refine x_iload_n C dX0_put_26 rfl 2 rfl 27 rfl ?_
    refine x_dup2 C dX0_put_27 rfl rfl 28 rfl ?_
    obtain ⟨hin, h⟩ := gi_some h
    refine x_iald C 28 (gt_28 g _) hin dX0_put_28 29 rfl ?_
    refine x_iconst C (v := 1) dX0_put_29 (by decide) 30 rfl ?_
    refine x_iload_n C dX0_put_30 rfl 1 rfl 31 rfl ?_
    refine x_ishl C dX0_put_31 32 rfl ?_
    refine x_ixor C dX0_put_32 33 rfl ?_
    obtain ⟨hin, h⟩ := gi_some h
    refine x_iast C 28 (gt_28 g _) (st_28 g _) hin dX0_put_33 34 rfl ?_
    obtain ⟨σ33, e33, h⟩ := lt_some h
    refine x_we e33 ?_
    refine x_aload_n C dX0_put_34 rfl 0 rfl 35 rfl ?_
    refine x_dup C dX0_put_35 rfl 36 rfl ?_
    refine gf_41_27 C dX0_put_36 39 rfl ?_
    refine x_iconst C (v := 1) dX0_put_39 (by decide) 40 rfl ?_
    refine x_iadd C dX0_put_40 41 rfl ?_
    refine pf_41_27 C dX0_put_41 44 rfl ?_
    obtain ⟨σ41, e41, h⟩ := lt_some h
    refine x_we e41 ?_
    cases h
    exact hE _ ht 44 _ dX0_put_44
set_option maxHeartbeats 4000000 in
set_option maxRecDepth 100000 in
theorem c_X0_put_d {g : Gb} {l : Launch}  {a1 : Int32} {a2 : Int32} {a3 : Int32} {σ : WD} {σ2 : WD} (h : f_X0_put_d a1 a2 a3 σ = some σ2) : MC l g yX0_put (.code yX0_put cX0_put 4 none) (rmk 2 24) [.ref (adr g 27), .int a1, .int a2, .int a3] σ none σ2 := by
  refine MC.of (by decide) (Nat.le_of_ble_eq_true rfl) (fun x C hl hr hq => ?_)
  subst hl
  exact w_X0_put_d (E := fun z => z = σ2) C  (fun a he pc lv hd => by cases he; exact x_vret C hr hq hd) h rfl
set_option maxHeartbeats 4000000 in
set_option maxRecDepth 100000 in
theorem w_X0_pieceOf_d_b10 {x : Cx} {g : Gb} {E : (Int32 × Int32 × Int32) ⊕ (Int32) → Prop} (C : CF x g RX0 cX0_pieceOf 8 (rmk 2 23))  {l2 : Int32} {l3 : Int32} {l4 : Int32} {l5 : Int32} {σ : WD} (hI0 : ∀ s, E (.inl s) → WW x g 8 0 0 10 [(0, .ref (adr g 27)), (2, .int l2), (3, .int s.1), (4, .int s.2.1), (5, .int s.2.2)] [] σ) (hE : ∀ (a : Int32), E (.inr a) → ∀ pc lv, decode cX0_pieceOf pc = .ok (.ireturn, 1) → WW x g 8 0 0 pc lv [.int a] σ) {t : (Int32 × Int32 × Int32) ⊕ (Int32)} (h : f_X0_pieceOf_d_b10 l2 l3 l4 l5 σ = some t) (ht : E t) : WW x g 8 0 0 10 [(0, .ref (adr g 27)), (2, .int l2), (3, .int l3), (4, .int l4), (5, .int l5)] [] σ := by
  unfold f_X0_pieceOf_d_b10 at h
  refine x_iload C dX0_pieceOf_10 4 rfl 12 rfl ?_
  refine x_aload_n C dX0_pieceOf_12 rfl 0 rfl 13 rfl ?_
  refine gf_33_27 C dX0_pieceOf_13 16 rfl ?_
  refine x_icmp_ge C dX0_pieceOf_16 71 (by decide) 19 rfl (fun hc => ?_) (fun hc => ?_)
  · have h := ip hc h
    refine x_iload_n C dX0_pieceOf_71 rfl 2 rfl 72 rfl ?_
    cases h
    exact hE _ ht 72 _ dX0_pieceOf_72
  · have h := iq hc h
    refine x_iload C dX0_pieceOf_19 3 rfl 21 rfl ?_
    refine x_if_eq C dX0_pieceOf_21 71 (by decide) 24 rfl (fun hc => ?_) (fun hc => ?_)
    · have h := ip hc h
      refine x_iload_n C dX0_pieceOf_71 rfl 2 rfl 72 rfl ?_
      cases h
      exact hE _ ht 72 _ dX0_pieceOf_72
    · have h := iq hc h
      refine x_iload C dX0_pieceOf_24 3 rfl 26 rfl ?_
      obtain ⟨r26, h26, h⟩ := bv_some h
      refine x_callS C [.int l4] (c_J6_numberOfTrailingZeros_0f7a4  h26) mi_J6_numberOfTrailingZeros_0f7a4 q_345 rfl ⟨rfl, rfl⟩ ⟨Nat.le_of_ble_eq_true rfl, Nat.le_of_ble_eq_true rfl⟩ ⟨Nat.zero_le _, Nat.zero_le _⟩ _ rfl (Nat.le_of_ble_eq_true rfl) dX0_pieceOf_26 29 rfl ?_
      refine x_istore C [(6, .int r26), (0, .ref (adr g 27)), (2, .int l2), (3, .int l3), (4, .int l4), (5, .int l5)] dX0_pieceOf_29 (by decide) rfl 31 rfl ?_
      refine x_aload_n C dX0_pieceOf_31 rfl 1 rfl 32 rfl ?_
      refine gf_37_27 C dX0_pieceOf_32 35 rfl ?_
      refine x_iload C dX0_pieceOf_35 0 rfl 37 rfl ?_
      obtain ⟨hin, h⟩ := gi_some h
      refine x_iald C 28 (gt_28 g _) hin dX0_pieceOf_37 38 rfl ?_
      refine x_iload_n C dX0_pieceOf_38 rfl 2 rfl 39 rfl ?_
      refine x_iand C dX0_pieceOf_39 40 rfl ?_
      refine x_iload_n C dX0_pieceOf_40 rfl 3 rfl 41 rfl ?_
      refine x_iconst C (v := -1) dX0_pieceOf_41 (by decide) 42 rfl ?_
      refine x_ixor C dX0_pieceOf_42 43 rfl ?_
      refine x_iand C dX0_pieceOf_43 44 rfl ?_
      obtain ⟨v44, e44, h⟩ := li_some h
      refine x_te e44 ?_
      refine x_istore C [(7, .int v44), (6, .int r26), (0, .ref (adr g 27)), (2, .int l2), (3, .int l3), (4, .int l4), (5, .int l5)] dX0_pieceOf_44 (by decide) rfl 46 rfl ?_
      refine x_iload_n C dX0_pieceOf_46 rfl 4 rfl 47 rfl ?_
      refine x_iload C dX0_pieceOf_47 0 rfl 49 rfl ?_
      refine x_ior C dX0_pieceOf_49 50 rfl ?_
      refine x_istore_n C [(3, .int (l3 ||| v44)), (7, .int v44), (6, .int r26), (0, .ref (adr g 27)), (2, .int l2), (4, .int l4), (5, .int l5)] dX0_pieceOf_50 rfl (by decide) rfl 51 rfl ?_
      refine x_iload C dX0_pieceOf_51 5 rfl 53 rfl ?_
      refine x_iconst C (v := 1) dX0_pieceOf_53 (by decide) 54 rfl ?_
      refine x_iload C dX0_pieceOf_54 2 rfl 56 rfl ?_
      refine x_ishl C dX0_pieceOf_56 57 rfl ?_
      refine x_iconst C (v := -1) dX0_pieceOf_57 (by decide) 58 rfl ?_
      refine x_ixor C dX0_pieceOf_58 59 rfl ?_
      refine x_iand C dX0_pieceOf_59 60 rfl ?_
      refine x_iload C dX0_pieceOf_60 1 rfl 62 rfl ?_
      refine x_ior C dX0_pieceOf_62 63 rfl ?_
      obtain ⟨v63, e63, h⟩ := li_some h
      refine x_te e63 ?_
      refine x_istore C [(4, .int v63), (3, .int (l3 ||| v44)), (7, .int v44), (6, .int r26), (0, .ref (adr g 27)), (2, .int l2), (5, .int l5)] dX0_pieceOf_63 (by decide) rfl 65 rfl ?_
      refine x_iinc C [(5, .int (l5 + 1)), (4, .int v63), (3, .int (l3 ||| v44)), (7, .int v44), (6, .int r26), (0, .ref (adr g 27)), (2, .int l2)] dX0_pieceOf_65 6 rfl rfl (by decide) rfl 68 rfl ?_
      refine x_goto C dX0_pieceOf_68 10 (by decide) ?_
      cases h
      exact x_sub [5, 6, 2, 1, 0] rfl (hI0 ((l3 ||| v44), v63, (l5 + 1)) ht)
set_option maxHeartbeats 4000000 in
set_option maxRecDepth 100000 in
theorem w_X0_pieceOf_d_10 {x : Cx} {g : Gb} {E : Int32 → Prop} (C : CF x g RX0 cX0_pieceOf 8 (rmk 2 23))  {l2 : Int32} {l3 : Int32} {l4 : Int32} {l5 : Int32} {σ : WD} (hE : ∀ (a : Int32), E a → ∀ pc lv, decode cX0_pieceOf pc = .ok (.ireturn, 1) → WW x g 8 0 0 pc lv [.int a] σ) {t : Int32} (h : f_X0_pieceOf_d_10 l2 l3 l4 l5 σ = some t) (ht : E t) : WW x g 8 0 0 10 [(0, .ref (adr g 27)), (2, .int l2), (3, .int l3), (4, .int l4), (5, .int l5)] [] σ := by
  unfold f_X0_pieceOf_d_10 at h
  exact lp_ind (fun s : Int32 × Int32 × Int32 => WW x g 8 0 0 10 [(0, .ref (adr g 27)), (2, .int l2), (3, .int s.1), (4, .int s.2.1), (5, .int s.2.2)] [] σ) E h ht (fun s y hb hy => w_X0_pieceOf_d_b10 (E := Sum.elim (fun s : Int32 × Int32 × Int32 => WW x g 8 0 0 10 [(0, .ref (adr g 27)), (2, .int l2), (3, .int s.1), (4, .int s.2.1), (5, .int s.2.2)] [] σ) E) C  (fun _ h => h)  hE hb hy)
set_option maxHeartbeats 4000000 in
set_option maxRecDepth 100000 in
theorem w_X0_pieceOf_d {x : Cx} {g : Gb} {E : Int32 → Prop} (C : CF x g RX0 cX0_pieceOf 8 (rmk 2 23))  {a1 : Int32} {a2 : Int32} {σ : WD} (hE : ∀ (a : Int32), E a → ∀ pc lv, decode cX0_pieceOf pc = .ok (.ireturn, 1) → WW x g 8 0 0 pc lv [.int a] σ) {t : Int32} (h : f_X0_pieceOf_d a1 a2 σ = some t) (ht : E t) : WW x g 8 0 0 0 [(0, .ref (adr g 27)), (1, .int a1), (2, .int a2)] [] σ := by
  unfold f_X0_pieceOf_d at h
  refine x_iconst C (v := 1) dX0_pieceOf_0 (by decide) 1 rfl ?_
  refine x_iload_n C dX0_pieceOf_1 rfl 1 rfl 2 rfl ?_
  refine x_ishl C dX0_pieceOf_2 3 rfl ?_
  obtain ⟨v3, e3, h⟩ := li_some h
  refine x_te e3 ?_
  refine x_istore_n C [(3, .int v3), (0, .ref (adr g 27)), (1, .int a1), (2, .int a2)] dX0_pieceOf_3 rfl (by decide) rfl 4 rfl ?_
  refine x_iload_n C dX0_pieceOf_4 rfl 0 rfl 5 rfl ?_
  refine x_istore C [(4, .int v3), (3, .int v3), (0, .ref (adr g 27)), (1, .int a1), (2, .int a2)] dX0_pieceOf_5 (by decide) rfl 7 rfl ?_
  refine x_iconst C (v := 0) dX0_pieceOf_7 (by decide) 8 rfl ?_
  refine x_istore C [(5, .int 0), (4, .int v3), (3, .int v3), (0, .ref (adr g 27)), (1, .int a1), (2, .int a2)] dX0_pieceOf_8 (by decide) rfl 10 rfl ?_
  exact x_sub [3, 5, 2, 1, 0] rfl (w_X0_pieceOf_d_10 C  hE h ht)
set_option maxHeartbeats 4000000 in
set_option maxRecDepth 100000 in
theorem c_X0_pieceOf_d {g : Gb} {l : Launch}  {a1 : Int32} {a2 : Int32} {σ : WD} {r : Int32} (h : f_X0_pieceOf_d a1 a2 σ = some r) : MC l g yX0_pieceOf (.code yX0_pieceOf cX0_pieceOf 8 (some (.int))) (rmk 2 23) [.ref (adr g 27), .int a1, .int a2] σ (some (.int r)) σ := by
  refine MC.of (by decide) (Nat.le_of_ble_eq_true rfl) (fun x C hl hr hq => ?_)
  subst hl
  exact w_X0_pieceOf_d (E := fun z => z = r) C  (fun a he pc lv hd => by cases he; exact x_iret C hr hq hd) h rfl
set_option maxHeartbeats 4000000 in
set_option maxRecDepth 100000 in
theorem w_X0_hasNoEnd_d_b2 {x : Cx} {g : Gb} {E : (Int32) ⊕ (Int32) → Prop} (C : CF x g RX0 cX0_hasNoEnd 3 (rmk 2 22))  {l1 : Int32} {l2 : Int32} {σ : WD} (hI0 : ∀ s, E (.inl s) → WW x g 3 0 0 2 [(0, .ref (adr g 27)), (1, .int l1), (2, .int s)] [] σ) (hE : ∀ (a : Int32), E (.inr a) → ∀ pc lv, narrow .boolean (.int a) = .int a → decode cX0_hasNoEnd pc = .ok (.ireturn, 1) → WW x g 3 0 0 pc lv [.int a] σ) {t : (Int32) ⊕ (Int32)} (h : f_X0_hasNoEnd_d_b2 l1 l2 σ = some t) (ht : E t) : WW x g 3 0 0 2 [(0, .ref (adr g 27)), (1, .int l1), (2, .int l2)] [] σ := by
  unfold f_X0_hasNoEnd_d_b2 at h
  refine x_iload_n C dX0_hasNoEnd_2 rfl 2 rfl 3 rfl ?_
  refine x_aload_n C dX0_hasNoEnd_3 rfl 0 rfl 4 rfl ?_
  refine gf_33_27 C dX0_hasNoEnd_4 7 rfl ?_
  refine x_icmp_ge C dX0_hasNoEnd_7 39 (by decide) 10 rfl (fun hc => ?_) (fun hc => ?_)
  · have h := ip hc h
    refine x_iconst C (v := 1) dX0_hasNoEnd_39 (by decide) 40 rfl ?_
    cases h
    exact hE _ ht 40 _ rfl dX0_hasNoEnd_40
  · have h := iq hc h
    refine x_iload_n C dX0_hasNoEnd_10 rfl 1 rfl 11 rfl ?_
    refine x_iload_n C dX0_hasNoEnd_11 rfl 2 rfl 12 rfl ?_
    refine x_ishr C dX0_hasNoEnd_12 13 rfl ?_
    refine x_iconst C (v := 1) dX0_hasNoEnd_13 (by decide) 14 rfl ?_
    refine x_iand C dX0_hasNoEnd_14 15 rfl ?_
    refine x_if_eq C dX0_hasNoEnd_15 33 (by decide) 18 rfl (fun hc => ?_) (fun hc => ?_)
    · have h := ip hc h
      refine x_iinc C [(2, .int (l2 + 1)), (0, .ref (adr g 27)), (1, .int l1)] dX0_hasNoEnd_33 2 rfl rfl (by decide) rfl 36 rfl ?_
      refine x_goto C dX0_hasNoEnd_36 2 (by decide) ?_
      cases h
      exact x_sub [1, 2, 0] rfl (hI0 (l2 + 1) ht)
    · have h := iq hc h
      refine x_aload_n C dX0_hasNoEnd_18 rfl 0 rfl 19 rfl ?_
      refine gf_37_27 C dX0_hasNoEnd_19 22 rfl ?_
      refine x_iload_n C dX0_hasNoEnd_22 rfl 2 rfl 23 rfl ?_
      obtain ⟨hin, h⟩ := gi_some h
      refine x_iald C 28 (gt_28 g _) hin dX0_hasNoEnd_23 24 rfl ?_
      obtain ⟨r24, h24, h⟩ := bv_some h
      refine x_callS C [.int (σ.1 28 (l2 : Int32).toNatClampNeg)] (c_J6_bitCount_0f7a4  h24) mi_J6_bitCount_0f7a4 q_349 rfl ⟨rfl, rfl⟩ ⟨Nat.le_of_ble_eq_true rfl, Nat.le_of_ble_eq_true rfl⟩ ⟨Nat.zero_le _, Nat.zero_le _⟩ _ rfl (Nat.le_of_ble_eq_true rfl) dX0_hasNoEnd_24 27 rfl ?_
      refine x_iconst C (v := 2) dX0_hasNoEnd_27 (by decide) 28 rfl ?_
      refine x_icmp_ge C dX0_hasNoEnd_28 33 (by decide) 31 rfl (fun hc => ?_) (fun hc => ?_)
      · have h := ip hc h
        refine x_iinc C [(2, .int (l2 + 1)), (0, .ref (adr g 27)), (1, .int l1)] dX0_hasNoEnd_33 2 rfl rfl (by decide) rfl 36 rfl ?_
        refine x_goto C dX0_hasNoEnd_36 2 (by decide) ?_
        cases h
        exact x_sub [1, 2, 0] rfl (hI0 (l2 + 1) ht)
      · have h := iq hc h
        refine x_iconst C (v := 0) dX0_hasNoEnd_31 (by decide) 32 rfl ?_
        cases h
        exact hE _ ht 32 _ rfl dX0_hasNoEnd_32
set_option maxHeartbeats 4000000 in
set_option maxRecDepth 100000 in
theorem w_X0_hasNoEnd_d_2 {x : Cx} {g : Gb} {E : Int32 → Prop} (C : CF x g RX0 cX0_hasNoEnd 3 (rmk 2 22))  {l1 : Int32} {l2 : Int32} {σ : WD} (hE : ∀ (a : Int32), E a → ∀ pc lv, narrow .boolean (.int a) = .int a → decode cX0_hasNoEnd pc = .ok (.ireturn, 1) → WW x g 3 0 0 pc lv [.int a] σ) {t : Int32} (h : f_X0_hasNoEnd_d_2 l1 l2 σ = some t) (ht : E t) : WW x g 3 0 0 2 [(0, .ref (adr g 27)), (1, .int l1), (2, .int l2)] [] σ := by
  unfold f_X0_hasNoEnd_d_2 at h
  exact lp_ind (fun s : Int32 => WW x g 3 0 0 2 [(0, .ref (adr g 27)), (1, .int l1), (2, .int s)] [] σ) E h ht (fun s y hb hy => w_X0_hasNoEnd_d_b2 (E := Sum.elim (fun s : Int32 => WW x g 3 0 0 2 [(0, .ref (adr g 27)), (1, .int l1), (2, .int s)] [] σ) E) C  (fun _ h => h)  hE hb hy)
set_option maxHeartbeats 4000000 in
set_option maxRecDepth 100000 in
theorem w_X0_hasNoEnd_d {x : Cx} {g : Gb} {E : Int32 → Prop} (C : CF x g RX0 cX0_hasNoEnd 3 (rmk 2 22))  {a1 : Int32} {σ : WD} (hE : ∀ (a : Int32), E a → ∀ pc lv, narrow .boolean (.int a) = .int a → decode cX0_hasNoEnd pc = .ok (.ireturn, 1) → WW x g 3 0 0 pc lv [.int a] σ) {t : Int32} (h : f_X0_hasNoEnd_d a1 σ = some t) (ht : E t) : WW x g 3 0 0 0 [(0, .ref (adr g 27)), (1, .int a1)] [] σ := by
  unfold f_X0_hasNoEnd_d at h
  refine x_iconst C (v := 0) dX0_hasNoEnd_0 (by decide) 1 rfl ?_
  refine x_istore_n C [(2, .int 0), (0, .ref (adr g 27)), (1, .int a1)] dX0_hasNoEnd_1 rfl (by decide) rfl 2 rfl ?_
  exact x_sub [1, 2, 0] rfl (w_X0_hasNoEnd_d_2 C  hE h ht)
set_option maxHeartbeats 4000000 in
set_option maxRecDepth 100000 in
theorem c_X0_hasNoEnd_d {g : Gb} {l : Launch}  {a1 : Int32} {σ : WD} {r : Int32} (h : f_X0_hasNoEnd_d a1 σ = some r) : MC l g yX0_hasNoEnd (.code yX0_hasNoEnd cX0_hasNoEnd 3 (some (.boolean))) (rmk 2 22) [.ref (adr g 27), .int a1] σ (some (.int r)) σ := by
  refine MC.of (by decide) (Nat.le_of_ble_eq_true rfl) (fun x C hl hr hq => ?_)
  subst hl
  exact w_X0_hasNoEnd_d (E := fun z => z = r) C  (fun a he pc lv hn hd => by cases he; exact x_zret C hr hq hn hd) h rfl
