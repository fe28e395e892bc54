set_option maxHeartbeats 4000000 in
set_option maxRecDepth 100000 in
theorem w_X3_clear {x : Cx} {g : Gb} {E : WD → Prop} (C : CF x g RX3 cX3_clear 1 (rmk 2 44))   {σ : WD} (hE : ∀ (s2 : WD), E s2 → ∀ pc lv, decode cX3_clear pc = .ok (.return_, 1) → WW x g 1 0 0 pc lv [] s2) {t : WD} (h : f_X3_clear  σ = some t) (ht : E t) : WW x g 1 0 0 0 [(0, .ref (adr g 3))] [] σ := by
  unfold f_X3_clear at h
  refine x_aload_n C dX3_clear_0 rfl 0 rfl 1 rfl ?_
  refine gf_60_3 C dX3_clear_1 4 rfl ?_
  refine x_iconst C (v := -1) dX3_clear_4 (by decide) 5 rfl ?_
  refine x_callS C [.ref (adr g 4), .int (-1)] (c_fill 4 12 (by decide) (fun σ => (gt_4 g σ)) (fun σ => (st_4 g σ)) (-1)) mi_J7_fill_53178 q_57 rfl ⟨rfl, rfl⟩ (by decide) (by decide) _ rfl (Nat.le_of_ble_eq_true rfl) dX3_clear_5 8 rfl ?_
  obtain ⟨σ5, e5, h⟩ := lt_some h
  refine x_we e5 ?_
  cases h
  exact hE _ ht 8 _ dX3_clear_8
set_option maxHeartbeats 4000000 in
set_option maxRecDepth 100000 in
theorem c_X3_clear {g : Gb} {l : Launch}   {σ : WD} {σ2 : WD} (h : f_X3_clear  σ = some σ2) : MC l g yX3_clear (.code yX3_clear cX3_clear 1 none) (rmk 2 44) [.ref (adr g 3)] σ none σ2 := by
  refine MC.of (by decide) (Nat.le_of_ble_eq_true rfl) (fun x C hl hr hq => ?_)
  subst hl
  exact w_X3_clear (E := fun z => z = σ2) C  (fun a he pc lv hd => by cases he; exact x_vret C hr hq hd) h rfl
set_option maxHeartbeats 4000000 in
set_option maxRecDepth 100000 in
theorem w_X1_clear {x : Cx} {g : Gb} {E : WD → Prop} (C : CF x g RX1 cX1_clear 1 (rmk 1 1))   {σ : WD} (hE : ∀ (s2 : WD), E s2 → ∀ pc lv, decode cX1_clear pc = .ok (.return_, 1) → WW x g 1 0 0 pc lv [] s2) {t : WD} (h : f_X1_clear  σ = some t) (ht : E t) : WW x g 1 0 0 0 [(0, .ref (adr g 7))] [] σ := by
  unfold f_X1_clear at h
  refine x_aload_n C dX1_clear_0 rfl 0 rfl 1 rfl ?_
  refine x_iconst C (v := 0) dX1_clear_1 (by decide) 2 rfl ?_
  refine pf_93_7 C dX1_clear_2 5 rfl ?_
  obtain ⟨σ2, e2, h⟩ := lt_some h
  refine x_we e2 ?_
  cases h
  exact hE _ ht 5 _ dX1_clear_5
set_option maxHeartbeats 4000000 in
set_option maxRecDepth 100000 in
theorem c_X1_clear {g : Gb} {l : Launch}   {σ : WD} {σ2 : WD} (h : f_X1_clear  σ = some σ2) : MC l g yX1_clear (.code yX1_clear cX1_clear 1 none) (rmk 1 1) [.ref (adr g 7)] σ none σ2 := by
  refine MC.of (by decide) (Nat.le_of_ble_eq_true rfl) (fun x C hl hr hq => ?_)
  subst hl
  exact w_X1_clear (E := fun z => z = σ2) C  (fun a he pc lv hd => by cases he; exact x_vret C hr hq hd) h rfl
set_option maxHeartbeats 4000000 in
set_option maxRecDepth 100000 in
theorem w_X1_save {x : Cx} {g : Gb} {E : WD → Prop} (C : CF x g RX1 cX1_save 3 (rmk 2 61))   {σ : WD} (hE : ∀ (s2 : WD), E s2 → ∀ pc lv, decode cX1_save pc = .ok (.return_, 1) → WW x g 3 0 0 pc lv [] s2) {t : WD} (h : f_X1_save  σ = some t) (ht : E t) : WW x g 3 0 0 0 [(0, .ref (adr g 7)), (1, .ref (adr g 1)), (2, .ref (adr g 3))] [] σ := by
  unfold f_X1_save at h
  refine x_aload_n C dX1_save_0 rfl 0 rfl 1 rfl ?_
  refine x_aload_n C dX1_save_1 rfl 0 rfl 2 rfl ?_
  refine gf_92_7 C dX1_save_2 5 rfl ?_
  refine x_iconst C (v := 1) dX1_save_5 (by decide) 6 rfl ?_
  refine x_iadd C dX1_save_6 7 rfl ?_
  refine x_iconst C (v := 4) dX1_save_7 (by decide) 8 rfl ?_
  obtain ⟨hz, h⟩ := gz_some h
  refine x_irem C dX1_save_8 hz 9 rfl ?_
  refine pf_92_7 C dX1_save_9 12 rfl ?_
  obtain ⟨σ9, e9, h⟩ := lt_some h
  refine x_we e9 ?_
  refine x_aload_n C dX1_save_12 rfl 1 rfl 13 rfl ?_
  refine gf_38_1 C dX1_save_13 16 rfl ?_
  refine x_iconst C (v := 0) dX1_save_16 (by decide) 17 rfl ?_
  refine x_aload_n C dX1_save_17 rfl 0 rfl 18 rfl ?_
  refine gf_90_7 C dX1_save_18 21 rfl ?_
  refine x_aload_n C dX1_save_21 rfl 0 rfl 22 rfl ?_
  refine gf_92_7 C dX1_save_22 25 rfl ?_
  obtain ⟨hin25, h⟩ := gi_some h
  refine x_aald C 8 9 (gt_8 g _) hin25 dX1_save_25 26 rfl ?_
  refine x_iconst C (v := 0) dX1_save_26 (by decide) 27 rfl ?_
  refine x_bipush C (v := 12) dX1_save_27 (by decide) 29 rfl ?_
  refine x_copy C 2 (9 + ((σ9.1 7 2) : Int32).toNatClampNeg) q_212 q_214 q_213 q_15 (gt_2 g _) (gt_r9 g _ (ix_lt hin25)) (st_r9 g _ (ix_lt hin25)) (by decide) (by decide) (by decide) (by decide) dX1_save_29 32 rfl ?_
  obtain ⟨σ29, e29, h⟩ := lt_some h
  refine x_we e29 ?_
  refine x_aload_n C dX1_save_32 rfl 2 rfl 33 rfl ?_
  refine gf_62_3 C dX1_save_33 36 rfl ?_
  refine x_iconst C (v := 0) dX1_save_36 (by decide) 37 rfl ?_
  refine x_aload_n C dX1_save_37 rfl 0 rfl 38 rfl ?_
  refine gf_91_7 C dX1_save_38 41 rfl ?_
  refine x_aload_n C dX1_save_41 rfl 0 rfl 42 rfl ?_
  refine gf_92_7 C dX1_save_42 45 rfl ?_
  obtain ⟨hin45, h⟩ := gi_some h
  refine x_aald C 13 14 (gt_13 g _) hin45 dX1_save_45 46 rfl ?_
  refine x_iconst C (v := 0) dX1_save_46 (by decide) 47 rfl ?_
  refine x_bipush C (v := 12) dX1_save_47 (by decide) 49 rfl ?_
  refine x_copy C 4 (14 + ((σ29.1 7 2) : Int32).toNatClampNeg) q_212 q_214 q_213 q_15 (gt_4 g _) (gt_r14 g _ (ix_lt hin45)) (st_r14 g _ (ix_lt hin45)) (by decide) (by decide) (by decide) (by decide) dX1_save_49 52 rfl ?_
  obtain ⟨σ49, e49, h⟩ := lt_some h
  refine x_we e49 ?_
  refine x_aload_n C dX1_save_52 rfl 0 rfl 53 rfl ?_
  refine x_aload_n C dX1_save_53 rfl 0 rfl 54 rfl ?_
  refine gf_93_7 C dX1_save_54 57 rfl ?_
  refine x_iconst C (v := 1) dX1_save_57 (by decide) 58 rfl ?_
  refine x_iadd C dX1_save_58 59 rfl ?_
  refine x_iconst C (v := 4) dX1_save_59 (by decide) 60 rfl ?_
  refine x_mmin C q_215 q_216 q_16 q_217 (Nat.le_of_ble_eq_true rfl) (Nat.le_of_ble_eq_true rfl) ⟨Nat.zero_le _, Nat.zero_le _⟩ dX1_save_60 63 rfl ?_
  refine pf_93_7 C dX1_save_63 66 rfl ?_
  obtain ⟨σ63, e63, h⟩ := lt_some h
  refine x_we e63 ?_
  cases h
  exact hE _ ht 66 _ dX1_save_66
set_option maxHeartbeats 4000000 in
set_option maxRecDepth 100000 in
theorem c_X1_save {g : Gb} {l : Launch}   {σ : WD} {σ2 : WD} (h : f_X1_save  σ = some σ2) : MC l g yX1_save (.code yX1_save cX1_save 3 none) (rmk 2 61) [.ref (adr g 7), .ref (adr g 1), .ref (adr g 3)] σ none σ2 := by
  refine MC.of (by decide) (Nat.le_of_ble_eq_true rfl) (fun x C hl hr hq => ?_)
  subst hl
  exact w_X1_save (E := fun z => z = σ2) C  (fun a he pc lv hd => by cases he; exact x_vret C hr hq hd) h rfl
set_option maxHeartbeats 4000000 in
set_option maxRecDepth 100000 in
theorem w_X3_has {x : Cx} {g : Gb} {E : Int32 → Prop} (C : CF x g RX3 cX3_has 3 (rmk 1 1))  {a1 : Int32} {a2 : Int32} {σ : WD} (hE : ∀ (a : Int32), E a → ∀ pc lv, narrow .boolean (.int a) = .int a → decode cX3_has pc = .ok (.ireturn, 1) → WW x g 3 0 0 pc lv [.int a] σ) {t : Int32} (h : f_X3_has a1 a2 σ = some t) (ht : E t) : WW x g 3 0 0 0 [(0, .ref (adr g 3)), (1, .int a1), (2, .int a2)] [] σ := by
  unfold f_X3_has at h
  refine x_aload_n C dX3_has_0 rfl 0 rfl 1 rfl ?_
  refine gf_60_3 C dX3_has_1 4 rfl ?_
  refine x_iload_n C dX3_has_4 rfl 1 rfl 5 rfl ?_
  obtain ⟨hin, h⟩ := gi_some h
  refine x_iald C 4 (gt_4 g _) hin dX3_has_5 6 rfl ?_
  refine x_iload_n C dX3_has_6 rfl 2 rfl 7 rfl ?_
  refine x_icmp_ne C dX3_has_7 14 (by decide) 10 rfl (fun hc => ?_) (fun hc => ?_)
  · have h := iq hc h
    refine x_iconst C (v := 0) dX3_has_14 (by decide) 15 rfl ?_
    cases h
    exact hE _ ht 15 _ rfl dX3_has_15
  · have h := ip hc h
    refine x_iconst C (v := 1) dX3_has_10 (by decide) 11 rfl ?_
    refine x_goto C dX3_has_11 15 (by decide) ?_
    cases h
    exact hE _ ht 15 _ rfl dX3_has_15
set_option maxHeartbeats 4000000 in
set_option maxRecDepth 100000 in
theorem c_X3_has {g : Gb} {l : Launch}  {a1 : Int32} {a2 : Int32} {σ : WD} {r : Int32} (h : f_X3_has a1 a2 σ = some r) : MC l g yX3_has (.code yX3_has cX3_has 3 (some (.boolean))) (rmk 1 1) [.ref (adr g 3), .int a1, .int a2] σ (some (.int r)) σ := by
  refine MC.of (by decide) (Nat.le_of_ble_eq_true rfl) (fun x C hl hr hq => ?_)
  subst hl
  exact w_X3_has (E := fun z => z = r) C  (fun a he pc lv hn hd => by cases he; exact x_zret C hr hq hn hd) h rfl
set_option maxHeartbeats 4000000 in
set_option maxRecDepth 100000 in
theorem w_X3_part {x : Cx} {g : Gb} {E : WD → Prop} (C : CF x g RX3 cX3_part 3 (rmk 1 1))  {a1 : Int32} {σ : WD} (hE : ∀ (s2 : WD), E s2 → ∀ pc lv, decode cX3_part pc = .ok (.return_, 1) → WW x g 3 0 0 pc lv [] s2) {t : WD} (h : f_X3_part a1 σ = some t) (ht : E t) : WW x g 3 0 0 0 [(0, .ref (adr g 3)), (1, .int a1)] [] σ := by
  unfold f_X3_part at h
  refine x_aload_n C dX3_part_0 rfl 0 rfl 1 rfl ?_
  refine gf_60_3 C dX3_part_1 4 rfl ?_
  refine x_iload_n C dX3_part_4 rfl 1 rfl 5 rfl ?_
  obtain ⟨hin, h⟩ := gi_some h
  refine x_iald C 4 (gt_4 g _) hin dX3_part_5 6 rfl ?_
  obtain ⟨v6, e6, h⟩ := li_some h
  refine x_te e6 ?_
  refine x_istore_n C [(2, .int v6), (0, .ref (adr g 3)), (1, .int a1)] dX3_part_6 rfl (by decide) rfl 7 rfl ?_
  refine x_iload_n C dX3_part_7 rfl 0 rfl 8 rfl ?_
  refine x_iconst C (v := -1) dX3_part_8 (by decide) 9 rfl ?_
  refine x_icmp_eq C dX3_part_9 26 (by decide) 12 rfl (fun hc => ?_) (fun hc => ?_)
  · have h := ip hc h
    cases h
    exact hE _ ht 26 _ dX3_part_26
  · have h := iq hc h
    refine x_aload_n C dX3_part_12 rfl 1 rfl 13 rfl ?_
    refine gf_60_3 C dX3_part_13 16 rfl ?_
    refine x_iload_n C dX3_part_16 rfl 0 rfl 17 rfl ?_
    refine x_iconst C (v := -1) dX3_part_17 (by decide) 18 rfl ?_
    obtain ⟨hin, h⟩ := gi_some h
    refine x_iast C 4 (gt_4 g _) (st_4 g _) hin dX3_part_18 19 rfl ?_
    obtain ⟨σ18, e18, h⟩ := lt_some h
    refine x_we e18 ?_
    refine x_aload_n C dX3_part_19 rfl 1 rfl 20 rfl ?_
    refine gf_60_3 C dX3_part_20 23 rfl ?_
    refine x_iload_n C dX3_part_23 rfl 2 rfl 24 rfl ?_
    refine x_iconst C (v := -1) dX3_part_24 (by decide) 25 rfl ?_
    obtain ⟨hin, h⟩ := gi_some h
    refine x_iast C 4 (gt_4 g _) (st_4 g _) hin dX3_part_25 26 rfl ?_
    obtain ⟨σ25, e25, h⟩ := lt_some h
    refine x_we e25 ?_
    cases h
    exact hE _ ht 26 _ dX3_part_26
set_option maxHeartbeats 4000000 in
set_option maxRecDepth 100000 in
theorem c_X3_part {g : Gb} {l : Launch}  {a1 : Int32} {σ : WD} {σ2 : WD} (h : f_X3_part a1 σ = some σ2) : MC l g yX3_part (.code yX3_part cX3_part 3 none) (rmk 1 1) [.ref (adr g 3), .int a1] σ none σ2 := by
  refine MC.of (by decide) (Nat.le_of_ble_eq_true rfl) (fun x C hl hr hq => ?_)
  subst hl
  exact w_X3_part (E := fun z => z = σ2) C  (fun a he pc lv hd => by cases he; exact x_vret C hr hq hd) h rfl
set_option maxHeartbeats 4000000 in
set_option maxRecDepth 100000 in
theorem w_X2_add {x : Cx} {g : Gb} {E : WD → Prop} (C : CF x g RX2 cX2_add 2 (rmk 1 1))  {a1 : Int32} {σ : WD} (hE : ∀ (s2 : WD), E s2 → ∀ pc lv, decode cX2_add pc = .ok (.return_, 1) → WW x g 2 0 0 pc lv [] s2) {t : WD} (h : f_X2_add a1 σ = some t) (ht : E t) : WW x g 2 0 0 0 [(0, .ref (adr g 5)), (1, .int a1)] [] σ := by
  unfold f_X2_add at h
  refine x_aload_n C dX2_add_0 rfl 0 rfl 1 rfl ?_
  refine gf_75_5 C dX2_add_1 4 rfl ?_
  refine x_bipush C (v := 60) dX2_add_4 (by decide) 6 rfl ?_
  refine x_icmp_ge C dX2_add_6 29 (by decide) 9 rfl (fun hc => ?_) (fun hc => ?_)
  · have h := ip hc h
    cases h
    exact hE _ ht 29 _ dX2_add_29
  · have h := iq hc h
    refine x_aload_n C dX2_add_9 rfl 0 rfl 10 rfl ?_
    refine gf_73_5 C dX2_add_10 13 rfl ?_
    refine x_aload_n C dX2_add_13 rfl 0 rfl 14 rfl ?_
    refine gf_75_5 C dX2_add_14 17 rfl ?_
    refine x_iload_n C dX2_add_17 rfl 1 rfl 18 rfl ?_
    obtain ⟨hin, h⟩ := gi_some h
    refine x_iast C 6 (gt_6 g _) (st_6 g _) hin dX2_add_18 19 rfl ?_
    obtain ⟨σ18, e18, h⟩ := lt_some h
    refine x_we e18 ?_
    refine x_aload_n C dX2_add_19 rfl 0 rfl 20 rfl ?_
    refine x_dup C dX2_add_20 rfl 21 rfl ?_
    refine gf_75_5 C dX2_add_21 24 rfl ?_
    refine x_iconst C (v := 1) dX2_add_24 (by decide) 25 rfl ?_
    refine x_iadd C dX2_add_25 26 rfl ?_
    refine pf_75_5 C dX2_add_26 29 rfl ?_
    obtain ⟨σ26, e26, h⟩ := lt_some h
    refine x_we e26 ?_
    cases h
    exact hE _ ht 29 _ dX2_add_29
set_option maxHeartbeats 4000000 in
set_option maxRecDepth 100000 in
theorem c_X2_add {g : Gb} {l : Launch}  {a1 : Int32} {σ : WD} {σ2 : WD} (h : f_X2_add a1 σ = some σ2) : MC l g yX2_add (.code yX2_add cX2_add 2 none) (rmk 1 1) [.ref (adr g 5), .int a1] σ none σ2 := by
  refine MC.of (by decide) (Nat.le_of_ble_eq_true rfl) (fun x C hl hr hq => ?_)
  subst hl
  exact w_X2_add (E := fun z => z = σ2) C  (fun a he pc lv hd => by cases he; exact x_vret C hr hq hd) h rfl
set_option maxHeartbeats 4000000 in
set_option maxRecDepth 100000 in
theorem w_X2_nodeAt {x : Cx} {g : Gb} {E : Int32 → Prop} (C : CF x g RX2 cX2_nodeAt 2 (rmk 1 1))  {a1 : Int32} {σ : WD} (hE : ∀ (a : Int32), E a → ∀ pc lv, decode cX2_nodeAt pc = .ok (.ireturn, 1) → WW x g 2 0 0 pc lv [.int a] σ) {t : Int32} (h : f_X2_nodeAt a1 σ = some t) (ht : E t) : WW x g 2 0 0 0 [(0, .ref (adr g 5)), (1, .int a1)] [] σ := by
  unfold f_X2_nodeAt at h
  refine x_aload_n C dX2_nodeAt_0 rfl 0 rfl 1 rfl ?_
  refine gf_73_5 C dX2_nodeAt_1 4 rfl ?_
  refine x_iload_n C dX2_nodeAt_4 rfl 1 rfl 5 rfl ?_
  obtain ⟨hin, h⟩ := gi_some h
  refine x_iald C 6 (gt_6 g _) hin dX2_nodeAt_5 6 rfl ?_
  refine x_bipush C (v := 97) dX2_nodeAt_6 (by decide) 8 rfl ?_
  refine x_isub C dX2_nodeAt_8 9 rfl ?_
  cases h
  exact hE _ ht 9 _ dX2_nodeAt_9
set_option maxHeartbeats 4000000 in
set_option maxRecDepth 100000 in
theorem c_X2_nodeAt {g : Gb} {l : Launch}  {a1 : Int32} {σ : WD} {r : Int32} (h : f_X2_nodeAt a1 σ = some r) : MC l g yX2_nodeAt (.code yX2_nodeAt cX2_nodeAt 2 (some (.int))) (rmk 1 1) [.ref (adr g 5), .int a1] σ (some (.int r)) σ := by
  refine MC.of (by decide) (Nat.le_of_ble_eq_true rfl) (fun x C hl hr hq => ?_)
  subst hl
  exact w_X2_nodeAt (E := fun z => z = r) C  (fun a he pc lv hd => by cases he; exact x_iret C hr hq hd) h rfl
set_option maxHeartbeats 4000000 in
set_option maxRecDepth 100000 in
theorem w_X2_stateAt_23 {x : Cx} {g : Gb} {E : Int32 → Prop} (C : CF x g RX2 cX2_stateAt 6 (rmk 2 23))  {l1 : Int32} {l2 : Int32} {l3 : Int32} {l4 : Int32} {s0 : Int32} {σ : WD} (hE : ∀ (a : Int32), E a → ∀ pc lv, decode cX2_stateAt pc = .ok (.ireturn, 1) → WW x g 6 0 0 pc lv [.int a] σ) {t : Int32} (h : f_X2_stateAt_23 l1 l2 l3 l4 s0 σ = some t) (ht : E t) : WW x g 6 0 0 23 [(0, .ref (adr g 5)), (1, .int l1), (2, .int l2), (3, .int l3), (4, .int l4)] [.int s0] σ := by
  unfold f_X2_stateAt_23 at h
  refine x_istore C [(5, .int s0), (0, .ref (adr g 5)), (1, .int l1), (2, .int l2), (3, .int l3), (4, .int l4)] dX2_stateAt_23 (by decide) rfl 25 rfl ?_
  refine x_iload_n C dX2_stateAt_25 rfl 3 rfl 26 rfl ?_
  by_cases hc0 : l2 = 0
  · have h := ip hc0 h
    refine x_tabIn C 0 hc0 dX2_stateAt_26 30 (by decide +kernel) 56 (by decide) ?_
    refine x_iload C dX2_stateAt_56 5 rfl 58 rfl ?_
    refine x_if_lt C dX2_stateAt_58 73 (by decide) 61 rfl (fun hc => ?_) (fun hc => ?_)
    · have h := ip hc h
      refine x_iconst C (v := 4) dX2_stateAt_73 (by decide) 74 rfl ?_
      cases h
      exact hE _ ht 74 _ dX2_stateAt_74
    · have h := iq hc h
      refine x_iload C dX2_stateAt_61 5 rfl 63 rfl ?_
      refine x_iload_n C dX2_stateAt_63 rfl 4 rfl 64 rfl ?_
      refine x_iconst C (v := 1) dX2_stateAt_64 (by decide) 65 rfl ?_
      refine x_isub C dX2_stateAt_65 66 rfl ?_
      refine x_icmp_ge C dX2_stateAt_66 73 (by decide) 69 rfl (fun hc => ?_) (fun hc => ?_)
      · have h := ip hc h
        refine x_iconst C (v := 4) dX2_stateAt_73 (by decide) 74 rfl ?_
        cases h
        exact hE _ ht 74 _ dX2_stateAt_74
      · have h := iq hc h
        refine x_iconst C (v := 1) dX2_stateAt_69 (by decide) 70 rfl ?_
        refine x_goto C dX2_stateAt_70 74 (by decide) ?_
        cases h
        exact hE _ ht 74 _ dX2_stateAt_74
  · have h := iq hc0 h
    by_cases hc1 : l2 = 1
    · have h := ip hc1 h
      refine x_tabIn C 1 hc1 dX2_stateAt_26 49 (by decide +kernel) 75 (by decide) ?_
      refine x_iload_n C dX2_stateAt_75 rfl 2 rfl 76 rfl ?_
      refine x_if_le C dX2_stateAt_76 101 (by decide) 79 rfl (fun hc => ?_) (fun hc => ?_)
      · have h := ip hc h
        refine x_iconst C (v := 4) dX2_stateAt_101 (by decide) 102 rfl ?_
        cases h
        exact hE _ ht 102 _ dX2_stateAt_102
      · have h := iq hc h
        refine x_iload C dX2_stateAt_79 5 rfl 81 rfl ?_
        refine x_aload_n C dX2_stateAt_81 rfl 1 rfl 82 rfl ?_
        refine x_iload_n C dX2_stateAt_82 rfl 2 rfl 83 rfl ?_
        refine x_iconst C (v := 1) dX2_stateAt_83 (by decide) 84 rfl ?_
        refine x_isub C dX2_stateAt_84 85 rfl ?_
        obtain ⟨r85, h85, h⟩ := bv_some h
        refine x_callV C 5 [.int (l1 - 1)] (c_X2_nodeAt  h85) mi_X2_nodeAt (gt_5 g _) rfl q_200 rfl ⟨rfl, rfl⟩ ⟨Nat.le_of_ble_eq_true rfl, Nat.le_of_ble_eq_true rfl⟩ ⟨Nat.zero_le _, Nat.zero_le _⟩ _ rfl (Nat.le_of_ble_eq_true rfl) dX2_stateAt_85 88 rfl ?_
        refine x_icmp_le C dX2_stateAt_88 101 (by decide) 91 rfl (fun hc => ?_) (fun hc => ?_)
        · have h := ip hc h
          refine x_iconst C (v := 4) dX2_stateAt_101 (by decide) 102 rfl ?_
          cases h
          exact hE _ ht 102 _ dX2_stateAt_102
        · have h := iq hc h
          refine x_iload C dX2_stateAt_91 5 rfl 93 rfl ?_
          refine x_iload_n C dX2_stateAt_93 rfl 4 rfl 94 rfl ?_
          refine x_icmp_ge C dX2_stateAt_94 101 (by decide) 97 rfl (fun hc => ?_) (fun hc => ?_)
          · have h := ip hc h
            refine x_iconst C (v := 4) dX2_stateAt_101 (by decide) 102 rfl ?_
            cases h
            exact hE _ ht 102 _ dX2_stateAt_102
          · have h := iq hc h
            refine x_iconst C (v := 2) dX2_stateAt_97 (by decide) 98 rfl ?_
            refine x_goto C dX2_stateAt_98 102 (by decide) ?_
            cases h
            exact hE _ ht 102 _ dX2_stateAt_102
    · have h := iq hc1 h
      by_cases hc2 : l2 = 2
      · have h := ip hc2 h
        refine x_tabIn C 2 hc2 dX2_stateAt_26 77 (by decide +kernel) 103 (by decide) ?_
        refine x_iload C dX2_stateAt_103 0 rfl 105 rfl ?_
        refine x_if_eq C dX2_stateAt_105 112 (by decide) 108 rfl (fun hc => ?_) (fun hc => ?_)
        · have h := ip hc h
          refine x_aload_n C dX2_stateAt_112 rfl 1 rfl 113 rfl ?_
          refine gf_73_5 C dX2_stateAt_113 116 rfl ?_
          refine x_iload_n C dX2_stateAt_116 rfl 2 rfl 117 rfl ?_
          obtain ⟨hin, h⟩ := gi_some h
          refine x_iald C 6 (gt_6 g _) hin dX2_stateAt_117 118 rfl ?_
          refine x_bipush C (v := 33) dX2_stateAt_118 (by decide) 120 rfl ?_
          refine x_icmp_ne C dX2_stateAt_120 127 (by decide) 123 rfl (fun hc => ?_) (fun hc => ?_)
          · have h := iq hc h
            refine x_iconst C (v := 4) dX2_stateAt_127 (by decide) 128 rfl ?_
            cases h
            exact hE _ ht 128 _ dX2_stateAt_128
          · have h := ip hc h
            refine x_iconst C (v := 3) dX2_stateAt_123 (by decide) 124 rfl ?_
            refine x_goto C dX2_stateAt_124 128 (by decide) ?_
            cases h
            exact hE _ ht 128 _ dX2_stateAt_128
        · have h := iq hc h
          refine x_iconst C (v := 0) dX2_stateAt_108 (by decide) 109 rfl ?_
          refine x_goto C dX2_stateAt_109 128 (by decide) ?_
          cases h
          exact hE _ ht 128 _ dX2_stateAt_128
      · have h := iq hc2 h
        by_cases hc3 : l2 = 3
        · have h := ip hc3 h
          refine x_tabIn C 3 hc3 dX2_stateAt_26 103 (by decide +kernel) 129 (by decide) ?_
          refine x_iload C dX2_stateAt_129 0 rfl 131 rfl ?_
          refine x_if_eq C dX2_stateAt_131 138 (by decide) 134 rfl (fun hc => ?_) (fun hc => ?_)
          · have h := ip hc h
            refine x_iconst C (v := 4) dX2_stateAt_138 (by decide) 139 rfl ?_
            cases h
            exact hE _ ht 139 _ dX2_stateAt_139
          · have h := iq hc h
            refine x_iconst C (v := 0) dX2_stateAt_134 (by decide) 135 rfl ?_
            refine x_goto C dX2_stateAt_135 139 (by decide) ?_
            cases h
            exact hE _ ht 139 _ dX2_stateAt_139
        · have h := iq hc3 h
          refine x_tabOut C dX2_stateAt_26 (sw_out 3 (by decide) (fun k hk => by
            have hk : k = 0 ∨ k = 1 ∨ k = 2 ∨ k = 3 := by omega
            rcases hk with rfl | rfl | rfl | rfl <;> assumption)) 140 (by decide) ?_
          refine x_iconst C (v := 4) dX2_stateAt_140 (by decide) 141 rfl ?_
          cases h
          exact hE _ ht 141 _ dX2_stateAt_141
set_option maxHeartbeats 4000000 in
set_option maxRecDepth 100000 in
theorem w_X2_stateAt {x : Cx} {g : Gb} {E : Int32 → Prop} (C : CF x g RX2 cX2_stateAt 6 (rmk 2 23))  {a1 : Int32} {a2 : Int32} {a3 : Int32} {σ : WD} (hE : ∀ (a : Int32), E a → ∀ pc lv, decode cX2_stateAt pc = .ok (.ireturn, 1) → WW x g 6 0 0 pc lv [.int a] σ) {t : Int32} (h : f_X2_stateAt a1 a2 a3 σ = some t) (ht : E t) : WW x g 6 0 0 0 [(0, .ref (adr g 5)), (1, .int a1), (2, .int a2), (3, .int a3)] [] σ := by
  unfold f_X2_stateAt at h
  refine x_aload_n C dX2_stateAt_0 rfl 0 rfl 1 rfl ?_
  refine x_iload_n C dX2_stateAt_1 rfl 1 rfl 2 rfl ?_
  obtain ⟨r2, h2, h⟩ := bv_some h
  refine x_callV C 5 [.int a1] (c_X2_nodeAt  h2) mi_X2_nodeAt (gt_5 g _) rfl q_200 rfl ⟨rfl, rfl⟩ ⟨Nat.le_of_ble_eq_true rfl, Nat.le_of_ble_eq_true rfl⟩ ⟨Nat.zero_le _, Nat.zero_le _⟩ _ rfl (Nat.le_of_ble_eq_true rfl) dX2_stateAt_2 5 rfl ?_
  refine x_istore C [(4, .int r2), (0, .ref (adr g 5)), (1, .int a1), (2, .int a2), (3, .int a3)] dX2_stateAt_5 (by decide) rfl 7 rfl ?_
  refine x_aload_n C dX2_stateAt_7 rfl 1 rfl 8 rfl ?_
  refine gf_73_5 C dX2_stateAt_8 11 rfl ?_
  refine x_iload_n C dX2_stateAt_11 rfl 2 rfl 12 rfl ?_
  obtain ⟨hin, h⟩ := gi_some h
  refine x_iald C 6 (gt_6 g _) hin dX2_stateAt_12 13 rfl ?_
  refine x_bipush C (v := 44) dX2_stateAt_13 (by decide) 15 rfl ?_
  refine x_icmp_ne C dX2_stateAt_15 22 (by decide) 18 rfl (fun hc => ?_) (fun hc => ?_)
  · have h := iq hc h
    refine x_iconst C (v := 0) dX2_stateAt_22 (by decide) 23 rfl ?_
    exact x_sub [1, 2, 3, 4, 0] rfl (w_X2_stateAt_23 C  hE h ht)
  · have h := ip hc h
    refine x_iconst C (v := 1) dX2_stateAt_18 (by decide) 19 rfl ?_
    refine x_goto C dX2_stateAt_19 23 (by decide) ?_
    exact x_sub [1, 2, 3, 4, 0] rfl (w_X2_stateAt_23 C  hE h ht)
set_option maxHeartbeats 4000000 in
set_option maxRecDepth 100000 in
theorem c_X2_stateAt {g : Gb} {l : Launch}  {a1 : Int32} {a2 : Int32} {a3 : Int32} {σ : WD} {r : Int32} (h : f_X2_stateAt a1 a2 a3 σ = some r) : MC l g yX2_stateAt (.code yX2_stateAt cX2_stateAt 6 (some (.int))) (rmk 2 23) [.ref (adr g 5), .int a1, .int a2, .int a3] σ (some (.int r)) σ := by
  refine MC.of (by decide) (Nat.le_of_ble_eq_true rfl) (fun x C hl hr hq => ?_)
  subst hl
  exact w_X2_stateAt (E := fun z => z = r) C  (fun a he pc lv hd => by cases he; exact x_iret C hr hq hd) h rfl
set_option maxHeartbeats 4000000 in
set_option maxRecDepth 100000 in
theorem w_X2_errorPlace_33 {x : Cx} {g : Gb} {E : Int32 → Prop} (C : CF x g RX2 cX2_errorPlace 4 (rmk 3 49))   {σ : WD} (hE : ∀ (a : Int32), E a → ∀ pc lv, decode cX2_errorPlace pc = .ok (.ireturn, 1) → WW x g 4 0 0 pc lv [.int a] σ) {t : Int32} (h : f_X2_errorPlace_33  σ = some t) (ht : E t) : WW x g 4 0 0 33 [(0, .ref (adr g 5))] [] σ := by
  unfold f_X2_errorPlace_33 at h
  refine x_aload_n C dX2_errorPlace_33 rfl 0 rfl 34 rfl ?_
  refine gf_75_5 C dX2_errorPlace_34 37 rfl ?_
  cases h
  exact hE _ ht 37 _ dX2_errorPlace_37
set_option maxHeartbeats 4000000 in
set_option maxRecDepth 100000 in
theorem w_X2_errorPlace_b4 {x : Cx} {g : Gb} {E : (Int32 × Int32) ⊕ (Int32) → Prop} (C : CF x g RX2 cX2_errorPlace 4 (rmk 3 49))  {l1 : Int32} {l2 : Int32} {l3 : Int32} {σ : WD} (hI0 : ∀ s, E (.inl s) → WW x g 4 0 0 4 [(0, .ref (adr g 5)), (1, .int l1), (2, .int s.1), (3, .int s.2)] [] σ) (hE : ∀ (a : Int32), E (.inr a) → ∀ pc lv, decode cX2_errorPlace pc = .ok (.ireturn, 1) → WW x g 4 0 0 pc lv [.int a] σ) {t : (Int32 × Int32) ⊕ (Int32)} (h : f_X2_errorPlace_b4 l1 l2 l3 σ = some t) (ht : E t) : WW x g 4 0 0 4 [(0, .ref (adr g 5)), (1, .int l1), (2, .int l2), (3, .int l3)] [] σ := by
  unfold f_X2_errorPlace_b4 at h
  refine x_iload_n C dX2_errorPlace_4 rfl 3 rfl 5 rfl ?_
  refine x_aload_n C dX2_errorPlace_5 rfl 0 rfl 6 rfl ?_
  refine gf_75_5 C dX2_errorPlace_6 9 rfl ?_
  refine x_icmp_ge C dX2_errorPlace_9 33 (by decide) 12 rfl (fun hc => ?_) (fun hc => ?_)
  · have h := ip hc h
    obtain ⟨_, hm0, rfl⟩ := mr_some h
    exact x_sub [0] rfl (w_X2_errorPlace_33 (E := fun r => E (.inr r)) C  hE hm0 ht)
  · have h := iq hc h
    refine x_aload_n C dX2_errorPlace_12 rfl 0 rfl 13 rfl ?_
    refine x_iload_n C dX2_errorPlace_13 rfl 3 rfl 14 rfl ?_
    refine x_iload_n C dX2_errorPlace_14 rfl 2 rfl 15 rfl ?_
    refine x_iload_n C dX2_errorPlace_15 rfl 1 rfl 16 rfl ?_
    obtain ⟨r16, h16, h⟩ := bv_some h
    refine x_callV C 5 [.int l3, .int l2, .int l1] (c_X2_stateAt  h16) mi_X2_stateAt (gt_5 g _) rfl q_196 rfl ⟨rfl, rfl⟩ ⟨Nat.le_of_ble_eq_true rfl, Nat.le_of_ble_eq_true rfl⟩ ⟨Nat.zero_le _, Nat.zero_le _⟩ _ rfl (Nat.le_of_ble_eq_true rfl) dX2_errorPlace_16 19 rfl ?_
    refine x_istore_n C [(2, .int r16), (0, .ref (adr g 5)), (1, .int l1), (3, .int l3)] dX2_errorPlace_19 rfl (by decide) rfl 20 rfl ?_
    refine x_iload_n C dX2_errorPlace_20 rfl 0 rfl 21 rfl ?_
    refine x_iconst C (v := 4) dX2_errorPlace_21 (by decide) 22 rfl ?_
    refine x_icmp_ne C dX2_errorPlace_22 27 (by decide) 25 rfl (fun hc => ?_) (fun hc => ?_)
    · have h := iq hc h
      refine x_iinc C [(3, .int (l3 + 1)), (2, .int r16), (0, .ref (adr g 5)), (1, .int l1)] dX2_errorPlace_27 3 rfl rfl (by decide) rfl 30 rfl ?_
      refine x_goto C dX2_errorPlace_30 4 (by decide) ?_
      cases h
      exact x_sub [2, 3, 1, 0] rfl (hI0 (r16, (l3 + 1)) ht)
    · have h := ip hc h
      refine x_iload_n C dX2_errorPlace_25 rfl 3 rfl 26 rfl ?_
      cases h
      exact hE _ ht 26 _ dX2_errorPlace_26
set_option maxHeartbeats 4000000 in
set_option maxRecDepth 100000 in
theorem w_X2_errorPlace_4 {x : Cx} {g : Gb} {E : Int32 → Prop} (C : CF x g RX2 cX2_errorPlace 4 (rmk 3 49))  {l1 : Int32} {l2 : Int32} {l3 : Int32} {σ : WD} (hE : ∀ (a : Int32), E a → ∀ pc lv, decode cX2_errorPlace pc = .ok (.ireturn, 1) → WW x g 4 0 0 pc lv [.int a] σ) {t : Int32} (h : f_X2_errorPlace_4 l1 l2 l3 σ = some t) (ht : E t) : WW x g 4 0 0 4 [(0, .ref (adr g 5)), (1, .int l1), (2, .int l2), (3, .int l3)] [] σ := by
  unfold f_X2_errorPlace_4 at h
  exact lp_ind (fun s : Int32 × Int32 => WW x g 4 0 0 4 [(0, .ref (adr g 5)), (1, .int l1), (2, .int s.1), (3, .int s.2)] [] σ) E h ht (fun s y hb hy => w_X2_errorPlace_b4 (E := Sum.elim (fun s : Int32 × Int32 => WW x g 4 0 0 4 [(0, .ref (adr g 5)), (1, .int l1), (2, .int s.1), (3, .int s.2)] [] σ) E) C  (fun _ h => h)  hE hb hy)
set_option maxHeartbeats 4000000 in
set_option maxRecDepth 100000 in
theorem w_X2_errorPlace {x : Cx} {g : Gb} {E : Int32 → Prop} (C : CF x g RX2 cX2_errorPlace 4 (rmk 3 49))  {a1 : Int32} {σ : WD} (hE : ∀ (a : Int32), E a → ∀ pc lv, decode cX2_errorPlace pc = .ok (.ireturn, 1) → WW x g 4 0 0 pc lv [.int a] σ) {t : Int32} (h : f_X2_errorPlace a1 σ = some t) (ht : E t) : WW x g 4 0 0 0 [(0, .ref (adr g 5)), (1, .int a1)] [] σ := by
  unfold f_X2_errorPlace at h
  refine x_iconst C (v := 0) dX2_errorPlace_0 (by decide) 1 rfl ?_
  refine x_istore_n C [(2, .int 0), (0, .ref (adr g 5)), (1, .int a1)] dX2_errorPlace_1 rfl (by decide) rfl 2 rfl ?_
  refine x_iconst C (v := 0) dX2_errorPlace_2 (by decide) 3 rfl ?_
  refine x_istore_n C [(3, .int 0), (2, .int 0), (0, .ref (adr g 5)), (1, .int a1)] dX2_errorPlace_3 rfl (by decide) rfl 4 rfl ?_
  exact x_sub [2, 3, 1, 0] rfl (w_X2_errorPlace_4 C  hE h ht)
set_option maxHeartbeats 4000000 in
set_option maxRecDepth 100000 in
theorem c_X2_errorPlace {g : Gb} {l : Launch}  {a1 : Int32} {σ : WD} {r : Int32} (h : f_X2_errorPlace a1 σ = some r) : MC l g yX2_errorPlace (.code yX2_errorPlace cX2_errorPlace 4 (some (.int))) (rmk 3 49) [.ref (adr g 5), .int a1] σ (some (.int r)) σ := by
  refine MC.of (by decide) (Nat.le_of_ble_eq_true rfl) (fun x C hl hr hq => ?_)
  subst hl
  exact w_X2_errorPlace (E := fun z => z = r) C  (fun a he pc lv hd => by cases he; exact x_iret C hr hq hd) h rfl
set_option maxHeartbeats 4000000 in
set_option maxRecDepth 100000 in
theorem w_X2_isComplete_26 {x : Cx} {g : Gb} {E : Int32 → Prop} (C : CF x g RX2 cX2_isComplete 4 (rmk 3 49))  {l2 : Int32} {σ : WD} (hE : ∀ (a : Int32), E a → ∀ pc lv, narrow .boolean (.int a) = .int a → decode cX2_isComplete pc = .ok (.ireturn, 1) → WW x g 4 0 0 pc lv [.int a] σ) {t : Int32} (h : f_X2_isComplete_26 l2 σ = some t) (ht : E t) : WW x g 4 0 0 26 [(2, .int l2)] [] σ := by
  unfold f_X2_isComplete_26 at h
  refine x_iload_n C dX2_isComplete_26 rfl 0 rfl 27 rfl ?_
  refine x_iconst C (v := 2) dX2_isComplete_27 (by decide) 28 rfl ?_
  refine x_icmp_eq C dX2_isComplete_28 36 (by decide) 31 rfl (fun hc => ?_) (fun hc => ?_)
  · have h := ip hc h
    refine x_iconst C (v := 1) dX2_isComplete_36 (by decide) 37 rfl ?_
    refine x_goto C dX2_isComplete_37 41 (by decide) ?_
    cases h
    exact hE _ ht 41 _ rfl dX2_isComplete_41
  · have h := iq hc h
    refine x_iload_n C dX2_isComplete_31 rfl 0 rfl 32 rfl ?_
    refine x_iconst C (v := 3) dX2_isComplete_32 (by decide) 33 rfl ?_
    refine x_icmp_ne C dX2_isComplete_33 40 (by decide) 36 rfl (fun hc => ?_) (fun hc => ?_)
    · have h := iq hc h
      refine x_iconst C (v := 0) dX2_isComplete_40 (by decide) 41 rfl ?_
      cases h
      exact hE _ ht 41 _ rfl dX2_isComplete_41
    · have h := ip hc h
      refine x_iconst C (v := 1) dX2_isComplete_36 (by decide) 37 rfl ?_
      refine x_goto C dX2_isComplete_37 41 (by decide) ?_
      cases h
      exact hE _ ht 41 _ rfl dX2_isComplete_41
set_option maxHeartbeats 4000000 in
set_option maxRecDepth 100000 in
theorem w_X2_isComplete_b4 {x : Cx} {g : Gb} {E : (Int32 × Int32) ⊕ (Int32) → Prop} (C : CF x g RX2 cX2_isComplete 4 (rmk 3 49))  {l1 : Int32} {l2 : Int32} {l3 : Int32} {σ : WD} (hI0 : ∀ s, E (.inl s) → WW x g 4 0 0 4 [(0, .ref (adr g 5)), (1, .int l1), (2, .int s.1), (3, .int s.2)] [] σ) (hE : ∀ (a : Int32), E (.inr a) → ∀ pc lv, narrow .boolean (.int a) = .int a → decode cX2_isComplete pc = .ok (.ireturn, 1) → WW x g 4 0 0 pc lv [.int a] σ) {t : (Int32 × Int32) ⊕ (Int32)} (h : f_X2_isComplete_b4 l1 l2 l3 σ = some t) (ht : E t) : WW x g 4 0 0 4 [(0, .ref (adr g 5)), (1, .int l1), (2, .int l2), (3, .int l3)] [] σ := by
  unfold f_X2_isComplete_b4 at h
  refine x_iload_n C dX2_isComplete_4 rfl 3 rfl 5 rfl ?_
  refine x_aload_n C dX2_isComplete_5 rfl 0 rfl 6 rfl ?_
  refine gf_75_5 C dX2_isComplete_6 9 rfl ?_
  refine x_icmp_ge C dX2_isComplete_9 26 (by decide) 12 rfl (fun hc => ?_) (fun hc => ?_)
  · have h := ip hc h
    obtain ⟨_, hm0, rfl⟩ := mr_some h
    exact x_sub [2] rfl (w_X2_isComplete_26 (E := fun r => E (.inr r)) C  hE hm0 ht)
  · have h := iq hc h
    refine x_aload_n C dX2_isComplete_12 rfl 0 rfl 13 rfl ?_
    refine x_iload_n C dX2_isComplete_13 rfl 3 rfl 14 rfl ?_
    refine x_iload_n C dX2_isComplete_14 rfl 2 rfl 15 rfl ?_
    refine x_iload_n C dX2_isComplete_15 rfl 1 rfl 16 rfl ?_
    obtain ⟨r16, h16, h⟩ := bv_some h
    refine x_callV C 5 [.int l3, .int l2, .int l1] (c_X2_stateAt  h16) mi_X2_stateAt (gt_5 g _) rfl q_196 rfl ⟨rfl, rfl⟩ ⟨Nat.le_of_ble_eq_true rfl, Nat.le_of_ble_eq_true rfl⟩ ⟨Nat.zero_le _, Nat.zero_le _⟩ _ rfl (Nat.le_of_ble_eq_true rfl) dX2_isComplete_16 19 rfl ?_
    refine x_istore_n C [(2, .int r16), (0, .ref (adr g 5)), (1, .int l1), (3, .int l3)] dX2_isComplete_19 rfl (by decide) rfl 20 rfl ?_
    refine x_iinc C [(3, .int (l3 + 1)), (2, .int r16), (0, .ref (adr g 5)), (1, .int l1)] dX2_isComplete_20 3 rfl rfl (by decide) rfl 23 rfl ?_
    refine x_goto C dX2_isComplete_23 4 (by decide) ?_
    cases h
    exact x_sub [2, 3, 1, 0] rfl (hI0 (r16, (l3 + 1)) ht)
set_option maxHeartbeats 4000000 in
set_option maxRecDepth 100000 in
theorem w_X2_isComplete_4 {x : Cx} {g : Gb} {E : Int32 → Prop} (C : CF x g RX2 cX2_isComplete 4 (rmk 3 49))  {l1 : Int32} {l2 : Int32} {l3 : Int32} {σ : WD} (hE : ∀ (a : Int32), E a → ∀ pc lv, narrow .boolean (.int a) = .int a → decode cX2_isComplete pc = .ok (.ireturn, 1) → WW x g 4 0 0 pc lv [.int a] σ) {t : Int32} (h : f_X2_isComplete_4 l1 l2 l3 σ = some t) (ht : E t) : WW x g 4 0 0 4 [(0, .ref (adr g 5)), (1, .int l1), (2, .int l2), (3, .int l3)] [] σ := by
  unfold f_X2_isComplete_4 at h
  exact lp_ind (fun s : Int32 × Int32 => WW x g 4 0 0 4 [(0, .ref (adr g 5)), (1, .int l1), (2, .int s.1), (3, .int s.2)] [] σ) E h ht (fun s y hb hy => w_X2_isComplete_b4 (E := Sum.elim (fun s : Int32 × Int32 => WW x g 4 0 0 4 [(0, .ref (adr g 5)), (1, .int l1), (2, .int s.1), (3, .int s.2)] [] σ) E) C  (fun _ h => h)  hE hb hy)
set_option maxHeartbeats 4000000 in
set_option maxRecDepth 100000 in
theorem w_X2_isComplete {x : Cx} {g : Gb} {E : Int32 → Prop} (C : CF x g RX2 cX2_isComplete 4 (rmk 3 49))  {a1 : Int32} {σ : WD} (hE : ∀ (a : Int32), E a → ∀ pc lv, narrow .boolean (.int a) = .int a → decode cX2_isComplete pc = .ok (.ireturn, 1) → WW x g 4 0 0 pc lv [.int a] σ) {t : Int32} (h : f_X2_isComplete a1 σ = some t) (ht : E t) : WW x g 4 0 0 0 [(0, .ref (adr g 5)), (1, .int a1)] [] σ := by
  unfold f_X2_isComplete at h
  refine x_iconst C (v := 0) dX2_isComplete_0 (by decide) 1 rfl ?_
  refine x_istore_n C [(2, .int 0), (0, .ref (adr g 5)), (1, .int a1)] dX2_isComplete_1 rfl (by decide) rfl 2 rfl ?_
  refine x_iconst C (v := 0) dX2_isComplete_2 (by decide) 3 rfl ?_
  refine x_istore_n C [(3, .int 0), (2, .int 0), (0, .ref (adr g 5)), (1, .int a1)] dX2_isComplete_3 rfl (by decide) rfl 4 rfl ?_
  exact x_sub [2, 3, 1, 0] rfl (w_X2_isComplete_4 C  hE h ht)
set_option maxHeartbeats 4000000 in
set_option maxRecDepth 100000 in
theorem c_X2_isComplete {g : Gb} {l : Launch}  {a1 : Int32} {σ : WD} {r : Int32} (h : f_X2_isComplete a1 σ = some r) : MC l g yX2_isComplete (.code yX2_isComplete cX2_isComplete 4 (some (.boolean))) (rmk 3 49) [.ref (adr g 5), .int a1] σ (some (.int r)) σ := by
  refine MC.of (by decide) (Nat.le_of_ble_eq_true rfl) (fun x C hl hr hq => ?_)
  subst hl
  exact w_X2_isComplete (E := fun z => z = r) C  (fun a he pc lv hn hd => by cases he; exact x_zret C hr hq hn hd) h rfl
set_option maxHeartbeats 4000000 in
set_option maxRecDepth 100000 in
theorem w_X2_isMarked {x : Cx} {g : Gb} {E : Int32 → Prop} (C : CF x g RX2 cX2_isMarked 2 (rmk 1 1))  {a1 : Int32} {σ : WD} (hE : ∀ (a : Int32), E a → ∀ pc lv, narrow .boolean (.int a) = .int a → decode cX2_isMarked pc = .ok (.ireturn, 1) → WW x g 2 0 0 pc lv [.int a] σ) {t : Int32} (h : f_X2_isMarked a1 σ = some t) (ht : E t) : WW x g 2 0 0 0 [(0, .ref (adr g 5)), (1, .int a1)] [] σ := by
  unfold f_X2_isMarked at h
  refine x_iload_n C dX2_isMarked_0 rfl 1 rfl 1 rfl ?_
  refine x_iconst C (v := 2) dX2_isMarked_1 (by decide) 2 rfl ?_
  refine x_iadd C dX2_isMarked_2 3 rfl ?_
  refine x_aload_n C dX2_isMarked_3 rfl 0 rfl 4 rfl ?_
  refine gf_75_5 C dX2_isMarked_4 7 rfl ?_
  refine x_icmp_ge C dX2_isMarked_7 27 (by decide) 10 rfl (fun hc => ?_) (fun hc => ?_)
  · have h := ip hc h
    refine x_iconst C (v := 0) dX2_isMarked_27 (by decide) 28 rfl ?_
    cases h
    exact hE _ ht 28 _ rfl dX2_isMarked_28
  · have h := iq hc h
    refine x_aload_n C dX2_isMarked_10 rfl 0 rfl 11 rfl ?_
    refine gf_73_5 C dX2_isMarked_11 14 rfl ?_
    refine x_iload_n C dX2_isMarked_14 rfl 1 rfl 15 rfl ?_
    refine x_iconst C (v := 2) dX2_isMarked_15 (by decide) 16 rfl ?_
    refine x_iadd C dX2_isMarked_16 17 rfl ?_
    obtain ⟨hin, h⟩ := gi_some h
    refine x_iald C 6 (gt_6 g _) hin dX2_isMarked_17 18 rfl ?_
    refine x_bipush C (v := 33) dX2_isMarked_18 (by decide) 20 rfl ?_
    refine x_icmp_ne C dX2_isMarked_20 27 (by decide) 23 rfl (fun hc => ?_) (fun hc => ?_)
    · have h := iq hc h
      refine x_iconst C (v := 0) dX2_isMarked_27 (by decide) 28 rfl ?_
      cases h
      exact hE _ ht 28 _ rfl dX2_isMarked_28
    · have h := ip hc h
      refine x_iconst C (v := 1) dX2_isMarked_23 (by decide) 24 rfl ?_
      refine x_goto C dX2_isMarked_24 28 (by decide) ?_
      cases h
      exact hE _ ht 28 _ rfl dX2_isMarked_28
set_option maxHeartbeats 4000000 in
set_option maxRecDepth 100000 in
theorem c_X2_isMarked {g : Gb} {l : Launch}  {a1 : Int32} {σ : WD} {r : Int32} (h : f_X2_isMarked a1 σ = some r) : MC l g yX2_isMarked (.code yX2_isMarked cX2_isMarked 2 (some (.boolean))) (rmk 1 1) [.ref (adr g 5), .int a1] σ (some (.int r)) σ := by
  refine MC.of (by decide) (Nat.le_of_ble_eq_true rfl) (fun x C hl hr hq => ?_)
  subst hl
  exact w_X2_isMarked (E := fun z => z = r) C  (fun a he pc lv hn hd => by cases he; exact x_zret C hr hq hn hd) h rfl
set_option maxHeartbeats 4000000 in
set_option maxRecDepth 100000 in
theorem w_X3_isExposed {x : Cx} {g : Gb} {E : Int32 → Prop} (C : CF x g RX3 cX3_isExposed 2 (rmk 1 1))  {a1 : Int32} {σ : WD} (hE : ∀ (a : Int32), E a → ∀ pc lv, narrow .boolean (.int a) = .int a → decode cX3_isExposed pc = .ok (.ireturn, 1) → WW x g 2 0 0 pc lv [.int a] σ) {t : Int32} (h : f_X3_isExposed a1 σ = some t) (ht : E t) : WW x g 2 0 0 0 [(0, .ref (adr g 3)), (1, .int a1)] [] σ := by
  unfold f_X3_isExposed at h
  refine x_aload_n C dX3_isExposed_0 rfl 0 rfl 1 rfl ?_
  refine gf_60_3 C dX3_isExposed_1 4 rfl ?_
  refine x_iload_n C dX3_isExposed_4 rfl 1 rfl 5 rfl ?_
  obtain ⟨hin, h⟩ := gi_some h
  refine x_iald C 4 (gt_4 g _) hin dX3_isExposed_5 6 rfl ?_
  refine x_iconst C (v := -1) dX3_isExposed_6 (by decide) 7 rfl ?_
  refine x_icmp_ne C dX3_isExposed_7 14 (by decide) 10 rfl (fun hc => ?_) (fun hc => ?_)
  · have h := iq hc h
    refine x_iconst C (v := 0) dX3_isExposed_14 (by decide) 15 rfl ?_
    cases h
    exact hE _ ht 15 _ rfl dX3_isExposed_15
  · have h := ip hc h
    refine x_iconst C (v := 1) dX3_isExposed_10 (by decide) 11 rfl ?_
    refine x_goto C dX3_isExposed_11 15 (by decide) ?_
    cases h
    exact hE _ ht 15 _ rfl dX3_isExposed_15
set_option maxHeartbeats 4000000 in
set_option maxRecDepth 100000 in
theorem c_X3_isExposed {g : Gb} {l : Launch}  {a1 : Int32} {σ : WD} {r : Int32} (h : f_X3_isExposed a1 σ = some r) : MC l g yX3_isExposed (.code yX3_isExposed cX3_isExposed 2 (some (.boolean))) (rmk 1 1) [.ref (adr g 3), .int a1] σ (some (.int r)) σ := by
  refine MC.of (by decide) (Nat.le_of_ble_eq_true rfl) (fun x C hl hr hq => ?_)
  subst hl
  exact w_X3_isExposed (E := fun z => z = r) C  (fun a he pc lv hn hd => by cases he; exact x_zret C hr hq hn hd) h rfl
set_option maxHeartbeats 4000000 in
set_option maxRecDepth 100000 in
theorem w_X3_join {x : Cx} {g : Gb} {E : WD → Prop} (C : CF x g RX3 cX3_join 3 (rmk 1 1))  {a1 : Int32} {a2 : Int32} {σ : WD} (hE : ∀ (s2 : WD), E s2 → ∀ pc lv, decode cX3_join pc = .ok (.return_, 1) → WW x g 3 0 0 pc lv [] s2) {t : WD} (h : f_X3_join a1 a2 σ = some t) (ht : E t) : WW x g 3 0 0 0 [(0, .ref (adr g 3)), (1, .int a1), (2, .int a2)] [] σ := by
  unfold f_X3_join at h
  refine x_aload_n C dX3_join_0 rfl 0 rfl 1 rfl ?_
  refine gf_60_3 C dX3_join_1 4 rfl ?_
  refine x_iload_n C dX3_join_4 rfl 1 rfl 5 rfl ?_
  refine x_iload_n C dX3_join_5 rfl 2 rfl 6 rfl ?_
  obtain ⟨hin, h⟩ := gi_some h
  refine x_iast C 4 (gt_4 g _) (st_4 g _) hin dX3_join_6 7 rfl ?_
  obtain ⟨σ6, e6, h⟩ := lt_some h
  refine x_we e6 ?_
  refine x_aload_n C dX3_join_7 rfl 0 rfl 8 rfl ?_
  refine gf_60_3 C dX3_join_8 11 rfl ?_
  refine x_iload_n C dX3_join_11 rfl 2 rfl 12 rfl ?_
  refine x_iload_n C dX3_join_12 rfl 1 rfl 13 rfl ?_
  obtain ⟨hin, h⟩ := gi_some h
  refine x_iast C 4 (gt_4 g _) (st_4 g _) hin dX3_join_13 14 rfl ?_
  obtain ⟨σ13, e13, h⟩ := lt_some h
  refine x_we e13 ?_
  cases h
  exact hE _ ht 14 _ dX3_join_14
set_option maxHeartbeats 4000000 in
set_option maxRecDepth 100000 in
theorem c_X3_join {g : Gb} {l : Launch}  {a1 : Int32} {a2 : Int32} {σ : WD} {σ2 : WD} (h : f_X3_join a1 a2 σ = some σ2) : MC l g yX3_join (.code yX3_join cX3_join 3 none) (rmk 1 1) [.ref (adr g 3), .int a1, .int a2] σ none σ2 := by
  refine MC.of (by decide) (Nat.le_of_ble_eq_true rfl) (fun x C hl hr hq => ?_)
  subst hl
  exact w_X3_join (E := fun z => z = σ2) C  (fun a he pc lv hd => by cases he; exact x_vret C hr hq hd) h rfl
set_option maxHeartbeats 4000000 in
set_option maxRecDepth 100000 in
theorem w_X3_size_b4 {x : Cx} {g : Gb} {E : (Int32 × Int32) ⊕ (Int32) → Prop} (C : CF x g RX3 cX3_size 3 (rmk 1 1))  {l1 : Int32} {l2 : Int32} {σ : WD} (hI0 : ∀ s, E (.inl s) → WW x g 3 0 0 4 [(0, .ref (adr g 3)), (1, .int s.1), (2, .int s.2)] [] σ) (hE : ∀ (a : Int32), E (.inr a) → ∀ pc lv, decode cX3_size pc = .ok (.ireturn, 1) → WW x g 3 0 0 pc lv [.int a] σ) {t : (Int32 × Int32) ⊕ (Int32)} (h : f_X3_size_b4 l1 l2 σ = some t) (ht : E t) : WW x g 3 0 0 4 [(0, .ref (adr g 3)), (1, .int l1), (2, .int l2)] [] σ := by
  unfold f_X3_size_b4 at h
  refine x_iload_n C dX3_size_4 rfl 2 rfl 5 rfl ?_
  refine x_bipush C (v := 12) dX3_size_5 (by decide) 7 rfl ?_
  refine x_icmp_ge C dX3_size_7 29 (by decide) 10 rfl (fun hc => ?_) (fun hc => ?_)
  · have h := ip hc h
    refine x_iload_n C dX3_size_29 rfl 1 rfl 30 rfl ?_
    cases h
    exact hE _ ht 30 _ dX3_size_30
  · have h := iq hc h
    refine x_aload_n C dX3_size_10 rfl 0 rfl 11 rfl ?_
    refine gf_60_3 C dX3_size_11 14 rfl ?_
    refine x_iload_n C dX3_size_14 rfl 2 rfl 15 rfl ?_
    obtain ⟨hin, h⟩ := gi_some h
    refine x_iald C 4 (gt_4 g _) hin dX3_size_15 16 rfl ?_
    refine x_iload_n C dX3_size_16 rfl 2 rfl 17 rfl ?_
    refine x_icmp_le C dX3_size_17 23 (by decide) 20 rfl (fun hc => ?_) (fun hc => ?_)
    · have h := ip hc h
      refine x_iinc C [(2, .int (l2 + 1)), (0, .ref (adr g 3)), (1, .int l1)] dX3_size_23 2 rfl rfl (by decide) rfl 26 rfl ?_
      refine x_goto C dX3_size_26 4 (by decide) ?_
      cases h
      exact x_sub [1, 2, 0] rfl (hI0 (l1, (l2 + 1)) ht)
    · have h := iq hc h
      refine x_iinc C [(1, .int (l1 + 1)), (0, .ref (adr g 3)), (2, .int l2)] dX3_size_20 1 rfl rfl (by decide) rfl 23 rfl ?_
      refine x_iinc C [(2, .int (l2 + 1)), (1, .int (l1 + 1)), (0, .ref (adr g 3))] dX3_size_23 2 rfl rfl (by decide) rfl 26 rfl ?_
      refine x_goto C dX3_size_26 4 (by decide) ?_
      cases h
      exact x_sub [2, 1, 0] rfl (hI0 ((l1 + 1), (l2 + 1)) ht)
set_option maxHeartbeats 4000000 in
set_option maxRecDepth 100000 in
theorem w_X3_size_4 {x : Cx} {g : Gb} {E : Int32 → Prop} (C : CF x g RX3 cX3_size 3 (rmk 1 1))  {l1 : Int32} {l2 : Int32} {σ : WD} (hE : ∀ (a : Int32), E a → ∀ pc lv, decode cX3_size pc = .ok (.ireturn, 1) → WW x g 3 0 0 pc lv [.int a] σ) {t : Int32} (h : f_X3_size_4 l1 l2 σ = some t) (ht : E t) : WW x g 3 0 0 4 [(0, .ref (adr g 3)), (1, .int l1), (2, .int l2)] [] σ := by
  unfold f_X3_size_4 at h
  exact lp_ind (fun s : Int32 × Int32 => WW x g 3 0 0 4 [(0, .ref (adr g 3)), (1, .int s.1), (2, .int s.2)] [] σ) E h ht (fun s y hb hy => w_X3_size_b4 (E := Sum.elim (fun s : Int32 × Int32 => WW x g 3 0 0 4 [(0, .ref (adr g 3)), (1, .int s.1), (2, .int s.2)] [] σ) E) C  (fun _ h => h)  hE hb hy)
set_option maxHeartbeats 4000000 in
set_option maxRecDepth 100000 in
theorem w_X3_size {x : Cx} {g : Gb} {E : Int32 → Prop} (C : CF x g RX3 cX3_size 3 (rmk 1 1))   {σ : WD} (hE : ∀ (a : Int32), E a → ∀ pc lv, decode cX3_size pc = .ok (.ireturn, 1) → WW x g 3 0 0 pc lv [.int a] σ) {t : Int32} (h : f_X3_size  σ = some t) (ht : E t) : WW x g 3 0 0 0 [(0, .ref (adr g 3))] [] σ := by
  unfold f_X3_size at h
  refine x_iconst C (v := 0) dX3_size_0 (by decide) 1 rfl ?_
  refine x_istore_n C [(1, .int 0), (0, .ref (adr g 3))] dX3_size_1 rfl (by decide) rfl 2 rfl ?_
  refine x_iconst C (v := 0) dX3_size_2 (by decide) 3 rfl ?_
  refine x_istore_n C [(2, .int 0), (1, .int 0), (0, .ref (adr g 3))] dX3_size_3 rfl (by decide) rfl 4 rfl ?_
  exact x_sub [2, 1, 0] rfl (w_X3_size_4 C  hE h ht)
set_option maxHeartbeats 4000000 in
set_option maxRecDepth 100000 in
theorem c_X3_size {g : Gb} {l : Launch}   {σ : WD} {r : Int32} (h : f_X3_size  σ = some r) : MC l g yX3_size (.code yX3_size cX3_size 3 (some (.int))) (rmk 1 1) [.ref (adr g 3)] σ (some (.int r)) σ := by
  refine MC.of (by decide) (Nat.le_of_ble_eq_true rfl) (fun x C hl hr hq => ?_)
  subst hl
  exact w_X3_size (E := fun z => z = r) C  (fun a he pc lv hd => by cases he; exact x_iret C hr hq hd) h rfl
set_option maxHeartbeats 4000000 in
set_option maxRecDepth 100000 in
theorem w_X3_swapAlong_b2 {x : Cx} {g : Gb} {E : (Int32 × WD) ⊕ (WD) → Prop} (C : CF x g RX3 cX3_swapAlong 4 (rmk 2 24))  {l2 : Int32} {l3 : Int32} {σ : WD} (hI0 : ∀ s, E (.inl s) → WW x g 4 0 0 2 [(0, .ref (adr g 3)), (1, .ref (adr g 21)), (2, .int l2), (3, .int s.1)] [] s.2) (hE : ∀ (s2 : WD), E (.inr s2) → ∀ pc lv, decode cX3_swapAlong pc = .ok (.return_, 1) → WW x g 4 0 0 pc lv [] s2) {t : (Int32 × WD) ⊕ (WD)} (h : f_X3_swapAlong_b2 l2 l3 σ = some t) (ht : E t) : WW x g 4 0 0 2 [(0, .ref (adr g 3)), (1, .ref (adr g 21)), (2, .int l2), (3, .int l3)] [] σ := by
  unfold f_X3_swapAlong_b2 at h
  refine x_iload_n C dX3_swapAlong_2 rfl 3 rfl 3 rfl ?_
  refine x_iload_n C dX3_swapAlong_3 rfl 2 rfl 4 rfl ?_
  refine x_icmp_ge C dX3_swapAlong_4 25 (by decide) 7 rfl (fun hc => ?_) (fun hc => ?_)
  · have h := ip hc h
    cases h
    exact hE _ ht 25 _ dX3_swapAlong_25
  · have h := iq hc h
    refine x_aload_n C dX3_swapAlong_7 rfl 0 rfl 8 rfl ?_
    refine x_aload_n C dX3_swapAlong_8 rfl 1 rfl 9 rfl ?_
    refine x_iload_n C dX3_swapAlong_9 rfl 3 rfl 10 rfl ?_
    obtain ⟨hin, h⟩ := gi_some h
    refine x_iald C 21 (gt_21 g _) hin dX3_swapAlong_10 11 rfl ?_
    refine x_aload_n C dX3_swapAlong_11 rfl 1 rfl 12 rfl ?_
    refine x_iload_n C dX3_swapAlong_12 rfl 3 rfl 13 rfl ?_
    refine x_iconst C (v := 1) dX3_swapAlong_13 (by decide) 14 rfl ?_
    refine x_iadd C dX3_swapAlong_14 15 rfl ?_
    obtain ⟨hin, h⟩ := gi_some h
    refine x_iald C 21 (gt_21 g _) hin dX3_swapAlong_15 16 rfl ?_
    obtain ⟨σ16, h16, h⟩ := bv_some h
    refine x_callV C 3 [.int (σ.1 21 (l3 : Int32).toNatClampNeg), .int (σ.1 21 ((l3 + 1) : Int32).toNatClampNeg)] (c_X3_join  h16) mi_X3_join (gt_3 g _) rfl q_259 rfl ⟨rfl, rfl⟩ ⟨Nat.le_of_ble_eq_true rfl, Nat.le_of_ble_eq_true rfl⟩ ⟨Nat.zero_le _, Nat.zero_le _⟩ _ rfl (Nat.le_of_ble_eq_true rfl) dX3_swapAlong_16 19 rfl ?_
    refine x_iinc C [(3, .int (l3 + 2)), (0, .ref (adr g 3)), (1, .ref (adr g 21)), (2, .int l2)] dX3_swapAlong_19 3 rfl rfl (by decide) rfl 22 rfl ?_
    refine x_goto C dX3_swapAlong_22 2 (by decide) ?_
    cases h
    exact x_sub [1, 2, 3, 0] rfl (hI0 ((l3 + 2), σ16) ht)
set_option maxHeartbeats 4000000 in
set_option maxRecDepth 100000 in
theorem w_X3_swapAlong_2 {x : Cx} {g : Gb} {E : WD → Prop} (C : CF x g RX3 cX3_swapAlong 4 (rmk 2 24))  {l2 : Int32} {l3 : Int32} {σ : WD} (hE : ∀ (s2 : WD), E s2 → ∀ pc lv, decode cX3_swapAlong pc = .ok (.return_, 1) → WW x g 4 0 0 pc lv [] s2) {t : WD} (h : f_X3_swapAlong_2 l2 l3 σ = some t) (ht : E t) : WW x g 4 0 0 2 [(0, .ref (adr g 3)), (1, .ref (adr g 21)), (2, .int l2), (3, .int l3)] [] σ := by
  unfold f_X3_swapAlong_2 at h
  exact lp_ind (fun s : Int32 × WD => WW x g 4 0 0 2 [(0, .ref (adr g 3)), (1, .ref (adr g 21)), (2, .int l2), (3, .int s.1)] [] s.2) E h ht (fun s y hb hy => w_X3_swapAlong_b2 (E := Sum.elim (fun s : Int32 × WD => WW x g 4 0 0 2 [(0, .ref (adr g 3)), (1, .ref (adr g 21)), (2, .int l2), (3, .int s.1)] [] s.2) E) C  (fun _ h => h)  hE hb hy)
set_option maxHeartbeats 4000000 in
set_option maxRecDepth 100000 in
theorem w_X3_swapAlong {x : Cx} {g : Gb} {E : WD → Prop} (C : CF x g RX3 cX3_swapAlong 4 (rmk 2 24))  {a2 : Int32} {σ : WD} (hE : ∀ (s2 : WD), E s2 → ∀ pc lv, decode cX3_swapAlong pc = .ok (.return_, 1) → WW x g 4 0 0 pc lv [] s2) {t : WD} (h : f_X3_swapAlong a2 σ = some t) (ht : E t) : WW x g 4 0 0 0 [(0, .ref (adr g 3)), (1, .ref (adr g 21)), (2, .int a2)] [] σ := by
  unfold f_X3_swapAlong at h
  refine x_iconst C (v := 0) dX3_swapAlong_0 (by decide) 1 rfl ?_
  refine x_istore_n C [(3, .int 0), (0, .ref (adr g 3)), (1, .ref (adr g 21)), (2, .int a2)] dX3_swapAlong_1 rfl (by decide) rfl 2 rfl ?_
  exact x_sub [1, 2, 3, 0] rfl (w_X3_swapAlong_2 C  hE h ht)
set_option maxHeartbeats 4000000 in
set_option maxRecDepth 100000 in
theorem c_X3_swapAlong {g : Gb} {l : Launch}  {a2 : Int32} {σ : WD} {σ2 : WD} (h : f_X3_swapAlong a2 σ = some σ2) : MC l g yX3_swapAlong (.code yX3_swapAlong cX3_swapAlong 4 none) (rmk 2 24) [.ref (adr g 3), .ref (adr g 21), .int a2] σ none σ2 := by
  refine MC.of (by decide) (Nat.le_of_ble_eq_true rfl) (fun x C hl hr hq => ?_)
  subst hl
  exact w_X3_swapAlong (E := fun z => z = σ2) C  (fun a he pc lv hd => by cases he; exact x_vret C hr hq hd) h rfl
set_option maxHeartbeats 4000000 in
set_option maxRecDepth 100000 in
theorem w_X3_clear_f {x : Cx} {g : Gb} {E : WD → Prop} (C : CF x g RX3 cX3_clear 1 (rmk 2 44))   {σ : WD} (hE : ∀ (s2 : WD), E s2 → ∀ pc lv, decode cX3_clear pc = .ok (.return_, 1) → WW x g 1 0 0 pc lv [] s2) {t : WD} (h : f_X3_clear_f  σ = some t) (ht : E t) : WW x g 1 0 0 0 [(0, .ref (adr g 25))] [] σ := by
  unfold f_X3_clear_f at h
  refine x_aload_n C dX3_clear_0 rfl 0 rfl 1 rfl ?_
  refine gf_60_25 C dX3_clear_1 4 rfl ?_
  refine x_iconst C (v := -1) dX3_clear_4 (by decide) 5 rfl ?_
  refine x_callS C [.ref (adr g 26), .int (-1)] (c_fill 26 12 (by decide) (fun σ => (gt_26 g σ)) (fun σ => (st_26 g σ)) (-1)) mi_J7_fill_53178 q_57 rfl ⟨rfl, rfl⟩ (by decide) (by decide) _ rfl (Nat.le_of_ble_eq_true rfl) dX3_clear_5 8 rfl ?_
  obtain ⟨σ5, e5, h⟩ := lt_some h
  refine x_we e5 ?_
  cases h
  exact hE _ ht 8 _ dX3_clear_8
set_option maxHeartbeats 4000000 in
set_option maxRecDepth 100000 in
theorem c_X3_clear_f {g : Gb} {l : Launch}   {σ : WD} {σ2 : WD} (h : f_X3_clear_f  σ = some σ2) : MC l g yX3_clear (.code yX3_clear cX3_clear 1 none) (rmk 2 44) [.ref (adr g 25)] σ none σ2 := by
  refine MC.of (by decide) (Nat.le_of_ble_eq_true rfl) (fun x C hl hr hq => ?_)
  subst hl
  exact w_X3_clear_f (E := fun z => z = σ2) C  (fun a he pc lv hd => by cases he; exact x_vret C hr hq hd) h rfl
set_option maxHeartbeats 4000000 in
set_option maxRecDepth 100000 in
theorem w_X3_join_f {x : Cx} {g : Gb} {E : WD → Prop} (C : CF x g RX3 cX3_join 3 (rmk 1 1))  {a1 : Int32} {a2 : Int32} {σ : WD} (hE : ∀ (s2 : WD), E s2 → ∀ pc lv, decode cX3_join pc = .ok (.return_, 1) → WW x g 3 0 0 pc lv [] s2) {t : WD} (h : f_X3_join_f a1 a2 σ = some t) (ht : E t) : WW x g 3 0 0 0 [(0, .ref (adr g 25)), (1, .int a1), (2, .int a2)] [] σ := by
  unfold f_X3_join_f at h
  refine x_aload_n C dX3_join_0 rfl 0 rfl 1 rfl ?_
  refine gf_60_25 C dX3_join_1 4 rfl ?_
  refine x_iload_n C dX3_join_4 rfl 1 rfl 5 rfl ?_
  refine x_iload_n C dX3_join_5 rfl 2 rfl 6 rfl ?_
  obtain ⟨hin, h⟩ := gi_some h
  refine x_iast C 26 (gt_26 g _) (st_26 g _) hin dX3_join_6 7 rfl ?_
  obtain ⟨σ6, e6, h⟩ := lt_some h
  refine x_we e6 ?_
  refine x_aload_n C dX3_join_7 rfl 0 rfl 8 rfl ?_
  refine gf_60_25 C dX3_join_8 11 rfl ?_
  refine x_iload_n C dX3_join_11 rfl 2 rfl 12 rfl ?_
  refine x_iload_n C dX3_join_12 rfl 1 rfl 13 rfl ?_
  obtain ⟨hin, h⟩ := gi_some h
  refine x_iast C 26 (gt_26 g _) (st_26 g _) hin dX3_join_13 14 rfl ?_
  obtain ⟨σ13, e13, h⟩ := lt_some h
  refine x_we e13 ?_
  cases h
  exact hE _ ht 14 _ dX3_join_14
set_option maxHeartbeats 4000000 in
set_option maxRecDepth 100000 in
theorem c_X3_join_f {g : Gb} {l : Launch}  {a1 : Int32} {a2 : Int32} {σ : WD} {σ2 : WD} (h : f_X3_join_f a1 a2 σ = some σ2) : MC l g yX3_join (.code yX3_join cX3_join 3 none) (rmk 1 1) [.ref (adr g 25), .int a1, .int a2] σ none σ2 := by
  refine MC.of (by decide) (Nat.le_of_ble_eq_true rfl) (fun x C hl hr hq => ?_)
  subst hl
  exact w_X3_join_f (E := fun z => z = σ2) C  (fun a he pc lv hd => by cases he; exact x_vret C hr hq hd) h rfl
set_option maxHeartbeats 4000000 in
set_option maxRecDepth 100000 in
theorem w_X3_copyFrom_f {x : Cx} {g : Gb} {E : WD → Prop} (C : CF x g RX3 cX3_copyFrom 2 (rmk 2 61))   {σ : WD} (hE : ∀ (s2 : WD), E s2 → ∀ pc lv, decode cX3_copyFrom pc = .ok (.return_, 1) → WW x g 2 0 0 pc lv [] s2) {t : WD} (h : f_X3_copyFrom_f  σ = some t) (ht : E t) : WW x g 2 0 0 0 [(0, .ref (adr g 3)), (1, .ref (adr g 26))] [] σ := by
  unfold f_X3_copyFrom_f at h
  refine x_aload_n C dX3_copyFrom_0 rfl 1 rfl 1 rfl ?_
  refine x_iconst C (v := 0) dX3_copyFrom_1 (by decide) 2 rfl ?_
  refine x_aload_n C dX3_copyFrom_2 rfl 0 rfl 3 rfl ?_
  refine gf_60_3 C dX3_copyFrom_3 6 rfl ?_
  refine x_iconst C (v := 0) dX3_copyFrom_6 (by decide) 7 rfl ?_
  refine x_bipush C (v := 12) dX3_copyFrom_7 (by decide) 9 rfl ?_
  refine x_copy C 26 4 q_305 q_214 q_213 q_15 (gt_26 g _) (gt_4 g _) (st_4 g _) (by decide) (by decide) (by decide) (by decide) dX3_copyFrom_9 12 rfl ?_
  obtain ⟨σ9, e9, h⟩ := lt_some h
  refine x_we e9 ?_
  cases h
  exact hE _ ht 12 _ dX3_copyFrom_12
set_option maxHeartbeats 4000000 in
set_option maxRecDepth 100000 in
theorem c_X3_copyFrom_f {g : Gb} {l : Launch}   {σ : WD} {σ2 : WD} (h : f_X3_copyFrom_f  σ = some σ2) : MC l g yX3_copyFrom (.code yX3_copyFrom cX3_copyFrom 2 none) (rmk 2 61) [.ref (adr g 3), .ref (adr g 26)] σ none σ2 := by
  refine MC.of (by decide) (Nat.le_of_ble_eq_true rfl) (fun x C hl hr hq => ?_)
  subst hl
  exact w_X3_copyFrom_f (E := fun z => z = σ2) C  (fun a he pc lv hd => by cases he; exact x_vret C hr hq hd) h rfl
set_option maxHeartbeats 4000000 in
set_option maxRecDepth 100000 in
theorem w_X3_copyFrom_r14 {x : Cx} {g : Gb} {E : WD → Prop} (C : CF x g RX3 cX3_copyFrom 2 (rmk 2 61)) {j1 : Nat} (hj1 : j1 < 4)  {σ : WD} (hE : ∀ (s2 : WD), E s2 → ∀ pc lv, decode cX3_copyFrom pc = .ok (.return_, 1) → WW x g 2 0 0 pc lv [] s2) {t : WD} (h : f_X3_copyFrom_r14 j1 σ = some t) (ht : E t) : WW x g 2 0 0 0 [(0, .ref (adr g 3)), (1, .ref (adr g (14 + j1)))] [] σ := by
  unfold f_X3_copyFrom_r14 at h
  refine x_aload_n C dX3_copyFrom_0 rfl 1 rfl 1 rfl ?_
  refine x_iconst C (v := 0) dX3_copyFrom_1 (by decide) 2 rfl ?_
  refine x_aload_n C dX3_copyFrom_2 rfl 0 rfl 3 rfl ?_
  refine gf_60_3 C dX3_copyFrom_3 6 rfl ?_
  refine x_iconst C (v := 0) dX3_copyFrom_6 (by decide) 7 rfl ?_
  refine x_bipush C (v := 12) dX3_copyFrom_7 (by decide) 9 rfl ?_
  refine x_copy C (14 + j1) 4 q_305 q_214 q_213 q_15 (gt_r14 g _ hj1) (gt_4 g _) (st_4 g _) (by decide) (by decide) (by decide) (by decide) dX3_copyFrom_9 12 rfl ?_
  obtain ⟨σ9, e9, h⟩ := lt_some h
  refine x_we e9 ?_
  cases h
  exact hE _ ht 12 _ dX3_copyFrom_12
set_option maxHeartbeats 4000000 in
set_option maxRecDepth 100000 in
theorem c_X3_copyFrom_r14 {g : Gb} {l : Launch} {j1 : Nat} (hj1 : j1 < 4)  {σ : WD} {σ2 : WD} (h : f_X3_copyFrom_r14 j1 σ = some σ2) : MC l g yX3_copyFrom (.code yX3_copyFrom cX3_copyFrom 2 none) (rmk 2 61) [.ref (adr g 3), .ref (adr g (14 + j1))] σ none σ2 := by
  refine MC.of (by decide) (Nat.le_of_ble_eq_true rfl) (fun x C hl hr hq => ?_)
  subst hl
  exact w_X3_copyFrom_r14 (E := fun z => z = σ2) C hj1 (fun a he pc lv hd => by cases he; exact x_vret C hr hq hd) h rfl
set_option maxHeartbeats 4000000 in
set_option maxRecDepth 100000 in
theorem w_X1_restore {x : Cx} {g : Gb} {E : WD → Prop} (C : CF x g RX1 cX1_restore 3 (rmk 3 83))   {σ : WD} (hE : ∀ (s2 : WD), E s2 → ∀ pc lv, decode cX1_restore pc = .ok (.return_, 1) → WW x g 3 0 0 pc lv [] s2) {t : WD} (h : f_X1_restore  σ = some t) (ht : E t) : WW x g 3 0 0 0 [(0, .ref (adr g 7)), (1, .ref (adr g 1)), (2, .ref (adr g 3))] [] σ := by
  unfold f_X1_restore at h
  refine x_aload_n C dX1_restore_0 rfl 1 rfl 1 rfl ?_
  refine x_aload_n C dX1_restore_1 rfl 0 rfl 2 rfl ?_
  refine gf_90_7 C dX1_restore_2 5 rfl ?_
  refine x_aload_n C dX1_restore_5 rfl 0 rfl 6 rfl ?_
  refine gf_92_7 C dX1_restore_6 9 rfl ?_
  obtain ⟨hin9, h⟩ := gi_some h
  refine x_aald C 8 9 (gt_8 g _) hin9 dX1_restore_9 10 rfl ?_
  obtain ⟨σ10, h10, h⟩ := bv_some h
  refine x_callV C 1 [.ref (adr g (9 + ((σ.1 7 2) : Int32).toNatClampNeg))] (c_X0_copyFrom_r9 (ix_lt hin9) h10) mi_X0_copyFrom (gt_1 g _) rfl q_685 rfl ⟨rfl, rfl⟩ ⟨Nat.le_of_ble_eq_true rfl, Nat.le_of_ble_eq_true rfl⟩ ⟨Nat.zero_le _, Nat.zero_le _⟩ _ rfl (Nat.le_of_ble_eq_true rfl) dX1_restore_10 13 rfl ?_
  refine x_aload_n C dX1_restore_13 rfl 2 rfl 14 rfl ?_
  refine x_aload_n C dX1_restore_14 rfl 0 rfl 15 rfl ?_
  refine gf_91_7 C dX1_restore_15 18 rfl ?_
  refine x_aload_n C dX1_restore_18 rfl 0 rfl 19 rfl ?_
  refine gf_92_7 C dX1_restore_19 22 rfl ?_
  obtain ⟨hin22, h⟩ := gi_some h
  refine x_aald C 13 14 (gt_13 g _) hin22 dX1_restore_22 23 rfl ?_
  obtain ⟨σ23, h23, h⟩ := bv_some h
  refine x_callV C 3 [.ref (adr g (14 + ((σ10.1 7 2) : Int32).toNatClampNeg))] (c_X3_copyFrom_r14 (ix_lt hin22) h23) mi_X3_copyFrom (gt_3 g _) rfl q_690 rfl ⟨rfl, rfl⟩ ⟨Nat.le_of_ble_eq_true rfl, Nat.le_of_ble_eq_true rfl⟩ ⟨Nat.zero_le _, Nat.zero_le _⟩ _ rfl (Nat.le_of_ble_eq_true rfl) dX1_restore_23 26 rfl ?_
  refine x_aload_n C dX1_restore_26 rfl 0 rfl 27 rfl ?_
  refine x_aload_n C dX1_restore_27 rfl 0 rfl 28 rfl ?_
  refine gf_92_7 C dX1_restore_28 31 rfl ?_
  refine x_iconst C (v := 4) dX1_restore_31 (by decide) 32 rfl ?_
  refine x_iadd C dX1_restore_32 33 rfl ?_
  refine x_iconst C (v := 1) dX1_restore_33 (by decide) 34 rfl ?_
  refine x_isub C dX1_restore_34 35 rfl ?_
  refine x_iconst C (v := 4) dX1_restore_35 (by decide) 36 rfl ?_
  obtain ⟨hz, h⟩ := gz_some h
  refine x_irem C dX1_restore_36 hz 37 rfl ?_
  refine pf_92_7 C dX1_restore_37 40 rfl ?_
  obtain ⟨σ37, e37, h⟩ := lt_some h
  refine x_we e37 ?_
  refine x_aload_n C dX1_restore_40 rfl 0 rfl 41 rfl ?_
  refine x_dup C dX1_restore_41 rfl 42 rfl ?_
  refine gf_93_7 C dX1_restore_42 45 rfl ?_
  refine x_iconst C (v := 1) dX1_restore_45 (by decide) 46 rfl ?_
  refine x_isub C dX1_restore_46 47 rfl ?_
  refine pf_93_7 C dX1_restore_47 50 rfl ?_
  obtain ⟨σ47, e47, h⟩ := lt_some h
  refine x_we e47 ?_
  cases h
  exact hE _ ht 50 _ dX1_restore_50
set_option maxHeartbeats 4000000 in
set_option maxRecDepth 100000 in
theorem c_X1_restore {g : Gb} {l : Launch}   {σ : WD} {σ2 : WD} (h : f_X1_restore  σ = some σ2) : MC l g yX1_restore (.code yX1_restore cX1_restore 3 none) (rmk 3 83) [.ref (adr g 7), .ref (adr g 1), .ref (adr g 3)] σ none σ2 := by
  refine MC.of (by decide) (Nat.le_of_ble_eq_true rfl) (fun x C hl hr hq => ?_)
  subst hl
  exact w_X1_restore (E := fun z => z = σ2) C  (fun a he pc lv hd => by cases he; exact x_vret C hr hq hd) h rfl
