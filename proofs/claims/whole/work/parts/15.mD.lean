set_option maxHeartbeats 4000000 in
set_option maxRecDepth 100000 in
theorem w_X6_begin_11 {x : Cx} {g : Gb} {E : Int32 × WD → Prop} (C : CF x g RX6 cX6_begin 3 (rmk 3 66))   {σ : WD} (hE : ∀ (a : Int32) (s2 : WD), E (a, s2) → ∀ pc lv, decode cX6_begin pc = .ok (.ireturn, 1) → WW x g 3 0 0 pc lv [.int a] s2) {t : Int32 × WD} (h : f_X6_begin_11  σ = some (.inl t)) (ht : E t) : WW x g 3 0 0 11 [] [] σ := by
  unfold f_X6_begin_11 at h
  cases h
set_option maxHeartbeats 4000000 in
set_option maxRecDepth 100000 in
theorem w_X6_begin_21 {x : Cx} {g : Gb} {E : Int32 × WD → Prop} (C : CF x g RX6 cX6_begin 3 (rmk 3 66))  {l1 : Int32} {σ : WD} (hE : ∀ (a : Int32) (s2 : WD), E (a, s2) → ∀ pc lv, decode cX6_begin pc = .ok (.ireturn, 1) → WW x g 3 0 0 pc lv [.int a] s2) {t : Int32 × WD} (h : f_X6_begin_21 l1 σ = some t) (ht : E t) : WW x g 3 0 0 21 [(0, .ref (adr g 0)), (1, .int l1)] [] σ := by
  unfold f_X6_begin_21 at h
  refine x_aload_n C dX6_begin_21 rfl 0 rfl 22 rfl ?_
  refine gf_162_0 C dX6_begin_22 25 rfl ?_
  refine gf_35_1 C dX6_begin_25 28 rfl ?_
  refine x_istore_n C [(2, .int (σ.1 1 0)), (0, .ref (adr g 0)), (1, .int l1)] dX6_begin_28 rfl (by decide) rfl 29 rfl ?_
  refine x_aload_n C dX6_begin_29 rfl 1 rfl 30 rfl ?_
  refine gf_162_0 C dX6_begin_30 33 rfl ?_
  refine x_iload_n C dX6_begin_33 rfl 2 rfl 34 rfl ?_
  obtain ⟨σ34, h34, h⟩ := bv_some h
  refine x_callV C 1 [.int l1] (c_X0_clear  h34) mi_X0_clear (gt_1 g _) rfl q_566 rfl ⟨rfl, rfl⟩ ⟨Nat.le_of_ble_eq_true rfl, Nat.le_of_ble_eq_true rfl⟩ ⟨Nat.zero_le _, Nat.zero_le _⟩ _ rfl (Nat.le_of_ble_eq_true rfl) dX6_begin_34 37 rfl ?_
  refine x_aload_n C dX6_begin_37 rfl 1 rfl 38 rfl ?_
  refine gf_163_0 C dX6_begin_38 41 rfl ?_
  obtain ⟨σ41, h41, h⟩ := bv_some h
  refine x_callV C 3 [] (c_X3_clear  h41) mi_X3_clear (gt_3 g _) rfl q_593 rfl ⟨rfl, rfl⟩ ⟨Nat.le_of_ble_eq_true rfl, Nat.le_of_ble_eq_true rfl⟩ ⟨Nat.zero_le _, Nat.zero_le _⟩ _ rfl (Nat.le_of_ble_eq_true rfl) dX6_begin_41 44 rfl ?_
  refine x_aload_n C dX6_begin_44 rfl 1 rfl 45 rfl ?_
  refine gf_165_0 C dX6_begin_45 48 rfl ?_
  obtain ⟨σ48, h48, h⟩ := bv_some h
  refine x_callV C 7 [] (c_X1_clear  h48) mi_X1_clear (gt_7 g _) rfl q_594 rfl ⟨rfl, rfl⟩ ⟨Nat.le_of_ble_eq_true rfl, Nat.le_of_ble_eq_true rfl⟩ ⟨Nat.zero_le _, Nat.zero_le _⟩ _ rfl (Nat.le_of_ble_eq_true rfl) dX6_begin_48 51 rfl ?_
  refine x_iload_n C dX6_begin_51 rfl 0 rfl 52 rfl ?_
  cases h
  exact hE _ _ ht 52 _ dX6_begin_52
set_option maxHeartbeats 4000000 in
set_option maxRecDepth 100000 in
theorem w_X6_begin {x : Cx} {g : Gb} {E : Int32 × WD → Prop} (C : CF x g RX6 cX6_begin 3 (rmk 3 66))  {a1 : Int32} {σ : WD} (hE : ∀ (a : Int32) (s2 : WD), E (a, s2) → ∀ pc lv, decode cX6_begin pc = .ok (.ireturn, 1) → WW x g 3 0 0 pc lv [.int a] s2) {t : Int32 × WD} (h : f_X6_begin a1 σ = some (.inl t)) (ht : E t) : WW x g 3 0 0 0 [(0, .ref (adr g 0)), (1, .int a1)] [] σ := by
  unfold f_X6_begin at h
  refine x_iload_n C dX6_begin_0 rfl 1 rfl 1 rfl ?_
  refine x_iconst C (v := 2) dX6_begin_1 (by decide) 2 rfl ?_
  refine x_icmp_lt C dX6_begin_2 11 (by decide) 5 rfl (fun hc => ?_) (fun hc => ?_)
  · have h := ip hc h
    exact x_sub [] rfl (w_X6_begin_11 C  hE h ht)
  · have h := iq hc h
    refine x_iload_n C dX6_begin_5 rfl 1 rfl 6 rfl ?_
    refine x_bipush C (v := 12) dX6_begin_6 (by decide) 8 rfl ?_
    refine x_icmp_le C dX6_begin_8 21 (by decide) 11 rfl (fun hc => ?_) (fun hc => ?_)
    · have h := ip hc h
      have h := ml_inl h
      exact x_sub [0, 1] rfl (w_X6_begin_21 C  hE h ht)
    · have h := iq hc h
      exact x_sub [] rfl (w_X6_begin_11 C  hE h ht)
set_option maxHeartbeats 4000000 in
set_option maxRecDepth 100000 in
theorem c_X6_begin {g : Gb} {l : Launch}  {a1 : Int32} {σ : WD} {p : Int32 × WD} (h : f_X6_begin a1 σ = some (.inl p)) : MC l g yX6_begin (.code yX6_begin cX6_begin 3 (some (.int))) (rmk 3 66) [.ref (adr g 0), .int a1] σ (some (.int p.1)) p.2 := by
  refine MC.of (by decide) (Nat.le_of_ble_eq_true rfl) (fun x C hl hr hq => ?_)
  subst hl
  exact w_X6_begin (E := fun z => z = p) C  (fun a s2 he pc lv hd => by cases he; exact x_iret C hr hq hd) h rfl
set_option maxHeartbeats 4000000 in
set_option maxRecDepth 100000 in
theorem w_X6_requireNode_15 {x : Cx} {g : Gb} {E : Unit → Prop} (C : CF x g RX6 cX6_requireNode 2 (rmk 1 1))   {σ : WD} (hE : ∀ (a : Unit), E a → ∀ pc lv, decode cX6_requireNode pc = .ok (.return_, 1) → WW x g 2 0 0 pc lv [] σ) {t : Unit} (h : f_X6_requireNode_15  σ = some (.inl t)) (ht : E t) : WW x g 2 0 0 15 [] [] σ := by
  unfold f_X6_requireNode_15 at h
  cases h
set_option maxHeartbeats 4000000 in
set_option maxRecDepth 100000 in
theorem w_X6_requireNode {x : Cx} {g : Gb} {E : Unit → Prop} (C : CF x g RX6 cX6_requireNode 2 (rmk 1 1))  {a1 : Int32} {σ : WD} (hE : ∀ (a : Unit), E a → ∀ pc lv, decode cX6_requireNode pc = .ok (.return_, 1) → WW x g 2 0 0 pc lv [] σ) {t : Unit} (h : f_X6_requireNode a1 σ = some (.inl t)) (ht : E t) : WW x g 2 0 0 0 [(0, .ref (adr g 0)), (1, .int a1)] [] σ := by
  unfold f_X6_requireNode at h
  refine x_iload_n C dX6_requireNode_0 rfl 1 rfl 1 rfl ?_
  refine x_if_lt C dX6_requireNode_1 15 (by decide) 4 rfl (fun hc => ?_) (fun hc => ?_)
  · have h := ip hc h
    exact x_sub [] rfl (w_X6_requireNode_15 C  hE h ht)
  · have h := iq hc h
    refine x_iload_n C dX6_requireNode_4 rfl 1 rfl 5 rfl ?_
    refine x_aload_n C dX6_requireNode_5 rfl 0 rfl 6 rfl ?_
    refine gf_162_0 C dX6_requireNode_6 9 rfl ?_
    refine gf_35_1 C dX6_requireNode_9 12 rfl ?_
    refine x_icmp_lt C dX6_requireNode_12 26 (by decide) 15 rfl (fun hc => ?_) (fun hc => ?_)
    · have h := ip hc h
      cases h
      exact hE _ ht 26 _ dX6_requireNode_26
    · have h := iq hc h
      exact x_sub [] rfl (w_X6_requireNode_15 C  hE h ht)
set_option maxHeartbeats 4000000 in
set_option maxRecDepth 100000 in
theorem c_X6_requireNode {g : Gb} {l : Launch}  {a1 : Int32} {σ : WD} {u : Unit} (h : f_X6_requireNode a1 σ = some (.inl u)) : MC l g yX6_requireNode (.code yX6_requireNode cX6_requireNode 2 none) (rmk 1 1) [.ref (adr g 0), .int a1] σ none σ := by
  refine MC.of (by decide) (Nat.le_of_ble_eq_true rfl) (fun x C hl hr hq => ?_)
  subst hl
  exact w_X6_requireNode (E := fun z => z = u) C  (fun a he pc lv hd => by cases he; exact x_vret C hr hq hd) h rfl
set_option maxHeartbeats 4000000 in
set_option maxRecDepth 100000 in
theorem w_X6_requireDifferent {x : Cx} {g : Gb} {E : Unit → Prop} (C : CF x g RX6 cX6_requireDifferent 2 (rmk 1 1))  {a1 : Int32} {a2 : Int32} {σ : WD} (hE : ∀ (a : Unit), E a → ∀ pc lv, decode cX6_requireDifferent pc = .ok (.return_, 1) → WW x g 2 0 0 pc lv [] σ) {t : Unit} (h : f_X6_requireDifferent a1 a2 σ = some (.inl t)) (ht : E t) : WW x g 2 0 0 0 [(0, .int a1), (1, .int a2)] [] σ := by
  unfold f_X6_requireDifferent at h
  refine x_iload_n C dX6_requireDifferent_0 rfl 0 rfl 1 rfl ?_
  refine x_iload_n C dX6_requireDifferent_1 rfl 1 rfl 2 rfl ?_
  refine x_icmp_ne C dX6_requireDifferent_2 16 (by decide) 5 rfl (fun hc => ?_) (fun hc => ?_)
  · have h := iq hc h
    cases h
    exact hE _ ht 16 _ dX6_requireDifferent_16
  · have h := ip hc h
    cases h
set_option maxHeartbeats 4000000 in
set_option maxRecDepth 100000 in
theorem c_X6_requireDifferent {g : Gb} {l : Launch}  {a1 : Int32} {a2 : Int32} {σ : WD} {u : Unit} (h : f_X6_requireDifferent a1 a2 σ = some (.inl u)) : MC l g yX6_requireDifferent (.code yX6_requireDifferent cX6_requireDifferent 2 none) (rmk 1 1) [.int a1, .int a2] σ none σ := by
  refine MC.of (by decide) (Nat.le_of_ble_eq_true rfl) (fun x C hl hr hq => ?_)
  subst hl
  exact w_X6_requireDifferent (E := fun z => z = u) C  (fun a he pc lv hd => by cases he; exact x_vret C hr hq hd) h rfl
set_option maxHeartbeats 4000000 in
set_option maxRecDepth 100000 in
theorem w_X6_setEdge_47 {x : Cx} {g : Gb} {E : Int32 × WD → Prop} (C : CF x g RX6 cX6_setEdge 5 (rmk 3 84))  {l1 : Int32} {l2 : Int32} {l3 : Int32} {s0 : Int32} {σ : WD} (hE : ∀ (a : Int32) (s2 : WD), E (a, s2) → ∀ pc lv, decode cX6_setEdge pc = .ok (.ireturn, 1) → WW x g 5 0 0 pc lv [.int a] s2) {t : Int32 × WD} (h : f_X6_setEdge_47 l1 l2 l3 s0 σ = some t) (ht : E t) : WW x g 5 0 0 47 [(0, .ref (adr g 0)), (1, .int l1), (2, .int l2), (3, .int l3)] [.int s0] σ := by
  unfold f_X6_setEdge_47 at h
  refine x_istore C [(4, .int s0), (0, .ref (adr g 0)), (1, .int l1), (2, .int l2), (3, .int l3)] dX6_setEdge_47 (by decide) rfl 49 rfl ?_
  refine x_aload_n C dX6_setEdge_49 rfl 1 rfl 50 rfl ?_
  refine gf_162_0 C dX6_setEdge_50 53 rfl ?_
  refine x_iload_n C dX6_setEdge_53 rfl 2 rfl 54 rfl ?_
  refine x_iload_n C dX6_setEdge_54 rfl 3 rfl 55 rfl ?_
  refine x_iload_n C dX6_setEdge_55 rfl 4 rfl 56 rfl ?_
  obtain ⟨σ56, h56, h⟩ := bv_some h
  refine x_callV C 1 [.int l1, .int l2, .int l3] (c_X0_put  h56) mi_X0_put (gt_1 g _) rfl q_571 rfl ⟨rfl, rfl⟩ ⟨Nat.le_of_ble_eq_true rfl, Nat.le_of_ble_eq_true rfl⟩ ⟨Nat.zero_le _, Nat.zero_le _⟩ _ rfl (Nat.le_of_ble_eq_true rfl) dX6_setEdge_56 59 rfl ?_
  refine x_iload_n C dX6_setEdge_59 rfl 4 rfl 60 rfl ?_
  refine x_if_ne C dX6_setEdge_60 83 (by decide) 63 rfl (fun hc => ?_) (fun hc => ?_)
  · have h := iq hc h
    refine x_iload C dX6_setEdge_83 0 rfl 85 rfl ?_
    cases h
    exact hE _ _ ht 85 _ dX6_setEdge_85
  · have h := ip hc h
    refine x_aload_n C dX6_setEdge_63 rfl 1 rfl 64 rfl ?_
    refine gf_163_0 C dX6_setEdge_64 67 rfl ?_
    refine x_iload_n C dX6_setEdge_67 rfl 2 rfl 68 rfl ?_
    refine x_iload_n C dX6_setEdge_68 rfl 3 rfl 69 rfl ?_
    obtain ⟨r69, h69, h⟩ := bv_some h
    refine x_callV C 3 [.int l1, .int l2] (c_X3_has  h69) mi_X3_has (gt_3 g _) rfl q_297 rfl ⟨rfl, rfl⟩ ⟨Nat.le_of_ble_eq_true rfl, Nat.le_of_ble_eq_true rfl⟩ ⟨Nat.zero_le _, Nat.zero_le _⟩ _ rfl (Nat.le_of_ble_eq_true rfl) dX6_setEdge_69 72 rfl ?_
    refine x_if_eq C dX6_setEdge_72 83 (by decide) 75 rfl (fun hc => ?_) (fun hc => ?_)
    · have h := ip hc h
      refine x_iload C dX6_setEdge_83 0 rfl 85 rfl ?_
      cases h
      exact hE _ _ ht 85 _ dX6_setEdge_85
    · have h := iq hc h
      refine x_aload_n C dX6_setEdge_75 rfl 1 rfl 76 rfl ?_
      refine gf_163_0 C dX6_setEdge_76 79 rfl ?_
      refine x_iload_n C dX6_setEdge_79 rfl 2 rfl 80 rfl ?_
      obtain ⟨σ80, h80, h⟩ := bv_some h
      refine x_callV C 3 [.int l1] (c_X3_part  h80) mi_X3_part (gt_3 g _) rfl q_610 rfl ⟨rfl, rfl⟩ ⟨Nat.le_of_ble_eq_true rfl, Nat.le_of_ble_eq_true rfl⟩ ⟨Nat.zero_le _, Nat.zero_le _⟩ _ rfl (Nat.le_of_ble_eq_true rfl) dX6_setEdge_80 83 rfl ?_
      refine x_iload C dX6_setEdge_83 0 rfl 85 rfl ?_
      cases h
      exact hE _ _ ht 85 _ dX6_setEdge_85
set_option maxHeartbeats 4000000 in
set_option maxRecDepth 100000 in
theorem w_X6_setEdge_15 {x : Cx} {g : Gb} {E : Int32 × WD → Prop} (C : CF x g RX6 cX6_setEdge 5 (rmk 3 84))  {l1 : Int32} {l2 : Int32} {l3 : Int32} {σ : WD} (hE : ∀ (a : Int32) (s2 : WD), E (a, s2) → ∀ pc lv, decode cX6_setEdge pc = .ok (.ireturn, 1) → WW x g 5 0 0 pc lv [.int a] s2) {t : Int32 × WD} (h : f_X6_setEdge_15 l1 l2 l3 σ = some t) (ht : E t) : WW x g 5 0 0 15 [(0, .ref (adr g 0)), (1, .int l1), (2, .int l2), (3, .int l3)] [] σ := by
  unfold f_X6_setEdge_15 at h
  refine x_aload_n C dX6_setEdge_15 rfl 0 rfl 16 rfl ?_
  refine gf_165_0 C dX6_setEdge_16 19 rfl ?_
  refine x_aload_n C dX6_setEdge_19 rfl 0 rfl 20 rfl ?_
  refine gf_162_0 C dX6_setEdge_20 23 rfl ?_
  refine x_aload_n C dX6_setEdge_23 rfl 0 rfl 24 rfl ?_
  refine gf_163_0 C dX6_setEdge_24 27 rfl ?_
  obtain ⟨σ27, h27, h⟩ := bv_some h
  refine x_callV C 7 [.ref (adr g 1), .ref (adr g 3)] (c_X1_save  h27) mi_X1_save (gt_7 g _) rfl q_208 rfl ⟨rfl, rfl⟩ ⟨Nat.le_of_ble_eq_true rfl, Nat.le_of_ble_eq_true rfl⟩ ⟨Nat.zero_le _, Nat.zero_le _⟩ _ rfl (Nat.le_of_ble_eq_true rfl) dX6_setEdge_27 30 rfl ?_
  refine x_aload_n C dX6_setEdge_30 rfl 0 rfl 31 rfl ?_
  refine gf_162_0 C dX6_setEdge_31 34 rfl ?_
  refine x_iload_n C dX6_setEdge_34 rfl 1 rfl 35 rfl ?_
  refine x_iload_n C dX6_setEdge_35 rfl 2 rfl 36 rfl ?_
  obtain ⟨r36, h36, h⟩ := bv_some h
  refine x_callV C 1 [.int l1, .int l2] (c_X0_joined  h36) mi_X0_joined (gt_1 g _) rfl q_553 rfl ⟨rfl, rfl⟩ ⟨Nat.le_of_ble_eq_true rfl, Nat.le_of_ble_eq_true rfl⟩ ⟨Nat.zero_le _, Nat.zero_le _⟩ _ rfl (Nat.le_of_ble_eq_true rfl) dX6_setEdge_36 39 rfl ?_
  refine x_if_eq C dX6_setEdge_39 46 (by decide) 42 rfl (fun hc => ?_) (fun hc => ?_)
  · have h := ip hc h
    refine x_iconst C (v := 0) dX6_setEdge_46 (by decide) 47 rfl ?_
    exact x_sub [0, 1, 2, 3] rfl (w_X6_setEdge_47 C  hE h ht)
  · have h := iq hc h
    refine x_iconst C (v := 1) dX6_setEdge_42 (by decide) 43 rfl ?_
    refine x_goto C dX6_setEdge_43 47 (by decide) ?_
    exact x_sub [0, 1, 2, 3] rfl (w_X6_setEdge_47 C  hE h ht)
set_option maxHeartbeats 4000000 in
set_option maxRecDepth 100000 in
theorem w_X6_setEdge {x : Cx} {g : Gb} {E : Int32 × WD → Prop} (C : CF x g RX6 cX6_setEdge 5 (rmk 3 84))  {a1 : Int32} {a2 : Int32} {a3 : Int32} {σ : WD} (hE : ∀ (a : Int32) (s2 : WD), E (a, s2) → ∀ pc lv, decode cX6_setEdge pc = .ok (.ireturn, 1) → WW x g 5 0 0 pc lv [.int a] s2) {t : Int32 × WD} (h : f_X6_setEdge a1 a2 a3 σ = some (.inl t)) (ht : E t) : WW x g 5 0 0 0 [(0, .ref (adr g 0)), (1, .int a1), (2, .int a2), (3, .int a3)] [] σ := by
  unfold f_X6_setEdge at h
  refine x_aload_n C dX6_setEdge_0 rfl 0 rfl 1 rfl ?_
  refine x_iload_n C dX6_setEdge_1 rfl 1 rfl 2 rfl ?_
  obtain ⟨p2, h2, h⟩ := bx_inl h
  refine x_callV C 0 [.int a1] (c_X6_requireNode  h2) mi_X6_requireNode (gt_0 g _) rfl q_474 rfl ⟨rfl, rfl⟩ ⟨Nat.le_of_ble_eq_true rfl, Nat.le_of_ble_eq_true rfl⟩ ⟨Nat.zero_le _, Nat.zero_le _⟩ _ rfl (Nat.le_of_ble_eq_true rfl) dX6_setEdge_2 5 rfl ?_
  refine x_aload_n C dX6_setEdge_5 rfl 0 rfl 6 rfl ?_
  refine x_iload_n C dX6_setEdge_6 rfl 2 rfl 7 rfl ?_
  obtain ⟨p7, h7, h⟩ := bx_inl h
  refine x_callV C 0 [.int a2] (c_X6_requireNode  h7) mi_X6_requireNode (gt_0 g _) rfl q_474 rfl ⟨rfl, rfl⟩ ⟨Nat.le_of_ble_eq_true rfl, Nat.le_of_ble_eq_true rfl⟩ ⟨Nat.zero_le _, Nat.zero_le _⟩ _ rfl (Nat.le_of_ble_eq_true rfl) dX6_setEdge_7 10 rfl ?_
  refine x_iload_n C dX6_setEdge_10 rfl 1 rfl 11 rfl ?_
  refine x_iload_n C dX6_setEdge_11 rfl 2 rfl 12 rfl ?_
  obtain ⟨p12, h12, h⟩ := bx_inl h
  refine x_callS C [.int a1, .int a2] (c_X6_requireDifferent  h12) mi_X6_requireDifferent q_606 rfl ⟨rfl, rfl⟩ ⟨Nat.le_of_ble_eq_true rfl, Nat.le_of_ble_eq_true rfl⟩ ⟨Nat.zero_le _, Nat.zero_le _⟩ _ rfl (Nat.le_of_ble_eq_true rfl) dX6_setEdge_12 15 rfl ?_
  have h := ml_inl h
  exact x_sub [0, 1, 2, 3] rfl (w_X6_setEdge_15 C  hE h ht)
set_option maxHeartbeats 4000000 in
set_option maxRecDepth 100000 in
theorem c_X6_setEdge {g : Gb} {l : Launch}  {a1 : Int32} {a2 : Int32} {a3 : Int32} {σ : WD} {p : Int32 × WD} (h : f_X6_setEdge a1 a2 a3 σ = some (.inl p)) : MC l g yX6_setEdge (.code yX6_setEdge cX6_setEdge 5 (some (.int))) (rmk 3 84) [.ref (adr g 0), .int a1, .int a2, .int a3] σ (some (.int p.1)) p.2 := by
  refine MC.of (by decide) (Nat.le_of_ble_eq_true rfl) (fun x C hl hr hq => ?_)
  subst hl
  exact w_X6_setEdge (E := fun z => z = p) C  (fun a s2 he pc lv hd => by cases he; exact x_iret C hr hq hd) h rfl
set_option maxHeartbeats 4000000 in
set_option maxRecDepth 100000 in
theorem w_X6_append_12 {x : Cx} {g : Gb} {E : Int32 × WD → Prop} (C : CF x g RX6 cX6_append 2 (rmk 2 23))   {σ : WD} (hE : ∀ (a : Int32) (s2 : WD), E (a, s2) → ∀ pc lv, decode cX6_append pc = .ok (.ireturn, 1) → WW x g 2 0 0 pc lv [.int a] s2) {t : Int32 × WD} (h : f_X6_append_12  σ = some (.inl t)) (ht : E t) : WW x g 2 0 0 12 [] [] σ := by
  unfold f_X6_append_12 at h
  cases h
set_option maxHeartbeats 4000000 in
set_option maxRecDepth 100000 in
theorem w_X6_append_44 {x : Cx} {g : Gb} {E : Int32 × WD → Prop} (C : CF x g RX6 cX6_append 2 (rmk 2 23))  {l1 : Int32} {σ : WD} (hE : ∀ (a : Int32) (s2 : WD), E (a, s2) → ∀ pc lv, decode cX6_append pc = .ok (.ireturn, 1) → WW x g 2 0 0 pc lv [.int a] s2) {t : Int32 × WD} (h : f_X6_append_44 l1 σ = some t) (ht : E t) : WW x g 2 0 0 44 [(0, .ref (adr g 0)), (1, .int l1)] [] σ := by
  unfold f_X6_append_44 at h
  refine x_aload_n C dX6_append_44 rfl 0 rfl 45 rfl ?_
  refine gf_164_0 C dX6_append_45 48 rfl ?_
  refine x_iload_n C dX6_append_48 rfl 1 rfl 49 rfl ?_
  obtain ⟨σ49, h49, h⟩ := bv_some h
  refine x_callV C 5 [.int l1] (c_X2_add  h49) mi_X2_add (gt_5 g _) rfl q_624 rfl ⟨rfl, rfl⟩ ⟨Nat.le_of_ble_eq_true rfl, Nat.le_of_ble_eq_true rfl⟩ ⟨Nat.zero_le _, Nat.zero_le _⟩ _ rfl (Nat.le_of_ble_eq_true rfl) dX6_append_49 52 rfl ?_
  refine x_aload_n C dX6_append_52 rfl 0 rfl 53 rfl ?_
  refine gf_164_0 C dX6_append_53 56 rfl ?_
  refine gf_76_5 C dX6_append_56 59 rfl ?_
  cases h
  exact hE _ _ ht 59 _ dX6_append_59
set_option maxHeartbeats 4000000 in
set_option maxRecDepth 100000 in
theorem w_X6_append {x : Cx} {g : Gb} {E : Int32 × WD → Prop} (C : CF x g RX6 cX6_append 2 (rmk 2 23))  {a1 : Int32} {σ : WD} (hE : ∀ (a : Int32) (s2 : WD), E (a, s2) → ∀ pc lv, decode cX6_append pc = .ok (.ireturn, 1) → WW x g 2 0 0 pc lv [.int a] s2) {t : Int32 × WD} (h : f_X6_append a1 σ = some (.inl t)) (ht : E t) : WW x g 2 0 0 0 [(0, .ref (adr g 0)), (1, .int a1)] [] σ := by
  unfold f_X6_append at h
  refine x_iload_n C dX6_append_0 rfl 1 rfl 1 rfl ?_
  refine x_bipush C (v := 32) dX6_append_1 (by decide) 3 rfl ?_
  refine x_icmp_lt C dX6_append_3 12 (by decide) 6 rfl (fun hc => ?_) (fun hc => ?_)
  · have h := ip hc h
    exact x_sub [] rfl (w_X6_append_12 C  hE h ht)
  · have h := iq hc h
    refine x_iload_n C dX6_append_6 rfl 1 rfl 7 rfl ?_
    refine x_bipush C (v := 126) dX6_append_7 (by decide) 9 rfl ?_
    refine x_icmp_le C dX6_append_9 22 (by decide) 12 rfl (fun hc => ?_) (fun hc => ?_)
    · have h := ip hc h
      refine x_aload_n C dX6_append_22 rfl 0 rfl 23 rfl ?_
      refine gf_164_0 C dX6_append_23 26 rfl ?_
      refine gf_76_5 C dX6_append_26 29 rfl ?_
      refine x_bipush C (v := 60) dX6_append_29 (by decide) 31 rfl ?_
      refine x_icmp_lt C dX6_append_31 44 (by decide) 34 rfl (fun hc => ?_) (fun hc => ?_)
      · have h := ip hc h
        have h := ml_inl h
        exact x_sub [0, 1] rfl (w_X6_append_44 C  hE h ht)
      · have h := iq hc h
        cases h
    · have h := iq hc h
      exact x_sub [] rfl (w_X6_append_12 C  hE h ht)
set_option maxHeartbeats 4000000 in
set_option maxRecDepth 100000 in
theorem c_X6_append {g : Gb} {l : Launch}  {a1 : Int32} {σ : WD} {p : Int32 × WD} (h : f_X6_append a1 σ = some (.inl p)) : MC l g yX6_append (.code yX6_append cX6_append 2 (some (.int))) (rmk 2 23) [.ref (adr g 0), .int a1] σ (some (.int p.1)) p.2 := by
  refine MC.of (by decide) (Nat.le_of_ble_eq_true rfl) (fun x C hl hr hq => ?_)
  subst hl
  exact w_X6_append (E := fun z => z = p) C  (fun a s2 he pc lv hd => by cases he; exact x_iret C hr hq hd) h rfl
set_option maxHeartbeats 4000000 in
set_option maxRecDepth 100000 in
theorem w_X6_clearInput {x : Cx} {g : Gb} {E : Int32 × WD → Prop} (C : CF x g RX6 cX6_clearInput 2 (rmk 1 1))   {σ : WD} (hE : ∀ (a : Int32) (s2 : WD), E (a, s2) → ∀ pc lv, decode cX6_clearInput pc = .ok (.ireturn, 1) → WW x g 2 0 0 pc lv [.int a] s2) {t : Int32 × WD} (h : f_X6_clearInput  σ = some t) (ht : E t) : WW x g 2 0 0 0 [(0, .ref (adr g 0))] [] σ := by
  unfold f_X6_clearInput at h
  refine x_aload_n C dX6_clearInput_0 rfl 0 rfl 1 rfl ?_
  refine gf_164_0 C dX6_clearInput_1 4 rfl ?_
  refine gf_76_5 C dX6_clearInput_4 7 rfl ?_
  refine x_istore_n C [(1, .int (σ.1 5 1)), (0, .ref (adr g 0))] dX6_clearInput_7 rfl (by decide) rfl 8 rfl ?_
  refine x_aload_n C dX6_clearInput_8 rfl 1 rfl 9 rfl ?_
  refine gf_164_0 C dX6_clearInput_9 12 rfl ?_
  refine x_iconst C (v := 0) dX6_clearInput_12 (by decide) 13 rfl ?_
  refine pf_76_5 C dX6_clearInput_13 16 rfl ?_
  obtain ⟨σ13, e13, h⟩ := lt_some h
  refine x_we e13 ?_
  refine x_iload_n C dX6_clearInput_16 rfl 0 rfl 17 rfl ?_
  cases h
  exact hE _ _ ht 17 _ dX6_clearInput_17
set_option maxHeartbeats 4000000 in
set_option maxRecDepth 100000 in
theorem c_X6_clearInput {g : Gb} {l : Launch}   {σ : WD} {r : Int32} {σ2 : WD} (h : f_X6_clearInput  σ = some (r, σ2)) : MC l g yX6_clearInput (.code yX6_clearInput cX6_clearInput 2 (some (.int))) (rmk 1 1) [.ref (adr g 0)] σ (some (.int r)) σ2 := by
  refine MC.of (by decide) (Nat.le_of_ble_eq_true rfl) (fun x C hl hr hq => ?_)
  subst hl
  exact w_X6_clearInput (E := fun z => z = (r, σ2)) C  (fun a s2 he pc lv hd => by cases he; exact x_iret C hr hq hd) h rfl
set_option maxHeartbeats 4000000 in
set_option maxRecDepth 100000 in
theorem w_X6_firstError {x : Cx} {g : Gb} {E : Int32 → Prop} (C : CF x g RX6 cX6_firstError 1 (rmk 4 73))   {σ : WD} (hE : ∀ (a : Int32), E a → ∀ pc lv, decode cX6_firstError pc = .ok (.ireturn, 1) → WW x g 1 0 0 pc lv [.int a] σ) {t : Int32} (h : f_X6_firstError  σ = some t) (ht : E t) : WW x g 1 0 0 0 [(0, .ref (adr g 0))] [] σ := by
  unfold f_X6_firstError at h
  refine x_aload_n C dX6_firstError_0 rfl 0 rfl 1 rfl ?_
  refine gf_164_0 C dX6_firstError_1 4 rfl ?_
  refine x_aload_n C dX6_firstError_4 rfl 0 rfl 5 rfl ?_
  refine gf_162_0 C dX6_firstError_5 8 rfl ?_
  refine gf_35_1 C dX6_firstError_8 11 rfl ?_
  obtain ⟨r11, h11, h⟩ := bv_some h
  refine x_callV C 5 [.int (σ.1 1 0)] (c_X2_errorPlace  h11) mi_X2_errorPlace (gt_5 g _) rfl q_192 rfl ⟨rfl, rfl⟩ ⟨Nat.le_of_ble_eq_true rfl, Nat.le_of_ble_eq_true rfl⟩ ⟨Nat.zero_le _, Nat.zero_le _⟩ _ rfl (Nat.le_of_ble_eq_true rfl) dX6_firstError_11 14 rfl ?_
  cases h
  exact hE _ ht 14 _ dX6_firstError_14
set_option maxHeartbeats 4000000 in
set_option maxRecDepth 100000 in
theorem c_X6_firstError {g : Gb} {l : Launch}   {σ : WD} {r : Int32} (h : f_X6_firstError  σ = some r) : MC l g yX6_firstError (.code yX6_firstError cX6_firstError 1 (some (.int))) (rmk 4 73) [.ref (adr g 0)] σ (some (.int r)) σ := by
  refine MC.of (by decide) (Nat.le_of_ble_eq_true rfl) (fun x C hl hr hq => ?_)
  subst hl
  exact w_X6_firstError (E := fun z => z = r) C  (fun a he pc lv hd => by cases he; exact x_iret C hr hq hd) h rfl
set_option maxHeartbeats 4000000 in
set_option maxRecDepth 100000 in
theorem w_X6_addRead_17 {x : Cx} {g : Gb} {E : Int32 × WD → Prop} (C : CF x g RX6 cX6_addRead 5 (rmk 3 48))  {l1 : Int32} {l2 : Int32} {l3 : Int32} {s0 : Int32} {σ : WD} (hE : ∀ (a : Int32) (s2 : WD), E (a, s2) → ∀ pc lv, decode cX6_addRead pc = .ok (.ireturn, 1) → WW x g 5 0 0 pc lv [.int a] s2) {t : Int32 × WD} (h : f_X6_addRead_17 l1 l2 l3 s0 σ = some t) (ht : E t) : WW x g 5 0 0 17 [(0, .ref (adr g 0)), (1, .int l1), (2, .int l2), (3, .int l3)] [.int s0] σ := by
  unfold f_X6_addRead_17 at h
  refine x_istore C [(4, .int s0), (0, .ref (adr g 0)), (1, .int l1), (2, .int l2), (3, .int l3)] dX6_addRead_17 (by decide) rfl 19 rfl ?_
  refine x_aload_n C dX6_addRead_19 rfl 1 rfl 20 rfl ?_
  refine gf_162_0 C dX6_addRead_20 23 rfl ?_
  refine x_iload_n C dX6_addRead_23 rfl 2 rfl 24 rfl ?_
  refine x_iload_n C dX6_addRead_24 rfl 3 rfl 25 rfl ?_
  refine x_iconst C (v := 1) dX6_addRead_25 (by decide) 26 rfl ?_
  obtain ⟨σ26, h26, h⟩ := bv_some h
  refine x_callV C 1 [.int l1, .int l2, .int 1] (c_X0_put  h26) mi_X0_put (gt_1 g _) rfl q_571 rfl ⟨rfl, rfl⟩ ⟨Nat.le_of_ble_eq_true rfl, Nat.le_of_ble_eq_true rfl⟩ ⟨Nat.zero_le _, Nat.zero_le _⟩ _ rfl (Nat.le_of_ble_eq_true rfl) dX6_addRead_26 29 rfl ?_
  refine x_iload_n C dX6_addRead_29 rfl 4 rfl 30 rfl ?_
  refine x_if_eq C dX6_addRead_30 64 (by decide) 33 rfl (fun hc => ?_) (fun hc => ?_)
  · have h := ip hc h
    refine x_iload C dX6_addRead_64 0 rfl 66 rfl ?_
    cases h
    exact hE _ _ ht 66 _ dX6_addRead_66
  · have h := iq hc h
    refine x_aload_n C dX6_addRead_33 rfl 1 rfl 34 rfl ?_
    refine gf_163_0 C dX6_addRead_34 37 rfl ?_
    refine x_iload_n C dX6_addRead_37 rfl 2 rfl 38 rfl ?_
    obtain ⟨r38, h38, h⟩ := bv_some h
    refine x_callV C 3 [.int l1] (c_X3_isExposed  h38) mi_X3_isExposed (gt_3 g _) rfl q_222 rfl ⟨rfl, rfl⟩ ⟨Nat.le_of_ble_eq_true rfl, Nat.le_of_ble_eq_true rfl⟩ ⟨Nat.zero_le _, Nat.zero_le _⟩ _ rfl (Nat.le_of_ble_eq_true rfl) dX6_addRead_38 41 rfl ?_
    refine x_if_eq C dX6_addRead_41 64 (by decide) 44 rfl (fun hc => ?_) (fun hc => ?_)
    · have h := ip hc h
      refine x_iload C dX6_addRead_64 0 rfl 66 rfl ?_
      cases h
      exact hE _ _ ht 66 _ dX6_addRead_66
    · have h := iq hc h
      refine x_aload_n C dX6_addRead_44 rfl 1 rfl 45 rfl ?_
      refine gf_163_0 C dX6_addRead_45 48 rfl ?_
      refine x_iload_n C dX6_addRead_48 rfl 3 rfl 49 rfl ?_
      obtain ⟨r49, h49, h⟩ := bv_some h
      refine x_callV C 3 [.int l2] (c_X3_isExposed  h49) mi_X3_isExposed (gt_3 g _) rfl q_222 rfl ⟨rfl, rfl⟩ ⟨Nat.le_of_ble_eq_true rfl, Nat.le_of_ble_eq_true rfl⟩ ⟨Nat.zero_le _, Nat.zero_le _⟩ _ rfl (Nat.le_of_ble_eq_true rfl) dX6_addRead_49 52 rfl ?_
      refine x_if_eq C dX6_addRead_52 64 (by decide) 55 rfl (fun hc => ?_) (fun hc => ?_)
      · have h := ip hc h
        refine x_iload C dX6_addRead_64 0 rfl 66 rfl ?_
        cases h
        exact hE _ _ ht 66 _ dX6_addRead_66
      · have h := iq hc h
        refine x_aload_n C dX6_addRead_55 rfl 1 rfl 56 rfl ?_
        refine gf_163_0 C dX6_addRead_56 59 rfl ?_
        refine x_iload_n C dX6_addRead_59 rfl 2 rfl 60 rfl ?_
        refine x_iload_n C dX6_addRead_60 rfl 3 rfl 61 rfl ?_
        obtain ⟨σ61, h61, h⟩ := bv_some h
        refine x_callV C 3 [.int l1, .int l2] (c_X3_join  h61) mi_X3_join (gt_3 g _) rfl q_649 rfl ⟨rfl, rfl⟩ ⟨Nat.le_of_ble_eq_true rfl, Nat.le_of_ble_eq_true rfl⟩ ⟨Nat.zero_le _, Nat.zero_le _⟩ _ rfl (Nat.le_of_ble_eq_true rfl) dX6_addRead_61 64 rfl ?_
        refine x_iload C dX6_addRead_64 0 rfl 66 rfl ?_
        cases h
        exact hE _ _ ht 66 _ dX6_addRead_66
set_option maxHeartbeats 4000000 in
set_option maxRecDepth 100000 in
theorem w_X6_addRead {x : Cx} {g : Gb} {E : Int32 × WD → Prop} (C : CF x g RX6 cX6_addRead 5 (rmk 3 48))  {a1 : Int32} {a2 : Int32} {a3 : Int32} {σ : WD} (hE : ∀ (a : Int32) (s2 : WD), E (a, s2) → ∀ pc lv, decode cX6_addRead pc = .ok (.ireturn, 1) → WW x g 5 0 0 pc lv [.int a] s2) {t : Int32 × WD} (h : f_X6_addRead a1 a2 a3 σ = some t) (ht : E t) : WW x g 5 0 0 0 [(0, .ref (adr g 0)), (1, .int a1), (2, .int a2), (3, .int a3)] [] σ := by
  unfold f_X6_addRead at h
  refine x_aload_n C dX6_addRead_0 rfl 0 rfl 1 rfl ?_
  refine gf_162_0 C dX6_addRead_1 4 rfl ?_
  refine x_iload_n C dX6_addRead_4 rfl 1 rfl 5 rfl ?_
  refine x_iload_n C dX6_addRead_5 rfl 2 rfl 6 rfl ?_
  obtain ⟨r6, h6, h⟩ := bv_some h
  refine x_callV C 1 [.int a1, .int a2] (c_X0_joined  h6) mi_X0_joined (gt_1 g _) rfl q_553 rfl ⟨rfl, rfl⟩ ⟨Nat.le_of_ble_eq_true rfl, Nat.le_of_ble_eq_true rfl⟩ ⟨Nat.zero_le _, Nat.zero_le _⟩ _ rfl (Nat.le_of_ble_eq_true rfl) dX6_addRead_6 9 rfl ?_
  refine x_if_eq C dX6_addRead_9 16 (by decide) 12 rfl (fun hc => ?_) (fun hc => ?_)
  · have h := ip hc h
    refine x_iconst C (v := 1) dX6_addRead_16 (by decide) 17 rfl ?_
    exact x_sub [0, 1, 2, 3] rfl (w_X6_addRead_17 C  hE h ht)
  · have h := iq hc h
    refine x_iconst C (v := 0) dX6_addRead_12 (by decide) 13 rfl ?_
    refine x_goto C dX6_addRead_13 17 (by decide) ?_
    exact x_sub [0, 1, 2, 3] rfl (w_X6_addRead_17 C  hE h ht)
set_option maxHeartbeats 4000000 in
set_option maxRecDepth 100000 in
theorem c_X6_addRead {g : Gb} {l : Launch}  {a1 : Int32} {a2 : Int32} {a3 : Int32} {σ : WD} {r : Int32} {σ2 : WD} (h : f_X6_addRead a1 a2 a3 σ = some (r, σ2)) : MC l g yX6_addRead (.code yX6_addRead cX6_addRead 5 (some (.int))) (rmk 3 48) [.ref (adr g 0), .int a1, .int a2, .int a3] σ (some (.int r)) σ2 := by
  refine MC.of (by decide) (Nat.le_of_ble_eq_true rfl) (fun x C hl hr hq => ?_)
  subst hl
  exact w_X6_addRead (E := fun z => z = (r, σ2)) C  (fun a s2 he pc lv hd => by cases he; exact x_iret C hr hq hd) h rfl
set_option maxHeartbeats 4000000 in
set_option maxRecDepth 100000 in
theorem w_X6_load_109 {x : Cx} {g : Gb} {E : Int32 × WD → Prop} (C : CF x g RX6 cX6_load 4 (rmk 4 84))  {l1 : Int32} {σ : WD} (hE : ∀ (a : Int32) (s2 : WD), E (a, s2) → ∀ pc lv, decode cX6_load pc = .ok (.ireturn, 1) → WW x g 4 0 0 pc lv [.int a] s2) {t : Int32 × WD} (h : f_X6_load_109 l1 σ = some t) (ht : E t) : WW x g 4 0 0 109 [(0, .ref (adr g 0)), (1, .int l1)] [] σ := by
  unfold f_X6_load_109 at h
  refine x_aload_n C dX6_load_109 rfl 0 rfl 110 rfl ?_
  refine gf_164_0 C dX6_load_110 113 rfl ?_
  refine x_iconst C (v := 0) dX6_load_113 (by decide) 114 rfl ?_
  refine pf_76_5 C dX6_load_114 117 rfl ?_
  obtain ⟨σ114, e114, h⟩ := lt_some h
  refine x_we e114 ?_
  refine x_iload_n C dX6_load_117 rfl 1 rfl 118 rfl ?_
  cases h
  exact hE _ _ ht 118 _ dX6_load_118
set_option maxHeartbeats 4000000 in
set_option maxRecDepth 100000 in
theorem w_X6_load_b46 {x : Cx} {g : Gb} {E : (Int32 × Int32 × WD) ⊕ (Int32 × WD) → Prop} (C : CF x g RX6 cX6_load 4 (rmk 4 84))  {l1 : Int32} {l2 : Int32} {σ : WD} (hI0 : ∀ s, E (.inl s) → WW x g 4 0 0 46 [(0, .ref (adr g 0)), (1, .int s.1), (2, .int s.2.1)] [] s.2.2) (hE : ∀ (a : Int32) (s2 : WD), E (.inr (a, s2)) → ∀ pc lv, decode cX6_load pc = .ok (.ireturn, 1) → WW x g 4 0 0 pc lv [.int a] s2) {t : (Int32 × Int32 × WD) ⊕ (Int32 × WD)} (h : f_X6_load_b46 l1 l2 σ = some t) (ht : E t) : WW x g 4 0 0 46 [(0, .ref (adr g 0)), (1, .int l1), (2, .int l2)] [] σ := by
  unfold f_X6_load_b46 at h
  refine x_iload_n C dX6_load_46 rfl 2 rfl 47 rfl ?_
  refine x_iconst C (v := 1) dX6_load_47 (by decide) 48 rfl ?_
  refine x_iadd C dX6_load_48 49 rfl ?_
  refine x_aload_n C dX6_load_49 rfl 0 rfl 50 rfl ?_
  refine gf_164_0 C dX6_load_50 53 rfl ?_
  refine gf_76_5 C dX6_load_53 56 rfl ?_
  refine x_icmp_ge C dX6_load_56 109 (by decide) 59 rfl (fun hc => ?_) (fun hc => ?_)
  · have h := ip hc h
    obtain ⟨_, hm0, rfl⟩ := mr_some h
    exact x_sub [0, 1] rfl (w_X6_load_109 (E := fun r => E (.inr r)) C  hE hm0 ht)
  · have h := iq hc h
    refine x_aload_n C dX6_load_59 rfl 0 rfl 60 rfl ?_
    refine gf_164_0 C dX6_load_60 63 rfl ?_
    refine x_iload_n C dX6_load_63 rfl 2 rfl 64 rfl ?_
    obtain ⟨r64, h64, h⟩ := bv_some h
    refine x_callV C 5 [.int l2] (c_X2_isMarked  h64) mi_X2_isMarked (gt_5 g _) rfl q_640 rfl ⟨rfl, rfl⟩ ⟨Nat.le_of_ble_eq_true rfl, Nat.le_of_ble_eq_true rfl⟩ ⟨Nat.zero_le _, Nat.zero_le _⟩ _ rfl (Nat.le_of_ble_eq_true rfl) dX6_load_64 67 rfl ?_
    refine x_istore_n C [(3, .int r64), (0, .ref (adr g 0)), (1, .int l1), (2, .int l2)] dX6_load_67 rfl (by decide) rfl 68 rfl ?_
    refine x_iload_n C dX6_load_68 rfl 2 rfl 69 rfl ?_
    refine x_aload_n C dX6_load_69 rfl 1 rfl 70 rfl ?_
    refine x_aload_n C dX6_load_70 rfl 1 rfl 71 rfl ?_
    refine gf_164_0 C dX6_load_71 74 rfl ?_
    refine x_iload_n C dX6_load_74 rfl 3 rfl 75 rfl ?_
    obtain ⟨r75, h75, h⟩ := bv_some h
    refine x_callV C 5 [.int l2] (c_X2_nodeAt  h75) mi_X2_nodeAt (gt_5 g _) rfl q_644 rfl ⟨rfl, rfl⟩ ⟨Nat.le_of_ble_eq_true rfl, Nat.le_of_ble_eq_true rfl⟩ ⟨Nat.zero_le _, Nat.zero_le _⟩ _ rfl (Nat.le_of_ble_eq_true rfl) dX6_load_75 78 rfl ?_
    refine x_aload_n C dX6_load_78 rfl 1 rfl 79 rfl ?_
    refine gf_164_0 C dX6_load_79 82 rfl ?_
    refine x_iload_n C dX6_load_82 rfl 3 rfl 83 rfl ?_
    refine x_iconst C (v := 1) dX6_load_83 (by decide) 84 rfl ?_
    refine x_iadd C dX6_load_84 85 rfl ?_
    obtain ⟨r85, h85, h⟩ := bv_some h
    refine x_callV C 5 [.int (l2 + 1)] (c_X2_nodeAt  h85) mi_X2_nodeAt (gt_5 g _) rfl q_644 rfl ⟨rfl, rfl⟩ ⟨Nat.le_of_ble_eq_true rfl, Nat.le_of_ble_eq_true rfl⟩ ⟨Nat.zero_le _, Nat.zero_le _⟩ _ rfl (Nat.le_of_ble_eq_true rfl) dX6_load_85 88 rfl ?_
    refine x_iload_n C dX6_load_88 rfl 0 rfl 89 rfl ?_
    obtain ⟨r89, σ89, h89, h⟩ := bn_some h
    refine x_callV C 0 [.int r75, .int r85, .int r64] (c_X6_addRead  h89) mi_X6_addRead (gt_0 g _) rfl q_645 rfl ⟨rfl, rfl⟩ ⟨Nat.le_of_ble_eq_true rfl, Nat.le_of_ble_eq_true rfl⟩ ⟨Nat.zero_le _, Nat.zero_le _⟩ _ rfl (Nat.le_of_ble_eq_true rfl) dX6_load_89 92 rfl ?_
    refine x_iadd C dX6_load_92 93 rfl ?_
    refine x_istore_n C [(1, .int (l1 + r89)), (3, .int r64), (0, .ref (adr g 0)), (2, .int l2)] dX6_load_93 rfl (by decide) rfl 94 rfl ?_
    refine x_iload_n C dX6_load_94 rfl 3 rfl 95 rfl ?_
    refine x_iload_n C dX6_load_95 rfl 1 rfl 96 rfl ?_
    refine x_if_eq C dX6_load_96 103 (by decide) 99 rfl (fun hc => ?_) (fun hc => ?_)
    · have h := ip hc h
      refine x_iconst C (v := 3) dX6_load_103 (by decide) 104 rfl ?_
      refine x_iadd C dX6_load_104 105 rfl ?_
      refine x_istore_n C [(2, .int (l2 + 3)), (1, .int (l1 + r89)), (3, .int r64), (0, .ref (adr g 0))] dX6_load_105 rfl (by decide) rfl 106 rfl ?_
      refine x_goto C dX6_load_106 46 (by decide) ?_
      cases h
      exact x_sub [3, 1, 0] rfl (hI0 ((l1 + r89), (l2 + 3), σ89) ht)
    · have h := iq hc h
      refine x_iconst C (v := 4) dX6_load_99 (by decide) 100 rfl ?_
      refine x_goto C dX6_load_100 104 (by decide) ?_
      refine x_iadd C dX6_load_104 105 rfl ?_
      refine x_istore_n C [(2, .int (l2 + 4)), (1, .int (l1 + r89)), (3, .int r64), (0, .ref (adr g 0))] dX6_load_105 rfl (by decide) rfl 106 rfl ?_
      refine x_goto C dX6_load_106 46 (by decide) ?_
      cases h
      exact x_sub [3, 1, 0] rfl (hI0 ((l1 + r89), (l2 + 4), σ89) ht)
set_option maxHeartbeats 4000000 in
set_option maxRecDepth 100000 in
theorem w_X6_load_46 {x : Cx} {g : Gb} {E : Int32 × WD → Prop} (C : CF x g RX6 cX6_load 4 (rmk 4 84))  {l1 : Int32} {l2 : Int32} {σ : WD} (hE : ∀ (a : Int32) (s2 : WD), E (a, s2) → ∀ pc lv, decode cX6_load pc = .ok (.ireturn, 1) → WW x g 4 0 0 pc lv [.int a] s2) {t : Int32 × WD} (h : f_X6_load_46 l1 l2 σ = some t) (ht : E t) : WW x g 4 0 0 46 [(0, .ref (adr g 0)), (1, .int l1), (2, .int l2)] [] σ := by
  unfold f_X6_load_46 at h
  exact lp_ind (fun s : Int32 × Int32 × WD => WW x g 4 0 0 46 [(0, .ref (adr g 0)), (1, .int s.1), (2, .int s.2.1)] [] s.2.2) E h ht (fun s y hb hy => w_X6_load_b46 (E := Sum.elim (fun s : Int32 × Int32 × WD => WW x g 4 0 0 46 [(0, .ref (adr g 0)), (1, .int s.1), (2, .int s.2.1)] [] s.2.2) E) C  (fun _ h => h)  hE hb hy)
set_option maxHeartbeats 4000000 in
set_option maxRecDepth 100000 in
theorem w_X6_load_27 {x : Cx} {g : Gb} {E : Int32 × WD → Prop} (C : CF x g RX6 cX6_load 4 (rmk 4 84))   {σ : WD} (hE : ∀ (a : Int32) (s2 : WD), E (a, s2) → ∀ pc lv, decode cX6_load pc = .ok (.ireturn, 1) → WW x g 4 0 0 pc lv [.int a] s2) {t : Int32 × WD} (h : f_X6_load_27  σ = some t) (ht : E t) : WW x g 4 0 0 27 [(0, .ref (adr g 0))] [] σ := by
  unfold f_X6_load_27 at h
  refine x_aload_n C dX6_load_27 rfl 0 rfl 28 rfl ?_
  refine gf_165_0 C dX6_load_28 31 rfl ?_
  refine x_aload_n C dX6_load_31 rfl 0 rfl 32 rfl ?_
  refine gf_162_0 C dX6_load_32 35 rfl ?_
  refine x_aload_n C dX6_load_35 rfl 0 rfl 36 rfl ?_
  refine gf_163_0 C dX6_load_36 39 rfl ?_
  obtain ⟨σ39, h39, h⟩ := bv_some h
  refine x_callV C 7 [.ref (adr g 1), .ref (adr g 3)] (c_X1_save  h39) mi_X1_save (gt_7 g _) rfl q_208 rfl ⟨rfl, rfl⟩ ⟨Nat.le_of_ble_eq_true rfl, Nat.le_of_ble_eq_true rfl⟩ ⟨Nat.zero_le _, Nat.zero_le _⟩ _ rfl (Nat.le_of_ble_eq_true rfl) dX6_load_39 42 rfl ?_
  refine x_iconst C (v := 0) dX6_load_42 (by decide) 43 rfl ?_
  refine x_istore_n C [(1, .int 0), (0, .ref (adr g 0))] dX6_load_43 rfl (by decide) rfl 44 rfl ?_
  refine x_iconst C (v := 0) dX6_load_44 (by decide) 45 rfl ?_
  refine x_istore_n C [(2, .int 0), (1, .int 0), (0, .ref (adr g 0))] dX6_load_45 rfl (by decide) rfl 46 rfl ?_
  exact x_sub [2, 1, 0] rfl (w_X6_load_46 C  hE h ht)
set_option maxHeartbeats 4000000 in
set_option maxRecDepth 100000 in
theorem w_X6_load {x : Cx} {g : Gb} {E : Int32 × WD → Prop} (C : CF x g RX6 cX6_load 4 (rmk 4 84))   {σ : WD} (hE : ∀ (a : Int32) (s2 : WD), E (a, s2) → ∀ pc lv, decode cX6_load pc = .ok (.ireturn, 1) → WW x g 4 0 0 pc lv [.int a] s2) {t : Int32 × WD} (h : f_X6_load  σ = some (.inl t)) (ht : E t) : WW x g 4 0 0 0 [(0, .ref (adr g 0))] [] σ := by
  unfold f_X6_load at h
  refine x_aload_n C dX6_load_0 rfl 0 rfl 1 rfl ?_
  refine gf_164_0 C dX6_load_1 4 rfl ?_
  refine x_aload_n C dX6_load_4 rfl 0 rfl 5 rfl ?_
  refine gf_162_0 C dX6_load_5 8 rfl ?_
  refine gf_35_1 C dX6_load_8 11 rfl ?_
  obtain ⟨r11, h11, h⟩ := bv_some h
  refine x_callV C 5 [.int (σ.1 1 0)] (c_X2_isComplete  h11) mi_X2_isComplete (gt_5 g _) rfl q_635 rfl ⟨rfl, rfl⟩ ⟨Nat.le_of_ble_eq_true rfl, Nat.le_of_ble_eq_true rfl⟩ ⟨Nat.zero_le _, Nat.zero_le _⟩ _ rfl (Nat.le_of_ble_eq_true rfl) dX6_load_11 14 rfl ?_
  refine x_if_ne C dX6_load_14 27 (by decide) 17 rfl (fun hc => ?_) (fun hc => ?_)
  · have h := iq hc h
    have h := ml_inl h
    exact x_sub [0] rfl (w_X6_load_27 C  hE h ht)
  · have h := ip hc h
    cases h
set_option maxHeartbeats 4000000 in
set_option maxRecDepth 100000 in
theorem c_X6_load {g : Gb} {l : Launch}   {σ : WD} {p : Int32 × WD} (h : f_X6_load  σ = some (.inl p)) : MC l g yX6_load (.code yX6_load cX6_load 4 (some (.int))) (rmk 4 84) [.ref (adr g 0)] σ (some (.int p.1)) p.2 := by
  refine MC.of (by decide) (Nat.le_of_ble_eq_true rfl) (fun x C hl hr hq => ?_)
  subst hl
  exact w_X6_load (E := fun z => z = p) C  (fun a s2 he pc lv hd => by cases he; exact x_iret C hr hq hd) h rfl
set_option maxHeartbeats 4000000 in
set_option maxRecDepth 100000 in
theorem w_X6_requireExposed {x : Cx} {g : Gb} {E : Unit → Prop} (C : CF x g RX6 cX6_requireExposed 2 (rmk 2 23))  {a1 : Int32} {σ : WD} (hE : ∀ (a : Unit), E a → ∀ pc lv, decode cX6_requireExposed pc = .ok (.return_, 1) → WW x g 2 0 0 pc lv [] σ) {t : Unit} (h : f_X6_requireExposed a1 σ = some (.inl t)) (ht : E t) : WW x g 2 0 0 0 [(0, .ref (adr g 0)), (1, .int a1)] [] σ := by
  unfold f_X6_requireExposed at h
  refine x_aload_n C dX6_requireExposed_0 rfl 0 rfl 1 rfl ?_
  refine gf_163_0 C dX6_requireExposed_1 4 rfl ?_
  refine x_iload_n C dX6_requireExposed_4 rfl 1 rfl 5 rfl ?_
  obtain ⟨r5, h5, h⟩ := bv_some h
  refine x_callV C 3 [.int a1] (c_X3_isExposed  h5) mi_X3_isExposed (gt_3 g _) rfl q_222 rfl ⟨rfl, rfl⟩ ⟨Nat.le_of_ble_eq_true rfl, Nat.le_of_ble_eq_true rfl⟩ ⟨Nat.zero_le _, Nat.zero_le _⟩ _ rfl (Nat.le_of_ble_eq_true rfl) dX6_requireExposed_5 8 rfl ?_
  refine x_if_ne C dX6_requireExposed_8 22 (by decide) 11 rfl (fun hc => ?_) (fun hc => ?_)
  · have h := iq hc h
    cases h
    exact hE _ ht 22 _ dX6_requireExposed_22
  · have h := ip hc h
    cases h
set_option maxHeartbeats 4000000 in
set_option maxRecDepth 100000 in
theorem c_X6_requireExposed {g : Gb} {l : Launch}  {a1 : Int32} {σ : WD} {u : Unit} (h : f_X6_requireExposed a1 σ = some (.inl u)) : MC l g yX6_requireExposed (.code yX6_requireExposed cX6_requireExposed 2 none) (rmk 2 23) [.ref (adr g 0), .int a1] σ none σ := by
  refine MC.of (by decide) (Nat.le_of_ble_eq_true rfl) (fun x C hl hr hq => ?_)
  subst hl
  exact w_X6_requireExposed (E := fun z => z = u) C  (fun a he pc lv hd => by cases he; exact x_vret C hr hq hd) h rfl
set_option maxHeartbeats 4000000 in
set_option maxRecDepth 100000 in
theorem w_X6_match_42 {x : Cx} {g : Gb} {E : Int32 × WD → Prop} (C : CF x g RX6 cX6_match 3 (rmk 3 84))  {l1 : Int32} {l2 : Int32} {σ : WD} (hE : ∀ (a : Int32) (s2 : WD), E (a, s2) → ∀ pc lv, decode cX6_match pc = .ok (.ireturn, 1) → WW x g 3 0 0 pc lv [.int a] s2) {t : Int32 × WD} (h : f_X6_match_42 l1 l2 σ = some t) (ht : E t) : WW x g 3 0 0 42 [(0, .ref (adr g 0)), (1, .int l1), (2, .int l2)] [] σ := by
  unfold f_X6_match_42 at h
  refine x_aload_n C dX6_match_42 rfl 0 rfl 43 rfl ?_
  refine gf_165_0 C dX6_match_43 46 rfl ?_
  refine x_aload_n C dX6_match_46 rfl 0 rfl 47 rfl ?_
  refine gf_162_0 C dX6_match_47 50 rfl ?_
  refine x_aload_n C dX6_match_50 rfl 0 rfl 51 rfl ?_
  refine gf_163_0 C dX6_match_51 54 rfl ?_
  obtain ⟨σ54, h54, h⟩ := bv_some h
  refine x_callV C 7 [.ref (adr g 1), .ref (adr g 3)] (c_X1_save  h54) mi_X1_save (gt_7 g _) rfl q_208 rfl ⟨rfl, rfl⟩ ⟨Nat.le_of_ble_eq_true rfl, Nat.le_of_ble_eq_true rfl⟩ ⟨Nat.zero_le _, Nat.zero_le _⟩ _ rfl (Nat.le_of_ble_eq_true rfl) dX6_match_54 57 rfl ?_
  refine x_aload_n C dX6_match_57 rfl 0 rfl 58 rfl ?_
  refine gf_163_0 C dX6_match_58 61 rfl ?_
  refine x_iload_n C dX6_match_61 rfl 1 rfl 62 rfl ?_
  refine x_iload_n C dX6_match_62 rfl 2 rfl 63 rfl ?_
  obtain ⟨σ63, h63, h⟩ := bv_some h
  refine x_callV C 3 [.int l1, .int l2] (c_X3_join  h63) mi_X3_join (gt_3 g _) rfl q_649 rfl ⟨rfl, rfl⟩ ⟨Nat.le_of_ble_eq_true rfl, Nat.le_of_ble_eq_true rfl⟩ ⟨Nat.zero_le _, Nat.zero_le _⟩ _ rfl (Nat.le_of_ble_eq_true rfl) dX6_match_63 66 rfl ?_
  refine x_aload_n C dX6_match_66 rfl 0 rfl 67 rfl ?_
  refine gf_163_0 C dX6_match_67 70 rfl ?_
  obtain ⟨r70, h70, h⟩ := bv_some h
  refine x_callV C 3 [] (c_X3_size  h70) mi_X3_size (gt_3 g _) rfl q_384 rfl ⟨rfl, rfl⟩ ⟨Nat.le_of_ble_eq_true rfl, Nat.le_of_ble_eq_true rfl⟩ ⟨Nat.zero_le _, Nat.zero_le _⟩ _ rfl (Nat.le_of_ble_eq_true rfl) dX6_match_70 73 rfl ?_
  cases h
  exact hE _ _ ht 73 _ dX6_match_73
set_option maxHeartbeats 4000000 in
set_option maxRecDepth 100000 in
theorem w_X6_match {x : Cx} {g : Gb} {E : Int32 × WD → Prop} (C : CF x g RX6 cX6_match 3 (rmk 3 84))  {a1 : Int32} {a2 : Int32} {σ : WD} (hE : ∀ (a : Int32) (s2 : WD), E (a, s2) → ∀ pc lv, decode cX6_match pc = .ok (.ireturn, 1) → WW x g 3 0 0 pc lv [.int a] s2) {t : Int32 × WD} (h : f_X6_match a1 a2 σ = some (.inl t)) (ht : E t) : WW x g 3 0 0 0 [(0, .ref (adr g 0)), (1, .int a1), (2, .int a2)] [] σ := by
  unfold f_X6_match at h
  refine x_aload_n C dX6_match_0 rfl 0 rfl 1 rfl ?_
  refine x_iload_n C dX6_match_1 rfl 1 rfl 2 rfl ?_
  obtain ⟨p2, h2, h⟩ := bx_inl h
  refine x_callV C 0 [.int a1] (c_X6_requireNode  h2) mi_X6_requireNode (gt_0 g _) rfl q_474 rfl ⟨rfl, rfl⟩ ⟨Nat.le_of_ble_eq_true rfl, Nat.le_of_ble_eq_true rfl⟩ ⟨Nat.zero_le _, Nat.zero_le _⟩ _ rfl (Nat.le_of_ble_eq_true rfl) dX6_match_2 5 rfl ?_
  refine x_aload_n C dX6_match_5 rfl 0 rfl 6 rfl ?_
  refine x_iload_n C dX6_match_6 rfl 2 rfl 7 rfl ?_
  obtain ⟨p7, h7, h⟩ := bx_inl h
  refine x_callV C 0 [.int a2] (c_X6_requireNode  h7) mi_X6_requireNode (gt_0 g _) rfl q_474 rfl ⟨rfl, rfl⟩ ⟨Nat.le_of_ble_eq_true rfl, Nat.le_of_ble_eq_true rfl⟩ ⟨Nat.zero_le _, Nat.zero_le _⟩ _ rfl (Nat.le_of_ble_eq_true rfl) dX6_match_7 10 rfl ?_
  refine x_aload_n C dX6_match_10 rfl 0 rfl 11 rfl ?_
  refine gf_162_0 C dX6_match_11 14 rfl ?_
  refine x_iload_n C dX6_match_14 rfl 1 rfl 15 rfl ?_
  refine x_iload_n C dX6_match_15 rfl 2 rfl 16 rfl ?_
  obtain ⟨r16, h16, h⟩ := bv_some h
  refine x_callV C 1 [.int a1, .int a2] (c_X0_joined  h16) mi_X0_joined (gt_1 g _) rfl q_553 rfl ⟨rfl, rfl⟩ ⟨Nat.le_of_ble_eq_true rfl, Nat.le_of_ble_eq_true rfl⟩ ⟨Nat.zero_le _, Nat.zero_le _⟩ _ rfl (Nat.le_of_ble_eq_true rfl) dX6_match_16 19 rfl ?_
  refine x_if_ne C dX6_match_19 32 (by decide) 22 rfl (fun hc => ?_) (fun hc => ?_)
  · have h := iq hc h
    refine x_aload_n C dX6_match_32 rfl 0 rfl 33 rfl ?_
    refine x_iload_n C dX6_match_33 rfl 1 rfl 34 rfl ?_
    obtain ⟨p34, h34, h⟩ := bx_inl h
    refine x_callV C 0 [.int a1] (c_X6_requireExposed  h34) mi_X6_requireExposed (gt_0 g _) rfl q_525 rfl ⟨rfl, rfl⟩ ⟨Nat.le_of_ble_eq_true rfl, Nat.le_of_ble_eq_true rfl⟩ ⟨Nat.zero_le _, Nat.zero_le _⟩ _ rfl (Nat.le_of_ble_eq_true rfl) dX6_match_34 37 rfl ?_
    refine x_aload_n C dX6_match_37 rfl 0 rfl 38 rfl ?_
    refine x_iload_n C dX6_match_38 rfl 2 rfl 39 rfl ?_
    obtain ⟨p39, h39, h⟩ := bx_inl h
    refine x_callV C 0 [.int a2] (c_X6_requireExposed  h39) mi_X6_requireExposed (gt_0 g _) rfl q_525 rfl ⟨rfl, rfl⟩ ⟨Nat.le_of_ble_eq_true rfl, Nat.le_of_ble_eq_true rfl⟩ ⟨Nat.zero_le _, Nat.zero_le _⟩ _ rfl (Nat.le_of_ble_eq_true rfl) dX6_match_39 42 rfl ?_
    have h := ml_inl h
    exact x_sub [0, 1, 2] rfl (w_X6_match_42 C  hE h ht)
  · have h := ip hc h
    cases h
set_option maxHeartbeats 4000000 in
set_option maxRecDepth 100000 in
theorem c_X6_match {g : Gb} {l : Launch}  {a1 : Int32} {a2 : Int32} {σ : WD} {p : Int32 × WD} (h : f_X6_match a1 a2 σ = some (.inl p)) : MC l g yX6_match (.code yX6_match cX6_match 3 (some (.int))) (rmk 3 84) [.ref (adr g 0), .int a1, .int a2] σ (some (.int p.1)) p.2 := by
  refine MC.of (by decide) (Nat.le_of_ble_eq_true rfl) (fun x C hl hr hq => ?_)
  subst hl
  exact w_X6_match (E := fun z => z = p) C  (fun a s2 he pc lv hd => by cases he; exact x_iret C hr hq hd) h rfl
set_option maxHeartbeats 4000000 in
set_option maxRecDepth 100000 in
theorem w_X6_unmatch_26 {x : Cx} {g : Gb} {E : Int32 × WD → Prop} (C : CF x g RX6 cX6_unmatch 3 (rmk 3 84))  {l1 : Int32} {σ : WD} (hE : ∀ (a : Int32) (s2 : WD), E (a, s2) → ∀ pc lv, decode cX6_unmatch pc = .ok (.ireturn, 1) → WW x g 3 0 0 pc lv [.int a] s2) {t : Int32 × WD} (h : f_X6_unmatch_26 l1 σ = some t) (ht : E t) : WW x g 3 0 0 26 [(0, .ref (adr g 0)), (1, .int l1)] [] σ := by
  unfold f_X6_unmatch_26 at h
  refine x_aload_n C dX6_unmatch_26 rfl 0 rfl 27 rfl ?_
  refine gf_165_0 C dX6_unmatch_27 30 rfl ?_
  refine x_aload_n C dX6_unmatch_30 rfl 0 rfl 31 rfl ?_
  refine gf_162_0 C dX6_unmatch_31 34 rfl ?_
  refine x_aload_n C dX6_unmatch_34 rfl 0 rfl 35 rfl ?_
  refine gf_163_0 C dX6_unmatch_35 38 rfl ?_
  obtain ⟨σ38, h38, h⟩ := bv_some h
  refine x_callV C 7 [.ref (adr g 1), .ref (adr g 3)] (c_X1_save  h38) mi_X1_save (gt_7 g _) rfl q_208 rfl ⟨rfl, rfl⟩ ⟨Nat.le_of_ble_eq_true rfl, Nat.le_of_ble_eq_true rfl⟩ ⟨Nat.zero_le _, Nat.zero_le _⟩ _ rfl (Nat.le_of_ble_eq_true rfl) dX6_unmatch_38 41 rfl ?_
  refine x_aload_n C dX6_unmatch_41 rfl 0 rfl 42 rfl ?_
  refine gf_163_0 C dX6_unmatch_42 45 rfl ?_
  refine gf_63_3 C dX6_unmatch_45 48 rfl ?_
  refine x_iload_n C dX6_unmatch_48 rfl 1 rfl 49 rfl ?_
  obtain ⟨hin, h⟩ := gi_some h
  refine x_iald C 4 (gt_4 g _) hin dX6_unmatch_49 50 rfl ?_
  obtain ⟨v50, e50, h⟩ := li_some h
  refine x_te e50 ?_
  refine x_istore_n C [(2, .int v50), (0, .ref (adr g 0)), (1, .int l1)] dX6_unmatch_50 rfl (by decide) rfl 51 rfl ?_
  refine x_aload_n C dX6_unmatch_51 rfl 1 rfl 52 rfl ?_
  refine gf_163_0 C dX6_unmatch_52 55 rfl ?_
  refine x_iload_n C dX6_unmatch_55 rfl 2 rfl 56 rfl ?_
  obtain ⟨σ56, h56, h⟩ := bv_some h
  refine x_callV C 3 [.int l1] (c_X3_part  h56) mi_X3_part (gt_3 g _) rfl q_610 rfl ⟨rfl, rfl⟩ ⟨Nat.le_of_ble_eq_true rfl, Nat.le_of_ble_eq_true rfl⟩ ⟨Nat.zero_le _, Nat.zero_le _⟩ _ rfl (Nat.le_of_ble_eq_true rfl) dX6_unmatch_56 59 rfl ?_
  refine x_iload_n C dX6_unmatch_59 rfl 0 rfl 60 rfl ?_
  cases h
  exact hE _ _ ht 60 _ dX6_unmatch_60
set_option maxHeartbeats 4000000 in
set_option maxRecDepth 100000 in
theorem w_X6_unmatch {x : Cx} {g : Gb} {E : Int32 × WD → Prop} (C : CF x g RX6 cX6_unmatch 3 (rmk 3 84))  {a1 : Int32} {σ : WD} (hE : ∀ (a : Int32) (s2 : WD), E (a, s2) → ∀ pc lv, decode cX6_unmatch pc = .ok (.ireturn, 1) → WW x g 3 0 0 pc lv [.int a] s2) {t : Int32 × WD} (h : f_X6_unmatch a1 σ = some (.inl t)) (ht : E t) : WW x g 3 0 0 0 [(0, .ref (adr g 0)), (1, .int a1)] [] σ := by
  unfold f_X6_unmatch at h
  refine x_aload_n C dX6_unmatch_0 rfl 0 rfl 1 rfl ?_
  refine x_iload_n C dX6_unmatch_1 rfl 1 rfl 2 rfl ?_
  obtain ⟨p2, h2, h⟩ := bx_inl h
  refine x_callV C 0 [.int a1] (c_X6_requireNode  h2) mi_X6_requireNode (gt_0 g _) rfl q_474 rfl ⟨rfl, rfl⟩ ⟨Nat.le_of_ble_eq_true rfl, Nat.le_of_ble_eq_true rfl⟩ ⟨Nat.zero_le _, Nat.zero_le _⟩ _ rfl (Nat.le_of_ble_eq_true rfl) dX6_unmatch_2 5 rfl ?_
  refine x_aload_n C dX6_unmatch_5 rfl 0 rfl 6 rfl ?_
  refine gf_163_0 C dX6_unmatch_6 9 rfl ?_
  refine x_iload_n C dX6_unmatch_9 rfl 1 rfl 10 rfl ?_
  obtain ⟨r10, h10, h⟩ := bv_some h
  refine x_callV C 3 [.int a1] (c_X3_isExposed  h10) mi_X3_isExposed (gt_3 g _) rfl q_222 rfl ⟨rfl, rfl⟩ ⟨Nat.le_of_ble_eq_true rfl, Nat.le_of_ble_eq_true rfl⟩ ⟨Nat.zero_le _, Nat.zero_le _⟩ _ rfl (Nat.le_of_ble_eq_true rfl) dX6_unmatch_10 13 rfl ?_
  refine x_if_eq C dX6_unmatch_13 26 (by decide) 16 rfl (fun hc => ?_) (fun hc => ?_)
  · have h := ip hc h
    have h := ml_inl h
    exact x_sub [0, 1] rfl (w_X6_unmatch_26 C  hE h ht)
  · have h := iq hc h
    cases h
set_option maxHeartbeats 4000000 in
set_option maxRecDepth 100000 in
theorem c_X6_unmatch {g : Gb} {l : Launch}  {a1 : Int32} {σ : WD} {p : Int32 × WD} (h : f_X6_unmatch a1 σ = some (.inl p)) : MC l g yX6_unmatch (.code yX6_unmatch cX6_unmatch 3 (some (.int))) (rmk 3 84) [.ref (adr g 0), .int a1] σ (some (.int p.1)) p.2 := by
  refine MC.of (by decide) (Nat.le_of_ble_eq_true rfl) (fun x C hl hr hq => ?_)
  subst hl
  exact w_X6_unmatch (E := fun z => z = p) C  (fun a s2 he pc lv hd => by cases he; exact x_iret C hr hq hd) h rfl
set_option maxHeartbeats 4000000 in
set_option maxRecDepth 100000 in
theorem w_X6_augmentFrom {x : Cx} {g : Gb} {E : Int32 × WD → Prop} (C : CF x g RX6 cX6_augmentFrom 3 (rmk 23 590))  {a1 : Int32} {σ : WD} (hE : ∀ (a : Int32) (s2 : WD), E (a, s2) → ∀ pc lv, decode cX6_augmentFrom pc = .ok (.ireturn, 1) → WW x g 3 0 0 pc lv [.int a] s2) {t : Int32 × WD} (h : f_X6_augmentFrom a1 σ = some t) (ht : E t) : WW x g 3 0 0 0 [(0, .ref (adr g 0)), (1, .int a1)] [] σ := by
  unfold f_X6_augmentFrom at h
  refine x_aload_n C dX6_augmentFrom_0 rfl 0 rfl 1 rfl ?_
  refine gf_166_0 C dX6_augmentFrom_1 4 rfl ?_
  refine x_iload_n C dX6_augmentFrom_4 rfl 1 rfl 5 rfl ?_
  obtain ⟨r5, σ5, h5, h⟩ := bn_some h
  refine x_callV C 18 [.int a1] (c_X5_findWay  h5) mi_X5_findWay (gt_18 g _) rfl q_230 rfl ⟨rfl, rfl⟩ ⟨Nat.le_of_ble_eq_true rfl, Nat.le_of_ble_eq_true rfl⟩ ⟨Nat.zero_le _, Nat.zero_le _⟩ _ rfl (Nat.le_of_ble_eq_true rfl) dX6_augmentFrom_5 8 rfl ?_
  refine x_istore_n C [(2, .int r5), (0, .ref (adr g 0)), (1, .int a1)] dX6_augmentFrom_8 rfl (by decide) rfl 9 rfl ?_
  refine x_iload_n C dX6_augmentFrom_9 rfl 0 rfl 10 rfl ?_
  refine x_if_le C dX6_augmentFrom_10 28 (by decide) 13 rfl (fun hc => ?_) (fun hc => ?_)
  · have h := ip hc h
    refine x_iload_n C dX6_augmentFrom_28 rfl 0 rfl 29 rfl ?_
    cases h
    exact hE _ _ ht 29 _ dX6_augmentFrom_29
  · have h := iq hc h
    refine x_aload_n C dX6_augmentFrom_13 rfl 1 rfl 14 rfl ?_
    refine gf_163_0 C dX6_augmentFrom_14 17 rfl ?_
    refine x_aload_n C dX6_augmentFrom_17 rfl 1 rfl 18 rfl ?_
    refine gf_166_0 C dX6_augmentFrom_18 21 rfl ?_
    refine gf_115_18 C dX6_augmentFrom_21 24 rfl ?_
    refine x_iload_n C dX6_augmentFrom_24 rfl 0 rfl 25 rfl ?_
    obtain ⟨σ25, h25, h⟩ := bv_some h
    refine x_callV C 3 [.ref (adr g 21), .int r5] (c_X3_swapAlong  h25) mi_X3_swapAlong (gt_3 g _) rfl q_255 rfl ⟨rfl, rfl⟩ ⟨Nat.le_of_ble_eq_true rfl, Nat.le_of_ble_eq_true rfl⟩ ⟨Nat.zero_le _, Nat.zero_le _⟩ _ rfl (Nat.le_of_ble_eq_true rfl) dX6_augmentFrom_25 28 rfl ?_
    refine x_iload_n C dX6_augmentFrom_28 rfl 0 rfl 29 rfl ?_
    cases h
    exact hE _ _ ht 29 _ dX6_augmentFrom_29
set_option maxHeartbeats 4000000 in
set_option maxRecDepth 100000 in
theorem c_X6_augmentFrom {g : Gb} {l : Launch}  {a1 : Int32} {σ : WD} {r : Int32} {σ2 : WD} (h : f_X6_augmentFrom a1 σ = some (r, σ2)) : MC l g yX6_augmentFrom (.code yX6_augmentFrom cX6_augmentFrom 3 (some (.int))) (rmk 23 590) [.ref (adr g 0), .int a1] σ (some (.int r)) σ2 := by
  refine MC.of (by decide) (Nat.le_of_ble_eq_true rfl) (fun x C hl hr hq => ?_)
  subst hl
  exact w_X6_augmentFrom (E := fun z => z = (r, σ2)) C  (fun a s2 he pc lv hd => by cases he; exact x_iret C hr hq hd) h rfl
set_option maxHeartbeats 4000000 in
set_option maxRecDepth 100000 in
theorem w_X6_augment_10 {x : Cx} {g : Gb} {E : Int32 × WD → Prop} (C : CF x g RX6 cX6_augment 2 (rmk 24 613))  {l1 : Int32} {σ : WD} (hE : ∀ (a : Int32) (s2 : WD), E (a, s2) → ∀ pc lv, decode cX6_augment pc = .ok (.ireturn, 1) → WW x g 2 0 0 pc lv [.int a] s2) {t : Int32 × WD} (h : f_X6_augment_10 l1 σ = some t) (ht : E t) : WW x g 2 0 0 10 [(0, .ref (adr g 0)), (1, .int l1)] [] σ := by
  unfold f_X6_augment_10 at h
  refine x_aload_n C dX6_augment_10 rfl 0 rfl 11 rfl ?_
  refine gf_165_0 C dX6_augment_11 14 rfl ?_
  refine x_aload_n C dX6_augment_14 rfl 0 rfl 15 rfl ?_
  refine gf_162_0 C dX6_augment_15 18 rfl ?_
  refine x_aload_n C dX6_augment_18 rfl 0 rfl 19 rfl ?_
  refine gf_163_0 C dX6_augment_19 22 rfl ?_
  obtain ⟨σ22, h22, h⟩ := bv_some h
  refine x_callV C 7 [.ref (adr g 1), .ref (adr g 3)] (c_X1_save  h22) mi_X1_save (gt_7 g _) rfl q_208 rfl ⟨rfl, rfl⟩ ⟨Nat.le_of_ble_eq_true rfl, Nat.le_of_ble_eq_true rfl⟩ ⟨Nat.zero_le _, Nat.zero_le _⟩ _ rfl (Nat.le_of_ble_eq_true rfl) dX6_augment_22 25 rfl ?_
  refine x_aload_n C dX6_augment_25 rfl 0 rfl 26 rfl ?_
  refine x_iload_n C dX6_augment_26 rfl 1 rfl 27 rfl ?_
  obtain ⟨r27, σ27, h27, h⟩ := bn_some h
  refine x_callV C 0 [.int l1] (c_X6_augmentFrom  h27) mi_X6_augmentFrom (gt_0 g _) rfl q_226 rfl ⟨rfl, rfl⟩ ⟨Nat.le_of_ble_eq_true rfl, Nat.le_of_ble_eq_true rfl⟩ ⟨Nat.zero_le _, Nat.zero_le _⟩ _ rfl (Nat.le_of_ble_eq_true rfl) dX6_augment_27 30 rfl ?_
  cases h
  exact hE _ _ ht 30 _ dX6_augment_30
set_option maxHeartbeats 4000000 in
set_option maxRecDepth 100000 in
theorem w_X6_augment {x : Cx} {g : Gb} {E : Int32 × WD → Prop} (C : CF x g RX6 cX6_augment 2 (rmk 24 613))  {a1 : Int32} {σ : WD} (hE : ∀ (a : Int32) (s2 : WD), E (a, s2) → ∀ pc lv, decode cX6_augment pc = .ok (.ireturn, 1) → WW x g 2 0 0 pc lv [.int a] s2) {t : Int32 × WD} (h : f_X6_augment a1 σ = some (.inl t)) (ht : E t) : WW x g 2 0 0 0 [(0, .ref (adr g 0)), (1, .int a1)] [] σ := by
  unfold f_X6_augment at h
  refine x_aload_n C dX6_augment_0 rfl 0 rfl 1 rfl ?_
  refine x_iload_n C dX6_augment_1 rfl 1 rfl 2 rfl ?_
  obtain ⟨p2, h2, h⟩ := bx_inl h
  refine x_callV C 0 [.int a1] (c_X6_requireNode  h2) mi_X6_requireNode (gt_0 g _) rfl q_474 rfl ⟨rfl, rfl⟩ ⟨Nat.le_of_ble_eq_true rfl, Nat.le_of_ble_eq_true rfl⟩ ⟨Nat.zero_le _, Nat.zero_le _⟩ _ rfl (Nat.le_of_ble_eq_true rfl) dX6_augment_2 5 rfl ?_
  refine x_aload_n C dX6_augment_5 rfl 0 rfl 6 rfl ?_
  refine x_iload_n C dX6_augment_6 rfl 1 rfl 7 rfl ?_
  obtain ⟨p7, h7, h⟩ := bx_inl h
  refine x_callV C 0 [.int a1] (c_X6_requireExposed  h7) mi_X6_requireExposed (gt_0 g _) rfl q_525 rfl ⟨rfl, rfl⟩ ⟨Nat.le_of_ble_eq_true rfl, Nat.le_of_ble_eq_true rfl⟩ ⟨Nat.zero_le _, Nat.zero_le _⟩ _ rfl (Nat.le_of_ble_eq_true rfl) dX6_augment_7 10 rfl ?_
  have h := ml_inl h
  exact x_sub [0, 1] rfl (w_X6_augment_10 C  hE h ht)
set_option maxHeartbeats 4000000 in
set_option maxRecDepth 100000 in
theorem c_X6_augment {g : Gb} {l : Launch}  {a1 : Int32} {σ : WD} {p : Int32 × WD} (h : f_X6_augment a1 σ = some (.inl p)) : MC l g yX6_augment (.code yX6_augment cX6_augment 2 (some (.int))) (rmk 24 613) [.ref (adr g 0), .int a1] σ (some (.int p.1)) p.2 := by
  refine MC.of (by decide) (Nat.le_of_ble_eq_true rfl) (fun x C hl hr hq => ?_)
  subst hl
  exact w_X6_augment (E := fun z => z = p) C  (fun a s2 he pc lv hd => by cases he; exact x_iret C hr hq hd) h rfl
set_option maxHeartbeats 4000000 in
set_option maxRecDepth 100000 in
theorem w_X6_augmentLowest_b2 {x : Cx} {g : Gb} {E : (Int32 × WD) ⊕ (Int32 × WD) → Prop} (C : CF x g RX6 cX6_augmentLowest 2 (rmk 24 613))  {l1 : Int32} {σ : WD} (hI0 : ∀ s, E (.inl s) → WW x g 2 0 0 2 [(0, .ref (adr g 0)), (1, .int s.1)] [] s.2) (hE : ∀ (a : Int32) (s2 : WD), E (.inr (a, s2)) → ∀ pc lv, narrow .boolean (.int a) = .int a → decode cX6_augmentLowest pc = .ok (.ireturn, 1) → WW x g 2 0 0 pc lv [.int a] s2) {t : (Int32 × WD) ⊕ (Int32 × WD)} (h : f_X6_augmentLowest_b2 l1 σ = some t) (ht : E t) : WW x g 2 0 0 2 [(0, .ref (adr g 0)), (1, .int l1)] [] σ := by
  unfold f_X6_augmentLowest_b2 at h
  refine x_iload_n C dX6_augmentLowest_2 rfl 1 rfl 3 rfl ?_
  refine x_aload_n C dX6_augmentLowest_3 rfl 0 rfl 4 rfl ?_
  refine gf_162_0 C dX6_augmentLowest_4 7 rfl ?_
  refine gf_35_1 C dX6_augmentLowest_7 10 rfl ?_
  refine x_icmp_ge C dX6_augmentLowest_10 40 (by decide) 13 rfl (fun hc => ?_) (fun hc => ?_)
  · have h := ip hc h
    refine x_iconst C (v := 0) dX6_augmentLowest_40 (by decide) 41 rfl ?_
    cases h
    exact hE _ _ ht 41 _ rfl dX6_augmentLowest_41
  · have h := iq hc h
    refine x_aload_n C dX6_augmentLowest_13 rfl 0 rfl 14 rfl ?_
    refine gf_163_0 C dX6_augmentLowest_14 17 rfl ?_
    refine x_iload_n C dX6_augmentLowest_17 rfl 1 rfl 18 rfl ?_
    obtain ⟨r18, h18, h⟩ := bv_some h
    refine x_callV C 3 [.int l1] (c_X3_isExposed  h18) mi_X3_isExposed (gt_3 g _) rfl q_222 rfl ⟨rfl, rfl⟩ ⟨Nat.le_of_ble_eq_true rfl, Nat.le_of_ble_eq_true rfl⟩ ⟨Nat.zero_le _, Nat.zero_le _⟩ _ rfl (Nat.le_of_ble_eq_true rfl) dX6_augmentLowest_18 21 rfl ?_
    refine x_if_eq C dX6_augmentLowest_21 34 (by decide) 24 rfl (fun hc => ?_) (fun hc => ?_)
    · have h := ip hc h
      refine x_iinc C [(1, .int (l1 + 1)), (0, .ref (adr g 0))] dX6_augmentLowest_34 1 rfl rfl (by decide) rfl 37 rfl ?_
      refine x_goto C dX6_augmentLowest_37 2 (by decide) ?_
      cases h
      exact x_sub [1, 0] rfl (hI0 ((l1 + 1), σ) ht)
    · have h := iq hc h
      refine x_aload_n C dX6_augmentLowest_24 rfl 0 rfl 25 rfl ?_
      refine x_iload_n C dX6_augmentLowest_25 rfl 1 rfl 26 rfl ?_
      obtain ⟨r26, σ26, h26, h⟩ := bn_some h
      refine x_callV C 0 [.int l1] (c_X6_augmentFrom  h26) mi_X6_augmentFrom (gt_0 g _) rfl q_226 rfl ⟨rfl, rfl⟩ ⟨Nat.le_of_ble_eq_true rfl, Nat.le_of_ble_eq_true rfl⟩ ⟨Nat.zero_le _, Nat.zero_le _⟩ _ rfl (Nat.le_of_ble_eq_true rfl) dX6_augmentLowest_26 29 rfl ?_
      refine x_if_le C dX6_augmentLowest_29 34 (by decide) 32 rfl (fun hc => ?_) (fun hc => ?_)
      · have h := ip hc h
        refine x_iinc C [(1, .int (l1 + 1)), (0, .ref (adr g 0))] dX6_augmentLowest_34 1 rfl rfl (by decide) rfl 37 rfl ?_
        refine x_goto C dX6_augmentLowest_37 2 (by decide) ?_
        cases h
        exact x_sub [1, 0] rfl (hI0 ((l1 + 1), σ26) ht)
      · have h := iq hc h
        refine x_iconst C (v := 1) dX6_augmentLowest_32 (by decide) 33 rfl ?_
        cases h
        exact hE _ _ ht 33 _ rfl dX6_augmentLowest_33
set_option maxHeartbeats 4000000 in
set_option maxRecDepth 100000 in
theorem w_X6_augmentLowest_2 {x : Cx} {g : Gb} {E : Int32 × WD → Prop} (C : CF x g RX6 cX6_augmentLowest 2 (rmk 24 613))  {l1 : Int32} {σ : WD} (hE : ∀ (a : Int32) (s2 : WD), E (a, s2) → ∀ pc lv, narrow .boolean (.int a) = .int a → decode cX6_augmentLowest pc = .ok (.ireturn, 1) → WW x g 2 0 0 pc lv [.int a] s2) {t : Int32 × WD} (h : f_X6_augmentLowest_2 l1 σ = some t) (ht : E t) : WW x g 2 0 0 2 [(0, .ref (adr g 0)), (1, .int l1)] [] σ := by
  unfold f_X6_augmentLowest_2 at h
  exact lp_ind (fun s : Int32 × WD => WW x g 2 0 0 2 [(0, .ref (adr g 0)), (1, .int s.1)] [] s.2) E h ht (fun s y hb hy => w_X6_augmentLowest_b2 (E := Sum.elim (fun s : Int32 × WD => WW x g 2 0 0 2 [(0, .ref (adr g 0)), (1, .int s.1)] [] s.2) E) C  (fun _ h => h)  hE hb hy)
set_option maxHeartbeats 4000000 in
set_option maxRecDepth 100000 in
theorem w_X6_augmentLowest {x : Cx} {g : Gb} {E : Int32 × WD → Prop} (C : CF x g RX6 cX6_augmentLowest 2 (rmk 24 613))   {σ : WD} (hE : ∀ (a : Int32) (s2 : WD), E (a, s2) → ∀ pc lv, narrow .boolean (.int a) = .int a → decode cX6_augmentLowest pc = .ok (.ireturn, 1) → WW x g 2 0 0 pc lv [.int a] s2) {t : Int32 × WD} (h : f_X6_augmentLowest  σ = some t) (ht : E t) : WW x g 2 0 0 0 [(0, .ref (adr g 0))] [] σ := by
  unfold f_X6_augmentLowest at h
  refine x_iconst C (v := 0) dX6_augmentLowest_0 (by decide) 1 rfl ?_
  refine x_istore_n C [(1, .int 0), (0, .ref (adr g 0))] dX6_augmentLowest_1 rfl (by decide) rfl 2 rfl ?_
  exact x_sub [1, 0] rfl (w_X6_augmentLowest_2 C  hE h ht)
set_option maxHeartbeats 4000000 in
set_option maxRecDepth 100000 in
theorem c_X6_augmentLowest {g : Gb} {l : Launch}   {σ : WD} {r : Int32} {σ2 : WD} (h : f_X6_augmentLowest  σ = some (r, σ2)) : MC l g yX6_augmentLowest (.code yX6_augmentLowest cX6_augmentLowest 2 (some (.boolean))) (rmk 24 613) [.ref (adr g 0)] σ (some (.int r)) σ2 := by
  refine MC.of (by decide) (Nat.le_of_ble_eq_true rfl) (fun x C hl hr hq => ?_)
  subst hl
  exact w_X6_augmentLowest (E := fun z => z = (r, σ2)) C  (fun a s2 he pc lv hn hd => by cases he; exact x_zret C hr hq hn hd) h rfl
set_option maxHeartbeats 4000000 in
set_option maxRecDepth 100000 in
theorem w_X6_maximize_b17 {x : Cx} {g : Gb} {E : (Int32 × WD) ⊕ (Int32 × WD) → Prop} (C : CF x g RX6 cX6_maximize 2 (rmk 25 635))  {l1 : Int32} {σ : WD} (hI0 : ∀ s, E (.inl s) → WW x g 2 0 0 17 [(0, .ref (adr g 0)), (1, .int s.1)] [] s.2) (hE : ∀ (a : Int32) (s2 : WD), E (.inr (a, s2)) → ∀ pc lv, decode cX6_maximize pc = .ok (.ireturn, 1) → WW x g 2 0 0 pc lv [.int a] s2) {t : (Int32 × WD) ⊕ (Int32 × WD)} (h : f_X6_maximize_b17 l1 σ = some t) (ht : E t) : WW x g 2 0 0 17 [(0, .ref (adr g 0)), (1, .int l1)] [] σ := by
  unfold f_X6_maximize_b17 at h
  refine x_iload_n C dX6_maximize_17 rfl 1 rfl 18 rfl ?_
  refine x_bipush C (v := 6) dX6_maximize_18 (by decide) 20 rfl ?_
  refine x_icmp_ge C dX6_maximize_20 36 (by decide) 23 rfl (fun hc => ?_) (fun hc => ?_)
  · have h := ip hc h
    refine x_iload_n C dX6_maximize_36 rfl 1 rfl 37 rfl ?_
    cases h
    exact hE _ _ ht 37 _ dX6_maximize_37
  · have h := iq hc h
    refine x_aload_n C dX6_maximize_23 rfl 0 rfl 24 rfl ?_
    obtain ⟨r24, σ24, h24, h⟩ := bn_some h
    refine x_callV C 0 [] (c_X6_augmentLowest  h24) mi_X6_augmentLowest (gt_0 g _) rfl q_218 rfl ⟨rfl, rfl⟩ ⟨Nat.le_of_ble_eq_true rfl, Nat.le_of_ble_eq_true rfl⟩ ⟨Nat.zero_le _, Nat.zero_le _⟩ _ rfl (Nat.le_of_ble_eq_true rfl) dX6_maximize_24 27 rfl ?_
    refine x_if_eq C dX6_maximize_27 36 (by decide) 30 rfl (fun hc => ?_) (fun hc => ?_)
    · have h := ip hc h
      refine x_iload_n C dX6_maximize_36 rfl 1 rfl 37 rfl ?_
      cases h
      exact hE _ _ ht 37 _ dX6_maximize_37
    · have h := iq hc h
      refine x_iinc C [(1, .int (l1 + 1)), (0, .ref (adr g 0))] dX6_maximize_30 1 rfl rfl (by decide) rfl 33 rfl ?_
      refine x_goto C dX6_maximize_33 17 (by decide) ?_
      cases h
      exact x_sub [1, 0] rfl (hI0 ((l1 + 1), σ24) ht)
set_option maxHeartbeats 4000000 in
set_option maxRecDepth 100000 in
theorem w_X6_maximize_17 {x : Cx} {g : Gb} {E : Int32 × WD → Prop} (C : CF x g RX6 cX6_maximize 2 (rmk 25 635))  {l1 : Int32} {σ : WD} (hE : ∀ (a : Int32) (s2 : WD), E (a, s2) → ∀ pc lv, decode cX6_maximize pc = .ok (.ireturn, 1) → WW x g 2 0 0 pc lv [.int a] s2) {t : Int32 × WD} (h : f_X6_maximize_17 l1 σ = some t) (ht : E t) : WW x g 2 0 0 17 [(0, .ref (adr g 0)), (1, .int l1)] [] σ := by
  unfold f_X6_maximize_17 at h
  exact lp_ind (fun s : Int32 × WD => WW x g 2 0 0 17 [(0, .ref (adr g 0)), (1, .int s.1)] [] s.2) E h ht (fun s y hb hy => w_X6_maximize_b17 (E := Sum.elim (fun s : Int32 × WD => WW x g 2 0 0 17 [(0, .ref (adr g 0)), (1, .int s.1)] [] s.2) E) C  (fun _ h => h)  hE hb hy)
set_option maxHeartbeats 4000000 in
set_option maxRecDepth 100000 in
theorem w_X6_maximize {x : Cx} {g : Gb} {E : Int32 × WD → Prop} (C : CF x g RX6 cX6_maximize 2 (rmk 25 635))   {σ : WD} (hE : ∀ (a : Int32) (s2 : WD), E (a, s2) → ∀ pc lv, decode cX6_maximize pc = .ok (.ireturn, 1) → WW x g 2 0 0 pc lv [.int a] s2) {t : Int32 × WD} (h : f_X6_maximize  σ = some t) (ht : E t) : WW x g 2 0 0 0 [(0, .ref (adr g 0))] [] σ := by
  unfold f_X6_maximize at h
  refine x_aload_n C dX6_maximize_0 rfl 0 rfl 1 rfl ?_
  refine gf_165_0 C dX6_maximize_1 4 rfl ?_
  refine x_aload_n C dX6_maximize_4 rfl 0 rfl 5 rfl ?_
  refine gf_162_0 C dX6_maximize_5 8 rfl ?_
  refine x_aload_n C dX6_maximize_8 rfl 0 rfl 9 rfl ?_
  refine gf_163_0 C dX6_maximize_9 12 rfl ?_
  obtain ⟨σ12, h12, h⟩ := bv_some h
  refine x_callV C 7 [.ref (adr g 1), .ref (adr g 3)] (c_X1_save  h12) mi_X1_save (gt_7 g _) rfl q_208 rfl ⟨rfl, rfl⟩ ⟨Nat.le_of_ble_eq_true rfl, Nat.le_of_ble_eq_true rfl⟩ ⟨Nat.zero_le _, Nat.zero_le _⟩ _ rfl (Nat.le_of_ble_eq_true rfl) dX6_maximize_12 15 rfl ?_
  refine x_iconst C (v := 0) dX6_maximize_15 (by decide) 16 rfl ?_
  refine x_istore_n C [(1, .int 0), (0, .ref (adr g 0))] dX6_maximize_16 rfl (by decide) rfl 17 rfl ?_
  exact x_sub [1, 0] rfl (w_X6_maximize_17 C  hE h ht)
set_option maxHeartbeats 4000000 in
set_option maxRecDepth 100000 in
theorem c_X6_maximize {g : Gb} {l : Launch}   {σ : WD} {r : Int32} {σ2 : WD} (h : f_X6_maximize  σ = some (r, σ2)) : MC l g yX6_maximize (.code yX6_maximize cX6_maximize 2 (some (.int))) (rmk 25 635) [.ref (adr g 0)] σ (some (.int r)) σ2 := by
  refine MC.of (by decide) (Nat.le_of_ble_eq_true rfl) (fun x C hl hr hq => ?_)
  subst hl
  exact w_X6_maximize (E := fun z => z = (r, σ2)) C  (fun a s2 he pc lv hd => by cases he; exact x_iret C hr hq hd) h rfl
set_option maxHeartbeats 4000000 in
set_option maxRecDepth 100000 in
theorem w_X6_takeFirst_74 {x : Cx} {g : Gb} {E : Int32 × WD → Prop} (C : CF x g RX6 cX6_takeFirst 5 (rmk 21 597))  {l2 : Int32} {σ : WD} (hE : ∀ (a : Int32) (s2 : WD), E (a, s2) → ∀ pc lv, decode cX6_takeFirst pc = .ok (.ireturn, 1) → WW x g 5 0 0 pc lv [.int a] s2) {t : Int32 × WD} (h : f_X6_takeFirst_74 l2 σ = some t) (ht : E t) : WW x g 5 0 0 74 [(0, .ref (adr g 0)), (1, .ref (adr g 25)), (2, .int l2)] [] σ := by
  unfold f_X6_takeFirst_74 at h
  refine x_aload_n C dX6_takeFirst_74 rfl 0 rfl 75 rfl ?_
  refine gf_163_0 C dX6_takeFirst_75 78 rfl ?_
  refine x_aload_n C dX6_takeFirst_78 rfl 1 rfl 79 rfl ?_
  refine gf_63_25 C dX6_takeFirst_79 82 rfl ?_
  obtain ⟨σ82, h82, h⟩ := bv_some h
  refine x_callV C 3 [.ref (adr g 26)] (c_X3_copyFrom_f  h82) mi_X3_copyFrom (gt_3 g _) rfl q_301 rfl ⟨rfl, rfl⟩ ⟨Nat.le_of_ble_eq_true rfl, Nat.le_of_ble_eq_true rfl⟩ ⟨Nat.zero_le _, Nat.zero_le _⟩ _ rfl (Nat.le_of_ble_eq_true rfl) dX6_takeFirst_82 85 rfl ?_
  refine x_iload_n C dX6_takeFirst_85 rfl 2 rfl 86 rfl ?_
  cases h
  exact hE _ _ ht 86 _ dX6_takeFirst_86
set_option maxHeartbeats 4000000 in
set_option maxRecDepth 100000 in
theorem w_X6_takeFirst_b27 {x : Cx} {g : Gb} {E : (Int32 × Int32) ⊕ (Int32 × WD) → Prop} (C : CF x g RX6 cX6_takeFirst 5 (rmk 21 597))  {l2 : Int32} {l3 : Int32} {σ : WD} (hI0 : ∀ s, E (.inl s) → WW x g 5 0 0 27 [(0, .ref (adr g 0)), (1, .ref (adr g 25)), (2, .int s.1), (3, .int s.2)] [] σ) (hE : ∀ (a : Int32) (s2 : WD), E (.inr (a, s2)) → ∀ pc lv, decode cX6_takeFirst pc = .ok (.ireturn, 1) → WW x g 5 0 0 pc lv [.int a] s2) {t : (Int32 × Int32) ⊕ (Int32 × WD)} (h : f_X6_takeFirst_b27 l2 l3 σ = some t) (ht : E t) : WW x g 5 0 0 27 [(0, .ref (adr g 0)), (1, .ref (adr g 25)), (2, .int l2), (3, .int l3)] [] σ := by
  unfold f_X6_takeFirst_b27 at h
  refine x_iload_n C dX6_takeFirst_27 rfl 3 rfl 28 rfl ?_
  refine x_aload_n C dX6_takeFirst_28 rfl 0 rfl 29 rfl ?_
  refine gf_162_0 C dX6_takeFirst_29 32 rfl ?_
  refine gf_35_1 C dX6_takeFirst_32 35 rfl ?_
  refine x_icmp_ge C dX6_takeFirst_35 74 (by decide) 38 rfl (fun hc => ?_) (fun hc => ?_)
  · have h := ip hc h
    obtain ⟨_, hm0, rfl⟩ := mr_some h
    exact x_sub [0, 1, 2] rfl (w_X6_takeFirst_74 (E := fun r => E (.inr r)) C  hE hm0 ht)
  · have h := iq hc h
    refine x_aload_n C dX6_takeFirst_38 rfl 1 rfl 39 rfl ?_
    refine gf_63_25 C dX6_takeFirst_39 42 rfl ?_
    refine x_iload_n C dX6_takeFirst_42 rfl 3 rfl 43 rfl ?_
    obtain ⟨hin, h⟩ := gi_some h
    refine x_iald C 26 (gt_26 g _) hin dX6_takeFirst_43 44 rfl ?_
    obtain ⟨v44, e44, h⟩ := li_some h
    refine x_te e44 ?_
    refine x_istore C [(4, .int v44), (0, .ref (adr g 0)), (1, .ref (adr g 25)), (2, .int l2), (3, .int l3)] dX6_takeFirst_44 (by decide) rfl 46 rfl ?_
    refine x_iload C dX6_takeFirst_46 0 rfl 48 rfl ?_
    refine x_iload_n C dX6_takeFirst_48 rfl 4 rfl 49 rfl ?_
    refine x_icmp_le C dX6_takeFirst_49 68 (by decide) 52 rfl (fun hc => ?_) (fun hc => ?_)
    · have h := ip hc h
      refine x_iinc C [(3, .int (l3 + 1)), (4, .int v44), (0, .ref (adr g 0)), (1, .ref (adr g 25)), (2, .int l2)] dX6_takeFirst_68 4 rfl rfl (by decide) rfl 71 rfl ?_
      refine x_goto C dX6_takeFirst_71 27 (by decide) ?_
      cases h
      exact x_sub [2, 3, 4, 0] rfl (hI0 (l2, (l3 + 1)) ht)
    · have h := iq hc h
      refine x_aload_n C dX6_takeFirst_52 rfl 1 rfl 53 rfl ?_
      refine gf_163_0 C dX6_takeFirst_53 56 rfl ?_
      refine x_iload_n C dX6_takeFirst_56 rfl 4 rfl 57 rfl ?_
      refine x_iload C dX6_takeFirst_57 0 rfl 59 rfl ?_
      obtain ⟨r59, h59, h⟩ := bv_some h
      refine x_callV C 3 [.int l3, .int v44] (c_X3_has  h59) mi_X3_has (gt_3 g _) rfl q_297 rfl ⟨rfl, rfl⟩ ⟨Nat.le_of_ble_eq_true rfl, Nat.le_of_ble_eq_true rfl⟩ ⟨Nat.zero_le _, Nat.zero_le _⟩ _ rfl (Nat.le_of_ble_eq_true rfl) dX6_takeFirst_59 62 rfl ?_
      refine x_if_ne C dX6_takeFirst_62 68 (by decide) 65 rfl (fun hc => ?_) (fun hc => ?_)
      · have h := iq hc h
        refine x_iinc C [(3, .int (l3 + 1)), (4, .int v44), (0, .ref (adr g 0)), (1, .ref (adr g 25)), (2, .int l2)] dX6_takeFirst_68 4 rfl rfl (by decide) rfl 71 rfl ?_
        refine x_goto C dX6_takeFirst_71 27 (by decide) ?_
        cases h
        exact x_sub [2, 3, 4, 0] rfl (hI0 (l2, (l3 + 1)) ht)
      · have h := ip hc h
        refine x_iinc C [(2, .int (l2 + 1)), (4, .int v44), (0, .ref (adr g 0)), (1, .ref (adr g 25)), (3, .int l3)] dX6_takeFirst_65 3 rfl rfl (by decide) rfl 68 rfl ?_
        refine x_iinc C [(3, .int (l3 + 1)), (2, .int (l2 + 1)), (4, .int v44), (0, .ref (adr g 0)), (1, .ref (adr g 25))] dX6_takeFirst_68 4 rfl rfl (by decide) rfl 71 rfl ?_
        refine x_goto C dX6_takeFirst_71 27 (by decide) ?_
        cases h
        exact x_sub [3, 4, 1, 0] rfl (hI0 ((l2 + 1), (l3 + 1)) ht)
set_option maxHeartbeats 4000000 in
set_option maxRecDepth 100000 in
theorem w_X6_takeFirst_27 {x : Cx} {g : Gb} {E : Int32 × WD → Prop} (C : CF x g RX6 cX6_takeFirst 5 (rmk 21 597))  {l2 : Int32} {l3 : Int32} {σ : WD} (hE : ∀ (a : Int32) (s2 : WD), E (a, s2) → ∀ pc lv, decode cX6_takeFirst pc = .ok (.ireturn, 1) → WW x g 5 0 0 pc lv [.int a] s2) {t : Int32 × WD} (h : f_X6_takeFirst_27 l2 l3 σ = some t) (ht : E t) : WW x g 5 0 0 27 [(0, .ref (adr g 0)), (1, .ref (adr g 25)), (2, .int l2), (3, .int l3)] [] σ := by
  unfold f_X6_takeFirst_27 at h
  exact lp_ind (fun s : Int32 × Int32 => WW x g 5 0 0 27 [(0, .ref (adr g 0)), (1, .ref (adr g 25)), (2, .int s.1), (3, .int s.2)] [] σ) E h ht (fun s y hb hy => w_X6_takeFirst_b27 (E := Sum.elim (fun s : Int32 × Int32 => WW x g 5 0 0 27 [(0, .ref (adr g 0)), (1, .ref (adr g 25)), (2, .int s.1), (3, .int s.2)] [] σ) E) C  (fun _ h => h)  hE hb hy)
set_option maxHeartbeats 4000000 in
set_option maxRecDepth 100000 in
theorem w_X6_takeFirst {x : Cx} {g : Gb} {E : Int32 × WD → Prop} (C : CF x g RX6 cX6_takeFirst 5 (rmk 21 597))   {σ : WD} (hE : ∀ (a : Int32) (s2 : WD), E (a, s2) → ∀ pc lv, decode cX6_takeFirst pc = .ok (.ireturn, 1) → WW x g 5 0 0 pc lv [.int a] s2) {t : Int32 × WD} (h : f_X6_takeFirst  σ = some t) (ht : E t) : WW x g 5 0 0 0 [(0, .ref (adr g 0))] [] σ := by
  unfold f_X6_takeFirst at h
  refine x_aload_n C dX6_takeFirst_0 rfl 0 rfl 1 rfl ?_
  refine gf_165_0 C dX6_takeFirst_1 4 rfl ?_
  refine x_aload_n C dX6_takeFirst_4 rfl 0 rfl 5 rfl ?_
  refine gf_162_0 C dX6_takeFirst_5 8 rfl ?_
  refine x_aload_n C dX6_takeFirst_8 rfl 0 rfl 9 rfl ?_
  refine gf_163_0 C dX6_takeFirst_9 12 rfl ?_
  obtain ⟨σ12, h12, h⟩ := bv_some h
  refine x_callV C 7 [.ref (adr g 1), .ref (adr g 3)] (c_X1_save  h12) mi_X1_save (gt_7 g _) rfl q_208 rfl ⟨rfl, rfl⟩ ⟨Nat.le_of_ble_eq_true rfl, Nat.le_of_ble_eq_true rfl⟩ ⟨Nat.zero_le _, Nat.zero_le _⟩ _ rfl (Nat.le_of_ble_eq_true rfl) dX6_takeFirst_12 15 rfl ?_
  refine x_aload_n C dX6_takeFirst_15 rfl 0 rfl 16 rfl ?_
  refine gf_167_0 C dX6_takeFirst_16 19 rfl ?_
  obtain ⟨σ19, h19, h⟩ := bv_some h
  refine x_callV C 22 [] (c_X4_first  h19) mi_X4_first (gt_22 g _) rfl q_267 rfl ⟨rfl, rfl⟩ ⟨Nat.le_of_ble_eq_true rfl, Nat.le_of_ble_eq_true rfl⟩ ⟨Nat.zero_le _, Nat.zero_le _⟩ _ rfl (Nat.le_of_ble_eq_true rfl) dX6_takeFirst_19 22 rfl ?_
  refine x_astore_n C [(1, .ref (adr g 25)), (0, .ref (adr g 0))] dX6_takeFirst_22 rfl (by decide) rfl 23 rfl ?_
  refine x_iconst C (v := 0) dX6_takeFirst_23 (by decide) 24 rfl ?_
  refine x_istore_n C [(2, .int 0), (1, .ref (adr g 25)), (0, .ref (adr g 0))] dX6_takeFirst_24 rfl (by decide) rfl 25 rfl ?_
  refine x_iconst C (v := 0) dX6_takeFirst_25 (by decide) 26 rfl ?_
  refine x_istore_n C [(3, .int 0), (2, .int 0), (1, .ref (adr g 25)), (0, .ref (adr g 0))] dX6_takeFirst_26 rfl (by decide) rfl 27 rfl ?_
  exact x_sub [3, 2, 1, 0] rfl (w_X6_takeFirst_27 C  hE h ht)
set_option maxHeartbeats 4000000 in
set_option maxRecDepth 100000 in
theorem c_X6_takeFirst {g : Gb} {l : Launch}   {σ : WD} {r : Int32} {σ2 : WD} (h : f_X6_takeFirst  σ = some (r, σ2)) : MC l g yX6_takeFirst (.code yX6_takeFirst cX6_takeFirst 5 (some (.int))) (rmk 21 597) [.ref (adr g 0)] σ (some (.int r)) σ2 := by
  refine MC.of (by decide) (Nat.le_of_ble_eq_true rfl) (fun x C hl hr hq => ?_)
  subst hl
  exact w_X6_takeFirst (E := fun z => z = (r, σ2)) C  (fun a s2 he pc lv hd => by cases he; exact x_iret C hr hq hd) h rfl
set_option maxHeartbeats 4000000 in
set_option maxRecDepth 100000 in
theorem w_X6_undo_20 {x : Cx} {g : Gb} {E : Int32 × WD → Prop} (C : CF x g RX6 cX6_undo 1 (rmk 4 106))   {σ : WD} (hE : ∀ (a : Int32) (s2 : WD), E (a, s2) → ∀ pc lv, decode cX6_undo pc = .ok (.ireturn, 1) → WW x g 1 0 0 pc lv [.int a] s2) {t : Int32 × WD} (h : f_X6_undo_20  σ = some t) (ht : E t) : WW x g 1 0 0 20 [(0, .ref (adr g 0))] [] σ := by
  unfold f_X6_undo_20 at h
  refine x_aload_n C dX6_undo_20 rfl 0 rfl 21 rfl ?_
  refine gf_165_0 C dX6_undo_21 24 rfl ?_
  refine x_aload_n C dX6_undo_24 rfl 0 rfl 25 rfl ?_
  refine gf_162_0 C dX6_undo_25 28 rfl ?_
  refine x_aload_n C dX6_undo_28 rfl 0 rfl 29 rfl ?_
  refine gf_163_0 C dX6_undo_29 32 rfl ?_
  obtain ⟨σ32, h32, h⟩ := bv_some h
  refine x_callV C 7 [.ref (adr g 1), .ref (adr g 3)] (c_X1_restore  h32) mi_X1_restore (gt_7 g _) rfl q_681 rfl ⟨rfl, rfl⟩ ⟨Nat.le_of_ble_eq_true rfl, Nat.le_of_ble_eq_true rfl⟩ ⟨Nat.zero_le _, Nat.zero_le _⟩ _ rfl (Nat.le_of_ble_eq_true rfl) dX6_undo_32 35 rfl ?_
  refine x_aload_n C dX6_undo_35 rfl 0 rfl 36 rfl ?_
  refine gf_165_0 C dX6_undo_36 39 rfl ?_
  refine gf_94_7 C dX6_undo_39 42 rfl ?_
  cases h
  exact hE _ _ ht 42 _ dX6_undo_42
set_option maxHeartbeats 4000000 in
set_option maxRecDepth 100000 in
theorem w_X6_undo {x : Cx} {g : Gb} {E : Int32 × WD → Prop} (C : CF x g RX6 cX6_undo 1 (rmk 4 106))   {σ : WD} (hE : ∀ (a : Int32) (s2 : WD), E (a, s2) → ∀ pc lv, decode cX6_undo pc = .ok (.ireturn, 1) → WW x g 1 0 0 pc lv [.int a] s2) {t : Int32 × WD} (h : f_X6_undo  σ = some (.inl t)) (ht : E t) : WW x g 1 0 0 0 [(0, .ref (adr g 0))] [] σ := by
  unfold f_X6_undo at h
  refine x_aload_n C dX6_undo_0 rfl 0 rfl 1 rfl ?_
  refine gf_165_0 C dX6_undo_1 4 rfl ?_
  refine gf_94_7 C dX6_undo_4 7 rfl ?_
  refine x_if_ne C dX6_undo_7 20 (by decide) 10 rfl (fun hc => ?_) (fun hc => ?_)
  · have h := iq hc h
    have h := ml_inl h
    exact x_sub [0] rfl (w_X6_undo_20 C  hE h ht)
  · have h := ip hc h
    cases h
set_option maxHeartbeats 4000000 in
set_option maxRecDepth 100000 in
theorem c_X6_undo {g : Gb} {l : Launch}   {σ : WD} {p : Int32 × WD} (h : f_X6_undo  σ = some (.inl p)) : MC l g yX6_undo (.code yX6_undo cX6_undo 1 (some (.int))) (rmk 4 106) [.ref (adr g 0)] σ (some (.int p.1)) p.2 := by
  refine MC.of (by decide) (Nat.le_of_ble_eq_true rfl) (fun x C hl hr hq => ?_)
  subst hl
  exact w_X6_undo (E := fun z => z = p) C  (fun a s2 he pc lv hd => by cases he; exact x_iret C hr hq hd) h rfl
set_option maxHeartbeats 4000000 in
set_option maxRecDepth 100000 in
theorem w_X6_way_10 {x : Cx} {g : Gb} {E : Int32 × WD → Prop} (C : CF x g RX6 cX6_way 2 (rmk 23 590))  {l1 : Int32} {σ : WD} (hE : ∀ (a : Int32) (s2 : WD), E (a, s2) → ∀ pc lv, decode cX6_way pc = .ok (.ireturn, 1) → WW x g 2 0 0 pc lv [.int a] s2) {t : Int32 × WD} (h : f_X6_way_10 l1 σ = some t) (ht : E t) : WW x g 2 0 0 10 [(0, .ref (adr g 0)), (1, .int l1)] [] σ := by
  unfold f_X6_way_10 at h
  refine x_aload_n C dX6_way_10 rfl 0 rfl 11 rfl ?_
  refine gf_166_0 C dX6_way_11 14 rfl ?_
  refine x_iload_n C dX6_way_14 rfl 1 rfl 15 rfl ?_
  obtain ⟨r15, σ15, h15, h⟩ := bn_some h
  refine x_callV C 18 [.int l1] (c_X5_findWay  h15) mi_X5_findWay (gt_18 g _) rfl q_230 rfl ⟨rfl, rfl⟩ ⟨Nat.le_of_ble_eq_true rfl, Nat.le_of_ble_eq_true rfl⟩ ⟨Nat.zero_le _, Nat.zero_le _⟩ _ rfl (Nat.le_of_ble_eq_true rfl) dX6_way_15 18 rfl ?_
  cases h
  exact hE _ _ ht 18 _ dX6_way_18
set_option maxHeartbeats 4000000 in
set_option maxRecDepth 100000 in
theorem w_X6_way {x : Cx} {g : Gb} {E : Int32 × WD → Prop} (C : CF x g RX6 cX6_way 2 (rmk 23 590))  {a1 : Int32} {σ : WD} (hE : ∀ (a : Int32) (s2 : WD), E (a, s2) → ∀ pc lv, decode cX6_way pc = .ok (.ireturn, 1) → WW x g 2 0 0 pc lv [.int a] s2) {t : Int32 × WD} (h : f_X6_way a1 σ = some (.inl t)) (ht : E t) : WW x g 2 0 0 0 [(0, .ref (adr g 0)), (1, .int a1)] [] σ := by
  unfold f_X6_way at h
  refine x_aload_n C dX6_way_0 rfl 0 rfl 1 rfl ?_
  refine x_iload_n C dX6_way_1 rfl 1 rfl 2 rfl ?_
  obtain ⟨p2, h2, h⟩ := bx_inl h
  refine x_callV C 0 [.int a1] (c_X6_requireNode  h2) mi_X6_requireNode (gt_0 g _) rfl q_474 rfl ⟨rfl, rfl⟩ ⟨Nat.le_of_ble_eq_true rfl, Nat.le_of_ble_eq_true rfl⟩ ⟨Nat.zero_le _, Nat.zero_le _⟩ _ rfl (Nat.le_of_ble_eq_true rfl) dX6_way_2 5 rfl ?_
  refine x_aload_n C dX6_way_5 rfl 0 rfl 6 rfl ?_
  refine x_iload_n C dX6_way_6 rfl 1 rfl 7 rfl ?_
  obtain ⟨p7, h7, h⟩ := bx_inl h
  refine x_callV C 0 [.int a1] (c_X6_requireExposed  h7) mi_X6_requireExposed (gt_0 g _) rfl q_525 rfl ⟨rfl, rfl⟩ ⟨Nat.le_of_ble_eq_true rfl, Nat.le_of_ble_eq_true rfl⟩ ⟨Nat.zero_le _, Nat.zero_le _⟩ _ rfl (Nat.le_of_ble_eq_true rfl) dX6_way_7 10 rfl ?_
  have h := ml_inl h
  exact x_sub [0, 1] rfl (w_X6_way_10 C  hE h ht)
set_option maxHeartbeats 4000000 in
set_option maxRecDepth 100000 in
theorem c_X6_way {g : Gb} {l : Launch}  {a1 : Int32} {σ : WD} {p : Int32 × WD} (h : f_X6_way a1 σ = some (.inl p)) : MC l g yX6_way (.code yX6_way cX6_way 2 (some (.int))) (rmk 23 590) [.ref (adr g 0), .int a1] σ (some (.int p.1)) p.2 := by
  refine MC.of (by decide) (Nat.le_of_ble_eq_true rfl) (fun x C hl hr hq => ?_)
  subst hl
  exact w_X6_way (E := fun z => z = p) C  (fun a s2 he pc lv hd => by cases he; exact x_iret C hr hq hd) h rfl
set_option maxHeartbeats 4000000 in
set_option maxRecDepth 100000 in
theorem w_X6_wayNode_10 {x : Cx} {g : Gb} {E : Int32 × WD → Prop} (C : CF x g RX6 cX6_wayNode 4 (rmk 23 590))  {l1 : Int32} {l2 : Int32} {σ : WD} (hE : ∀ (a : Int32) (s2 : WD), E (a, s2) → ∀ pc lv, decode cX6_wayNode pc = .ok (.ireturn, 1) → WW x g 4 0 0 pc lv [.int a] s2) {t : Int32 × WD} (h : f_X6_wayNode_10 l1 l2 σ = some t) (ht : E t) : WW x g 4 0 0 10 [(0, .ref (adr g 0)), (1, .int l1), (2, .int l2)] [] σ := by
  unfold f_X6_wayNode_10 at h
  refine x_aload_n C dX6_wayNode_10 rfl 0 rfl 11 rfl ?_
  refine gf_166_0 C dX6_wayNode_11 14 rfl ?_
  refine x_iload_n C dX6_wayNode_14 rfl 1 rfl 15 rfl ?_
  obtain ⟨r15, σ15, h15, h⟩ := bn_some h
  refine x_callV C 18 [.int l1] (c_X5_findWay  h15) mi_X5_findWay (gt_18 g _) rfl q_230 rfl ⟨rfl, rfl⟩ ⟨Nat.le_of_ble_eq_true rfl, Nat.le_of_ble_eq_true rfl⟩ ⟨Nat.zero_le _, Nat.zero_le _⟩ _ rfl (Nat.le_of_ble_eq_true rfl) dX6_wayNode_15 18 rfl ?_
  refine x_istore_n C [(3, .int r15), (0, .ref (adr g 0)), (1, .int l1), (2, .int l2)] dX6_wayNode_18 rfl (by decide) rfl 19 rfl ?_
  refine x_iload_n C dX6_wayNode_19 rfl 0 rfl 20 rfl ?_
  refine x_if_eq C dX6_wayNode_20 32 (by decide) 23 rfl (fun hc => ?_) (fun hc => ?_)
  · have h := ip hc h
    refine x_iconst C (v := -1) dX6_wayNode_32 (by decide) 33 rfl ?_
    cases h
    exact hE _ _ ht 33 _ dX6_wayNode_33
  · have h := iq hc h
    refine x_iload_n C dX6_wayNode_23 rfl 3 rfl 24 rfl ?_
    refine x_if_lt C dX6_wayNode_24 32 (by decide) 27 rfl (fun hc => ?_) (fun hc => ?_)
    · have h := ip hc h
      refine x_iconst C (v := -1) dX6_wayNode_32 (by decide) 33 rfl ?_
      cases h
      exact hE _ _ ht 33 _ dX6_wayNode_33
    · have h := iq hc h
      refine x_iload_n C dX6_wayNode_27 rfl 3 rfl 28 rfl ?_
      refine x_iload_n C dX6_wayNode_28 rfl 0 rfl 29 rfl ?_
      refine x_icmp_le C dX6_wayNode_29 34 (by decide) 32 rfl (fun hc => ?_) (fun hc => ?_)
      · have h := ip hc h
        refine x_aload_n C dX6_wayNode_34 rfl 1 rfl 35 rfl ?_
        refine gf_166_0 C dX6_wayNode_35 38 rfl ?_
        refine gf_115_18 C dX6_wayNode_38 41 rfl ?_
        refine x_iload_n C dX6_wayNode_41 rfl 3 rfl 42 rfl ?_
        obtain ⟨hin, h⟩ := gi_some h
        refine x_iald C 21 (gt_21 g _) hin dX6_wayNode_42 43 rfl ?_
        cases h
        exact hE _ _ ht 43 _ dX6_wayNode_43
      · have h := iq hc h
        refine x_iconst C (v := -1) dX6_wayNode_32 (by decide) 33 rfl ?_
        cases h
        exact hE _ _ ht 33 _ dX6_wayNode_33
set_option maxHeartbeats 4000000 in
set_option maxRecDepth 100000 in
theorem w_X6_wayNode {x : Cx} {g : Gb} {E : Int32 × WD → Prop} (C : CF x g RX6 cX6_wayNode 4 (rmk 23 590))  {a1 : Int32} {a2 : Int32} {σ : WD} (hE : ∀ (a : Int32) (s2 : WD), E (a, s2) → ∀ pc lv, decode cX6_wayNode pc = .ok (.ireturn, 1) → WW x g 4 0 0 pc lv [.int a] s2) {t : Int32 × WD} (h : f_X6_wayNode a1 a2 σ = some (.inl t)) (ht : E t) : WW x g 4 0 0 0 [(0, .ref (adr g 0)), (1, .int a1), (2, .int a2)] [] σ := by
  unfold f_X6_wayNode at h
  refine x_aload_n C dX6_wayNode_0 rfl 0 rfl 1 rfl ?_
  refine x_iload_n C dX6_wayNode_1 rfl 1 rfl 2 rfl ?_
  obtain ⟨p2, h2, h⟩ := bx_inl h
  refine x_callV C 0 [.int a1] (c_X6_requireNode  h2) mi_X6_requireNode (gt_0 g _) rfl q_474 rfl ⟨rfl, rfl⟩ ⟨Nat.le_of_ble_eq_true rfl, Nat.le_of_ble_eq_true rfl⟩ ⟨Nat.zero_le _, Nat.zero_le _⟩ _ rfl (Nat.le_of_ble_eq_true rfl) dX6_wayNode_2 5 rfl ?_
  refine x_aload_n C dX6_wayNode_5 rfl 0 rfl 6 rfl ?_
  refine x_iload_n C dX6_wayNode_6 rfl 1 rfl 7 rfl ?_
  obtain ⟨p7, h7, h⟩ := bx_inl h
  refine x_callV C 0 [.int a1] (c_X6_requireExposed  h7) mi_X6_requireExposed (gt_0 g _) rfl q_525 rfl ⟨rfl, rfl⟩ ⟨Nat.le_of_ble_eq_true rfl, Nat.le_of_ble_eq_true rfl⟩ ⟨Nat.zero_le _, Nat.zero_le _⟩ _ rfl (Nat.le_of_ble_eq_true rfl) dX6_wayNode_7 10 rfl ?_
  have h := ml_inl h
  exact x_sub [0, 1, 2] rfl (w_X6_wayNode_10 C  hE h ht)
set_option maxHeartbeats 4000000 in
set_option maxRecDepth 100000 in
theorem c_X6_wayNode {g : Gb} {l : Launch}  {a1 : Int32} {a2 : Int32} {σ : WD} {p : Int32 × WD} (h : f_X6_wayNode a1 a2 σ = some (.inl p)) : MC l g yX6_wayNode (.code yX6_wayNode cX6_wayNode 4 (some (.int))) (rmk 23 590) [.ref (adr g 0), .int a1, .int a2] σ (some (.int p.1)) p.2 := by
  refine MC.of (by decide) (Nat.le_of_ble_eq_true rfl) (fun x C hl hr hq => ?_)
  subst hl
  exact w_X6_wayNode (E := fun z => z = p) C  (fun a s2 he pc lv hd => by cases he; exact x_iret C hr hq hd) h rfl
set_option maxHeartbeats 4000000 in
set_option maxRecDepth 100000 in
theorem w_X6_reach_5 {x : Cx} {g : Gb} {E : Int32 × WD → Prop} (C : CF x g RX6 cX6_reach 3 (rmk 4 74))  {l1 : Int32} {l2 : Int32} {σ : WD} (hE : ∀ (a : Int32) (s2 : WD), E (a, s2) → ∀ pc lv, decode cX6_reach pc = .ok (.ireturn, 1) → WW x g 3 0 0 pc lv [.int a] s2) {t : Int32 × WD} (h : f_X6_reach_5 l1 l2 σ = some t) (ht : E t) : WW x g 3 0 0 5 [(0, .ref (adr g 0)), (1, .int l1), (2, .int l2)] [] σ := by
  unfold f_X6_reach_5 at h
  refine x_aload_n C dX6_reach_5 rfl 0 rfl 6 rfl ?_
  refine gf_163_0 C dX6_reach_6 9 rfl ?_
  refine x_iload_n C dX6_reach_9 rfl 1 rfl 10 rfl ?_
  obtain ⟨r10, h10, h⟩ := bv_some h
  refine x_callV C 3 [.int l1] (c_X3_isExposed  h10) mi_X3_isExposed (gt_3 g _) rfl q_222 rfl ⟨rfl, rfl⟩ ⟨Nat.le_of_ble_eq_true rfl, Nat.le_of_ble_eq_true rfl⟩ ⟨Nat.zero_le _, Nat.zero_le _⟩ _ rfl (Nat.le_of_ble_eq_true rfl) dX6_reach_10 13 rfl ?_
  refine x_if_ne C dX6_reach_13 18 (by decide) 16 rfl (fun hc => ?_) (fun hc => ?_)
  · have h := iq hc h
    refine x_aload_n C dX6_reach_18 rfl 0 rfl 19 rfl ?_
    refine gf_166_0 C dX6_reach_19 22 rfl ?_
    refine x_iload_n C dX6_reach_22 rfl 1 rfl 23 rfl ?_
    obtain ⟨σ23, h23, h⟩ := bv_some h
    refine x_callV C 18 [.int l1] (c_X5_findEnds  h23) mi_X5_findEnds (gt_18 g _) rfl q_513 rfl ⟨rfl, rfl⟩ ⟨Nat.le_of_ble_eq_true rfl, Nat.le_of_ble_eq_true rfl⟩ ⟨Nat.zero_le _, Nat.zero_le _⟩ _ rfl (Nat.le_of_ble_eq_true rfl) dX6_reach_23 26 rfl ?_
    refine x_iload_n C dX6_reach_26 rfl 2 rfl 27 rfl ?_
    refine x_if_eq C dX6_reach_27 40 (by decide) 30 rfl (fun hc => ?_) (fun hc => ?_)
    · have h := ip hc h
      refine x_aload_n C dX6_reach_40 rfl 0 rfl 41 rfl ?_
      refine gf_166_0 C dX6_reach_41 44 rfl ?_
      refine gf_119_18 C dX6_reach_44 47 rfl ?_
      cases h
      exact hE _ _ ht 47 _ dX6_reach_47
    · have h := iq hc h
      refine x_aload_n C dX6_reach_30 rfl 0 rfl 31 rfl ?_
      refine gf_166_0 C dX6_reach_31 34 rfl ?_
      refine gf_117_18 C dX6_reach_34 37 rfl ?_
      refine x_goto C dX6_reach_37 47 (by decide) ?_
      cases h
      exact hE _ _ ht 47 _ dX6_reach_47
  · have h := ip hc h
    refine x_iconst C (v := 0) dX6_reach_16 (by decide) 17 rfl ?_
    cases h
    exact hE _ _ ht 17 _ dX6_reach_17
set_option maxHeartbeats 4000000 in
set_option maxRecDepth 100000 in
theorem w_X6_reach {x : Cx} {g : Gb} {E : Int32 × WD → Prop} (C : CF x g RX6 cX6_reach 3 (rmk 4 74))  {a1 : Int32} {a2 : Int32} {σ : WD} (hE : ∀ (a : Int32) (s2 : WD), E (a, s2) → ∀ pc lv, decode cX6_reach pc = .ok (.ireturn, 1) → WW x g 3 0 0 pc lv [.int a] s2) {t : Int32 × WD} (h : f_X6_reach a1 a2 σ = some (.inl t)) (ht : E t) : WW x g 3 0 0 0 [(0, .ref (adr g 0)), (1, .int a1), (2, .int a2)] [] σ := by
  unfold f_X6_reach at h
  refine x_aload_n C dX6_reach_0 rfl 0 rfl 1 rfl ?_
  refine x_iload_n C dX6_reach_1 rfl 1 rfl 2 rfl ?_
  obtain ⟨p2, h2, h⟩ := bx_inl h
  refine x_callV C 0 [.int a1] (c_X6_requireNode  h2) mi_X6_requireNode (gt_0 g _) rfl q_474 rfl ⟨rfl, rfl⟩ ⟨Nat.le_of_ble_eq_true rfl, Nat.le_of_ble_eq_true rfl⟩ ⟨Nat.zero_le _, Nat.zero_le _⟩ _ rfl (Nat.le_of_ble_eq_true rfl) dX6_reach_2 5 rfl ?_
  have h := ml_inl h
  exact x_sub [0, 1, 2] rfl (w_X6_reach_5 C  hE h ht)
set_option maxHeartbeats 4000000 in
set_option maxRecDepth 100000 in
theorem c_X6_reach {g : Gb} {l : Launch}  {a1 : Int32} {a2 : Int32} {σ : WD} {p : Int32 × WD} (h : f_X6_reach a1 a2 σ = some (.inl p)) : MC l g yX6_reach (.code yX6_reach cX6_reach 3 (some (.int))) (rmk 4 74) [.ref (adr g 0), .int a1, .int a2] σ (some (.int p.1)) p.2 := by
  refine MC.of (by decide) (Nat.le_of_ble_eq_true rfl) (fun x C hl hr hq => ?_)
  subst hl
  exact w_X6_reach (E := fun z => z = p) C  (fun a s2 he pc lv hd => by cases he; exact x_iret C hr hq hd) h rfl
set_option maxHeartbeats 4000000 in
set_option maxRecDepth 100000 in
theorem w_X6_oddCycle_b4 {x : Cx} {g : Gb} {E : (Int32 × Int32) ⊕ (Int32) → Prop} (C : CF x g RX6 cX6_oddCycle 4 (rmk 3 49))  {l1 : Int32} {l2 : Int32} {σ : WD} (hI0 : ∀ s, E (.inl s) → WW x g 4 0 0 4 [(0, .ref (adr g 0)), (1, .int s.1), (2, .int s.2)] [] σ) (hE : ∀ (a : Int32), E (.inr a) → ∀ pc lv, decode cX6_oddCycle pc = .ok (.ireturn, 1) → WW x g 4 0 0 pc lv [.int a] σ) {t : (Int32 × Int32) ⊕ (Int32)} (h : f_X6_oddCycle_b4 l1 l2 σ = some t) (ht : E t) : WW x g 4 0 0 4 [(0, .ref (adr g 0)), (1, .int l1), (2, .int l2)] [] σ := by
  unfold f_X6_oddCycle_b4 at h
  refine x_iload_n C dX6_oddCycle_4 rfl 2 rfl 5 rfl ?_
  refine x_aload_n C dX6_oddCycle_5 rfl 0 rfl 6 rfl ?_
  refine gf_162_0 C dX6_oddCycle_6 9 rfl ?_
  refine gf_35_1 C dX6_oddCycle_9 12 rfl ?_
  refine x_icmp_ge C dX6_oddCycle_12 47 (by decide) 15 rfl (fun hc => ?_) (fun hc => ?_)
  · have h := ip hc h
    refine x_iload_n C dX6_oddCycle_47 rfl 1 rfl 48 rfl ?_
    cases h
    exact hE _ ht 48 _ dX6_oddCycle_48
  · have h := iq hc h
    refine x_aload_n C dX6_oddCycle_15 rfl 0 rfl 16 rfl ?_
    refine gf_162_0 C dX6_oddCycle_16 19 rfl ?_
    refine x_iload_n C dX6_oddCycle_19 rfl 2 rfl 20 rfl ?_
    obtain ⟨r20, h20, h⟩ := bv_some h
    refine x_callV C 1 [.int l2] (c_X0_shortestOddWalk  h20) mi_X0_shortestOddWalk (gt_1 g _) rfl q_310 rfl ⟨rfl, rfl⟩ ⟨Nat.le_of_ble_eq_true rfl, Nat.le_of_ble_eq_true rfl⟩ ⟨Nat.zero_le _, Nat.zero_le _⟩ _ rfl (Nat.le_of_ble_eq_true rfl) dX6_oddCycle_20 23 rfl ?_
    refine x_istore_n C [(3, .int r20), (0, .ref (adr g 0)), (1, .int l1), (2, .int l2)] dX6_oddCycle_23 rfl (by decide) rfl 24 rfl ?_
    refine x_iload_n C dX6_oddCycle_24 rfl 0 rfl 25 rfl ?_
    refine x_iconst C (v := -1) dX6_oddCycle_25 (by decide) 26 rfl ?_
    refine x_icmp_eq C dX6_oddCycle_26 41 (by decide) 29 rfl (fun hc => ?_) (fun hc => ?_)
    · have h := ip hc h
      refine x_iinc C [(2, .int (l2 + 1)), (3, .int r20), (0, .ref (adr g 0)), (1, .int l1)] dX6_oddCycle_41 3 rfl rfl (by decide) rfl 44 rfl ?_
      refine x_goto C dX6_oddCycle_44 4 (by decide) ?_
      cases h
      exact x_sub [2, 3, 0] rfl (hI0 (l1, (l2 + 1)) ht)
    · have h := iq hc h
      refine x_iload_n C dX6_oddCycle_29 rfl 2 rfl 30 rfl ?_
      refine x_iconst C (v := -1) dX6_oddCycle_30 (by decide) 31 rfl ?_
      refine x_icmp_eq C dX6_oddCycle_31 39 (by decide) 34 rfl (fun hc => ?_) (fun hc => ?_)
      · have h := ip hc h
        refine x_iload_n C dX6_oddCycle_39 rfl 0 rfl 40 rfl ?_
        refine x_istore_n C [(1, .int r20), (3, .int r20), (0, .ref (adr g 0)), (2, .int l2)] dX6_oddCycle_40 rfl (by decide) rfl 41 rfl ?_
        refine x_iinc C [(2, .int (l2 + 1)), (1, .int r20), (3, .int r20), (0, .ref (adr g 0))] dX6_oddCycle_41 3 rfl rfl (by decide) rfl 44 rfl ?_
        refine x_goto C dX6_oddCycle_44 4 (by decide) ?_
        cases h
        exact x_sub [3, 1, 0] rfl (hI0 (r20, (l2 + 1)) ht)
      · have h := iq hc h
        refine x_iload_n C dX6_oddCycle_34 rfl 0 rfl 35 rfl ?_
        refine x_iload_n C dX6_oddCycle_35 rfl 2 rfl 36 rfl ?_
        refine x_icmp_ge C dX6_oddCycle_36 41 (by decide) 39 rfl (fun hc => ?_) (fun hc => ?_)
        · have h := ip hc h
          refine x_iinc C [(2, .int (l2 + 1)), (3, .int r20), (0, .ref (adr g 0)), (1, .int l1)] dX6_oddCycle_41 3 rfl rfl (by decide) rfl 44 rfl ?_
          refine x_goto C dX6_oddCycle_44 4 (by decide) ?_
          cases h
          exact x_sub [2, 3, 0] rfl (hI0 (l1, (l2 + 1)) ht)
        · have h := iq hc h
          refine x_iload_n C dX6_oddCycle_39 rfl 0 rfl 40 rfl ?_
          refine x_istore_n C [(1, .int r20), (3, .int r20), (0, .ref (adr g 0)), (2, .int l2)] dX6_oddCycle_40 rfl (by decide) rfl 41 rfl ?_
          refine x_iinc C [(2, .int (l2 + 1)), (1, .int r20), (3, .int r20), (0, .ref (adr g 0))] dX6_oddCycle_41 3 rfl rfl (by decide) rfl 44 rfl ?_
          refine x_goto C dX6_oddCycle_44 4 (by decide) ?_
          cases h
          exact x_sub [3, 1, 0] rfl (hI0 (r20, (l2 + 1)) ht)
set_option maxHeartbeats 4000000 in
set_option maxRecDepth 100000 in
theorem w_X6_oddCycle_4 {x : Cx} {g : Gb} {E : Int32 → Prop} (C : CF x g RX6 cX6_oddCycle 4 (rmk 3 49))  {l1 : Int32} {l2 : Int32} {σ : WD} (hE : ∀ (a : Int32), E a → ∀ pc lv, decode cX6_oddCycle pc = .ok (.ireturn, 1) → WW x g 4 0 0 pc lv [.int a] σ) {t : Int32} (h : f_X6_oddCycle_4 l1 l2 σ = some t) (ht : E t) : WW x g 4 0 0 4 [(0, .ref (adr g 0)), (1, .int l1), (2, .int l2)] [] σ := by
  unfold f_X6_oddCycle_4 at h
  exact lp_ind (fun s : Int32 × Int32 => WW x g 4 0 0 4 [(0, .ref (adr g 0)), (1, .int s.1), (2, .int s.2)] [] σ) E h ht (fun s y hb hy => w_X6_oddCycle_b4 (E := Sum.elim (fun s : Int32 × Int32 => WW x g 4 0 0 4 [(0, .ref (adr g 0)), (1, .int s.1), (2, .int s.2)] [] σ) E) C  (fun _ h => h)  hE hb hy)
set_option maxHeartbeats 4000000 in
set_option maxRecDepth 100000 in
theorem w_X6_oddCycle {x : Cx} {g : Gb} {E : Int32 → Prop} (C : CF x g RX6 cX6_oddCycle 4 (rmk 3 49))   {σ : WD} (hE : ∀ (a : Int32), E a → ∀ pc lv, decode cX6_oddCycle pc = .ok (.ireturn, 1) → WW x g 4 0 0 pc lv [.int a] σ) {t : Int32} (h : f_X6_oddCycle  σ = some t) (ht : E t) : WW x g 4 0 0 0 [(0, .ref (adr g 0))] [] σ := by
  unfold f_X6_oddCycle at h
  refine x_iconst C (v := -1) dX6_oddCycle_0 (by decide) 1 rfl ?_
  refine x_istore_n C [(1, .int (-1)), (0, .ref (adr g 0))] dX6_oddCycle_1 rfl (by decide) rfl 2 rfl ?_
  refine x_iconst C (v := 0) dX6_oddCycle_2 (by decide) 3 rfl ?_
  refine x_istore_n C [(2, .int 0), (1, .int (-1)), (0, .ref (adr g 0))] dX6_oddCycle_3 rfl (by decide) rfl 4 rfl ?_
  exact x_sub [2, 1, 0] rfl (w_X6_oddCycle_4 C  hE h ht)
set_option maxHeartbeats 4000000 in
set_option maxRecDepth 100000 in
theorem c_X6_oddCycle {g : Gb} {l : Launch}   {σ : WD} {r : Int32} (h : f_X6_oddCycle  σ = some r) : MC l g yX6_oddCycle (.code yX6_oddCycle cX6_oddCycle 4 (some (.int))) (rmk 3 49) [.ref (adr g 0)] σ (some (.int r)) σ := by
  refine MC.of (by decide) (Nat.le_of_ble_eq_true rfl) (fun x C hl hr hq => ?_)
  subst hl
  exact w_X6_oddCycle (E := fun z => z = r) C  (fun a he pc lv hd => by cases he; exact x_iret C hr hq hd) h rfl
set_option maxHeartbeats 4000000 in
set_option maxRecDepth 100000 in
theorem w_X6_firstMate_5 {x : Cx} {g : Gb} {E : Int32 × WD → Prop} (C : CF x g RX6 cX6_firstMate 2 (rmk 21 597))  {l1 : Int32} {σ : WD} (hE : ∀ (a : Int32) (s2 : WD), E (a, s2) → ∀ pc lv, decode cX6_firstMate pc = .ok (.ireturn, 1) → WW x g 2 0 0 pc lv [.int a] s2) {t : Int32 × WD} (h : f_X6_firstMate_5 l1 σ = some t) (ht : E t) : WW x g 2 0 0 5 [(0, .ref (adr g 0)), (1, .int l1)] [] σ := by
  unfold f_X6_firstMate_5 at h
  refine x_aload_n C dX6_firstMate_5 rfl 0 rfl 6 rfl ?_
  refine gf_167_0 C dX6_firstMate_6 9 rfl ?_
  obtain ⟨σ9, h9, h⟩ := bv_some h
  refine x_callV C 22 [] (c_X4_first  h9) mi_X4_first (gt_22 g _) rfl q_267 rfl ⟨rfl, rfl⟩ ⟨Nat.le_of_ble_eq_true rfl, Nat.le_of_ble_eq_true rfl⟩ ⟨Nat.zero_le _, Nat.zero_le _⟩ _ rfl (Nat.le_of_ble_eq_true rfl) dX6_firstMate_9 12 rfl ?_
  refine gf_63_25 C dX6_firstMate_12 15 rfl ?_
  refine x_iload_n C dX6_firstMate_15 rfl 1 rfl 16 rfl ?_
  obtain ⟨hin, h⟩ := gi_some h
  refine x_iald C 26 (gt_26 g _) hin dX6_firstMate_16 17 rfl ?_
  cases h
  exact hE _ _ ht 17 _ dX6_firstMate_17
set_option maxHeartbeats 4000000 in
set_option maxRecDepth 100000 in
theorem w_X6_firstMate {x : Cx} {g : Gb} {E : Int32 × WD → Prop} (C : CF x g RX6 cX6_firstMate 2 (rmk 21 597))  {a1 : Int32} {σ : WD} (hE : ∀ (a : Int32) (s2 : WD), E (a, s2) → ∀ pc lv, decode cX6_firstMate pc = .ok (.ireturn, 1) → WW x g 2 0 0 pc lv [.int a] s2) {t : Int32 × WD} (h : f_X6_firstMate a1 σ = some (.inl t)) (ht : E t) : WW x g 2 0 0 0 [(0, .ref (adr g 0)), (1, .int a1)] [] σ := by
  unfold f_X6_firstMate at h
  refine x_aload_n C dX6_firstMate_0 rfl 0 rfl 1 rfl ?_
  refine x_iload_n C dX6_firstMate_1 rfl 1 rfl 2 rfl ?_
  obtain ⟨p2, h2, h⟩ := bx_inl h
  refine x_callV C 0 [.int a1] (c_X6_requireNode  h2) mi_X6_requireNode (gt_0 g _) rfl q_474 rfl ⟨rfl, rfl⟩ ⟨Nat.le_of_ble_eq_true rfl, Nat.le_of_ble_eq_true rfl⟩ ⟨Nat.zero_le _, Nat.zero_le _⟩ _ rfl (Nat.le_of_ble_eq_true rfl) dX6_firstMate_2 5 rfl ?_
  have h := ml_inl h
  exact x_sub [0, 1] rfl (w_X6_firstMate_5 C  hE h ht)
set_option maxHeartbeats 4000000 in
set_option maxRecDepth 100000 in
theorem c_X6_firstMate {g : Gb} {l : Launch}  {a1 : Int32} {σ : WD} {p : Int32 × WD} (h : f_X6_firstMate a1 σ = some (.inl p)) : MC l g yX6_firstMate (.code yX6_firstMate cX6_firstMate 2 (some (.int))) (rmk 21 597) [.ref (adr g 0), .int a1] σ (some (.int p.1)) p.2 := by
  refine MC.of (by decide) (Nat.le_of_ble_eq_true rfl) (fun x C hl hr hq => ?_)
  subst hl
  exact w_X6_firstMate (E := fun z => z = p) C  (fun a s2 he pc lv hd => by cases he; exact x_iret C hr hq hd) h rfl
set_option maxHeartbeats 4000000 in
set_option maxRecDepth 100000 in
theorem w_X6_deficiency {x : Cx} {g : Gb} {E : Int32 × WD → Prop} (C : CF x g RX6 cX6_deficiency 1 (rmk 20 570))   {σ : WD} (hE : ∀ (a : Int32) (s2 : WD), E (a, s2) → ∀ pc lv, decode cX6_deficiency pc = .ok (.ireturn, 1) → WW x g 1 0 0 pc lv [.int a] s2) {t : Int32 × WD} (h : f_X6_deficiency  σ = some t) (ht : E t) : WW x g 1 0 0 0 [(0, .ref (adr g 0))] [] σ := by
  unfold f_X6_deficiency at h
  refine x_aload_n C dX6_deficiency_0 rfl 0 rfl 1 rfl ?_
  refine gf_162_0 C dX6_deficiency_1 4 rfl ?_
  refine gf_35_1 C dX6_deficiency_4 7 rfl ?_
  refine x_iconst C (v := 2) dX6_deficiency_7 (by decide) 8 rfl ?_
  refine x_aload_n C dX6_deficiency_8 rfl 0 rfl 9 rfl ?_
  refine gf_167_0 C dX6_deficiency_9 12 rfl ?_
  obtain ⟨r12, σ12, h12, h⟩ := bn_some h
  refine x_callV C 22 [] (c_X4_number  h12) mi_X4_number (gt_22 g _) rfl q_354 rfl ⟨rfl, rfl⟩ ⟨Nat.le_of_ble_eq_true rfl, Nat.le_of_ble_eq_true rfl⟩ ⟨Nat.zero_le _, Nat.zero_le _⟩ _ rfl (Nat.le_of_ble_eq_true rfl) dX6_deficiency_12 15 rfl ?_
  refine x_imul C dX6_deficiency_15 16 rfl ?_
  refine x_isub C dX6_deficiency_16 17 rfl ?_
  cases h
  exact hE _ _ ht 17 _ dX6_deficiency_17
set_option maxHeartbeats 4000000 in
set_option maxRecDepth 100000 in
theorem c_X6_deficiency {g : Gb} {l : Launch}   {σ : WD} {r : Int32} {σ2 : WD} (h : f_X6_deficiency  σ = some (r, σ2)) : MC l g yX6_deficiency (.code yX6_deficiency cX6_deficiency 1 (some (.int))) (rmk 20 570) [.ref (adr g 0)] σ (some (.int r)) σ2 := by
  refine MC.of (by decide) (Nat.le_of_ble_eq_true rfl) (fun x C hl hr hq => ?_)
  subst hl
  exact w_X6_deficiency (E := fun z => z = (r, σ2)) C  (fun a s2 he pc lv hd => by cases he; exact x_iret C hr hq hd) h rfl
set_option maxHeartbeats 4000000 in
set_option maxRecDepth 100000 in
theorem w_X6_isProof {x : Cx} {g : Gb} {E : Int32 × WD → Prop} (C : CF x g RX6 cX6_isProof 3 (rmk 21 591))  {a1 : Int32} {a2 : Int32} {σ : WD} (hE : ∀ (a : Int32) (s2 : WD), E (a, s2) → ∀ pc lv, narrow .boolean (.int a) = .int a → decode cX6_isProof pc = .ok (.ireturn, 1) → WW x g 3 0 0 pc lv [.int a] s2) {t : Int32 × WD} (h : f_X6_isProof a1 a2 σ = some t) (ht : E t) : WW x g 3 0 0 0 [(0, .ref (adr g 0)), (1, .int a1), (2, .int a2)] [] σ := by
  unfold f_X6_isProof at h
  refine x_aload_n C dX6_isProof_0 rfl 0 rfl 1 rfl ?_
  refine gf_162_0 C dX6_isProof_1 4 rfl ?_
  refine x_aload_n C dX6_isProof_4 rfl 0 rfl 5 rfl ?_
  refine gf_162_0 C dX6_isProof_5 8 rfl ?_
  obtain ⟨r8, h8, h⟩ := bv_some h
  refine x_callV C 1 [] (c_X0_all  h8) mi_X0_all (gt_1 g _) rfl q_322 rfl ⟨rfl, rfl⟩ ⟨Nat.le_of_ble_eq_true rfl, Nat.le_of_ble_eq_true rfl⟩ ⟨Nat.zero_le _, Nat.zero_le _⟩ _ rfl (Nat.le_of_ble_eq_true rfl) dX6_isProof_8 11 rfl ?_
  refine x_iload_n C dX6_isProof_11 rfl 1 rfl 12 rfl ?_
  refine x_iconst C (v := -1) dX6_isProof_12 (by decide) 13 rfl ?_
  refine x_ixor C dX6_isProof_13 14 rfl ?_
  refine x_iand C dX6_isProof_14 15 rfl ?_
  refine x_iconst C (v := 1) dX6_isProof_15 (by decide) 16 rfl ?_
  obtain ⟨r16, h16, h⟩ := bv_some h
  refine x_callV C 1 [.int (r8 &&& (a1 ^^^ (-1))), .int 1] (c_X0_pieces  h16) mi_X0_pieces (gt_1 g _) rfl q_337 rfl ⟨rfl, rfl⟩ ⟨Nat.le_of_ble_eq_true rfl, Nat.le_of_ble_eq_true rfl⟩ ⟨Nat.zero_le _, Nat.zero_le _⟩ _ rfl (Nat.le_of_ble_eq_true rfl) dX6_isProof_16 19 rfl ?_
  refine x_iload_n C dX6_isProof_19 rfl 2 rfl 20 rfl ?_
  refine x_aload_n C dX6_isProof_20 rfl 0 rfl 21 rfl ?_
  obtain ⟨r21, σ21, h21, h⟩ := bn_some h
  refine x_callV C 0 [] (c_X6_deficiency  h21) mi_X6_deficiency (gt_0 g _) rfl q_350 rfl ⟨rfl, rfl⟩ ⟨Nat.le_of_ble_eq_true rfl, Nat.le_of_ble_eq_true rfl⟩ ⟨Nat.zero_le _, Nat.zero_le _⟩ _ rfl (Nat.le_of_ble_eq_true rfl) dX6_isProof_21 24 rfl ?_
  refine x_iadd C dX6_isProof_24 25 rfl ?_
  refine x_icmp_ne C dX6_isProof_25 32 (by decide) 28 rfl (fun hc => ?_) (fun hc => ?_)
  · have h := iq hc h
    refine x_iconst C (v := 0) dX6_isProof_32 (by decide) 33 rfl ?_
    cases h
    exact hE _ _ ht 33 _ rfl dX6_isProof_33
  · have h := ip hc h
    refine x_iconst C (v := 1) dX6_isProof_28 (by decide) 29 rfl ?_
    refine x_goto C dX6_isProof_29 33 (by decide) ?_
    cases h
    exact hE _ _ ht 33 _ rfl dX6_isProof_33
set_option maxHeartbeats 4000000 in
set_option maxRecDepth 100000 in
theorem c_X6_isProof {g : Gb} {l : Launch}  {a1 : Int32} {a2 : Int32} {σ : WD} {r : Int32} {σ2 : WD} (h : f_X6_isProof a1 a2 σ = some (r, σ2)) : MC l g yX6_isProof (.code yX6_isProof cX6_isProof 3 (some (.boolean))) (rmk 21 591) [.ref (adr g 0), .int a1, .int a2] σ (some (.int r)) σ2 := by
  refine MC.of (by decide) (Nat.le_of_ble_eq_true rfl) (fun x C hl hr hq => ?_)
  subst hl
  exact w_X6_isProof (E := fun z => z = (r, σ2)) C  (fun a s2 he pc lv hn hd => by cases he; exact x_zret C hr hq hn hd) h rfl
set_option maxHeartbeats 4000000 in
set_option maxRecDepth 100000 in
theorem w_X6_proof_b25 {x : Cx} {g : Gb} {E : (Int32 × Int32 × Int32 × WD) ⊕ (Int32 × WD) → Prop} (C : CF x g RX6 cX6_proof 7 (rmk 22 614))  {l1 : Int32} {l2 : Int32} {l3 : Int32} {l4 : Int32} {l5 : Int32} {σ : WD} (hI0 : ∀ s, E (.inl s) → WW x g 7 0 0 25 [(0, .ref (adr g 0)), (1, .int l1), (2, .int l2), (3, .int s.1), (4, .int s.2.1), (5, .int s.2.2.1)] [] s.2.2.2) (hE : ∀ (a : Int32) (s2 : WD), E (.inr (a, s2)) → ∀ pc lv, decode cX6_proof pc = .ok (.ireturn, 1) → WW x g 7 0 0 pc lv [.int a] s2) {t : (Int32 × Int32 × Int32 × WD) ⊕ (Int32 × WD)} (h : f_X6_proof_b25 l1 l2 l3 l4 l5 σ = some t) (ht : E t) : WW x g 7 0 0 25 [(0, .ref (adr g 0)), (1, .int l1), (2, .int l2), (3, .int l3), (4, .int l4), (5, .int l5)] [] σ := by
  unfold f_X6_proof_b25 at h
  refine x_iload C dX6_proof_25 5 rfl 27 rfl ?_
  refine x_iload_n C dX6_proof_27 rfl 1 rfl 28 rfl ?_
  refine x_icmp_gt C dX6_proof_28 81 (by decide) 31 rfl (fun hc => ?_) (fun hc => ?_)
  · have h := ip hc h
    refine x_iload_n C dX6_proof_81 rfl 3 rfl 82 rfl ?_
    cases h
    exact hE _ _ ht 82 _ dX6_proof_82
  · have h := iq hc h
    refine x_iload C dX6_proof_31 4 rfl 33 rfl ?_
    refine x_if_le C dX6_proof_33 81 (by decide) 36 rfl (fun hc => ?_) (fun hc => ?_)
    · have h := ip hc h
      refine x_iload_n C dX6_proof_81 rfl 3 rfl 82 rfl ?_
      cases h
      exact hE _ _ ht 82 _ dX6_proof_82
    · have h := iq hc h
      refine x_iload C dX6_proof_36 5 rfl 38 rfl ?_
      obtain ⟨r38, h38, h⟩ := bv_some h
      refine x_callS C [.int l5] (c_J6_bitCount_0f7a4  h38) mi_J6_bitCount_0f7a4 q_327 rfl ⟨rfl, rfl⟩ ⟨Nat.le_of_ble_eq_true rfl, Nat.le_of_ble_eq_true rfl⟩ ⟨Nat.zero_le _, Nat.zero_le _⟩ _ rfl (Nat.le_of_ble_eq_true rfl) dX6_proof_38 41 rfl ?_
      refine x_istore C [(6, .int r38), (0, .ref (adr g 0)), (1, .int l1), (2, .int l2), (3, .int l3), (4, .int l4), (5, .int l5)] dX6_proof_41 (by decide) rfl 43 rfl ?_
      refine x_iload C dX6_proof_43 0 rfl 45 rfl ?_
      refine x_iload C dX6_proof_45 5 rfl 47 rfl ?_
      refine x_icmp_ge C dX6_proof_47 75 (by decide) 50 rfl (fun hc => ?_) (fun hc => ?_)
      · have h := ip hc h
        refine x_iinc C [(5, .int (l5 + 1)), (6, .int r38), (0, .ref (adr g 0)), (1, .int l1), (2, .int l2), (3, .int l3), (4, .int l4)] dX6_proof_75 6 rfl rfl (by decide) rfl 78 rfl ?_
        refine x_goto C dX6_proof_78 25 (by decide) ?_
        cases h
        exact x_sub [2, 3, 4, 5, 6, 0] rfl (hI0 (l3, l4, (l5 + 1), σ) ht)
      · have h := iq hc h
        refine x_iload C dX6_proof_50 6 rfl 52 rfl ?_
        refine x_iload_n C dX6_proof_52 rfl 3 rfl 53 rfl ?_
        refine x_iand C dX6_proof_53 54 rfl ?_
        refine x_if_ne C dX6_proof_54 75 (by decide) 57 rfl (fun hc => ?_) (fun hc => ?_)
        · have h := iq hc h
          refine x_iinc C [(5, .int (l5 + 1)), (6, .int r38), (0, .ref (adr g 0)), (1, .int l1), (2, .int l2), (3, .int l3), (4, .int l4)] dX6_proof_75 6 rfl rfl (by decide) rfl 78 rfl ?_
          refine x_goto C dX6_proof_78 25 (by decide) ?_
          cases h
          exact x_sub [2, 3, 4, 5, 6, 0] rfl (hI0 (l3, l4, (l5 + 1), σ) ht)
        · have h := ip hc h
          refine x_aload_n C dX6_proof_57 rfl 1 rfl 58 rfl ?_
          refine x_iload C dX6_proof_58 6 rfl 60 rfl ?_
          refine x_iload C dX6_proof_60 0 rfl 62 rfl ?_
          obtain ⟨r62, σ62, h62, h⟩ := bn_some h
          refine x_callV C 0 [.int l5, .int r38] (c_X6_isProof  h62) mi_X6_isProof (gt_0 g _) rfl q_333 rfl ⟨rfl, rfl⟩ ⟨Nat.le_of_ble_eq_true rfl, Nat.le_of_ble_eq_true rfl⟩ ⟨Nat.zero_le _, Nat.zero_le _⟩ _ rfl (Nat.le_of_ble_eq_true rfl) dX6_proof_62 65 rfl ?_
          refine x_if_eq C dX6_proof_65 75 (by decide) 68 rfl (fun hc => ?_) (fun hc => ?_)
          · have h := ip hc h
            refine x_iinc C [(5, .int (l5 + 1)), (6, .int r38), (0, .ref (adr g 0)), (1, .int l1), (2, .int l2), (3, .int l3), (4, .int l4)] dX6_proof_75 6 rfl rfl (by decide) rfl 78 rfl ?_
            refine x_goto C dX6_proof_78 25 (by decide) ?_
            cases h
            exact x_sub [2, 3, 4, 5, 6, 0] rfl (hI0 (l3, l4, (l5 + 1), σ62) ht)
          · have h := iq hc h
            refine x_iload C dX6_proof_68 6 rfl 70 rfl ?_
            refine x_istore_n C [(3, .int l5), (6, .int r38), (0, .ref (adr g 0)), (1, .int l1), (2, .int l2), (4, .int l4), (5, .int l5)] dX6_proof_70 rfl (by decide) rfl 71 rfl ?_
            refine x_iload C dX6_proof_71 1 rfl 73 rfl ?_
            refine x_istore C [(4, .int r38), (3, .int l5), (6, .int r38), (0, .ref (adr g 0)), (1, .int l1), (2, .int l2), (5, .int l5)] dX6_proof_73 (by decide) rfl 75 rfl ?_
            refine x_iinc C [(5, .int (l5 + 1)), (4, .int r38), (3, .int l5), (6, .int r38), (0, .ref (adr g 0)), (1, .int l1), (2, .int l2)] dX6_proof_75 6 rfl rfl (by decide) rfl 78 rfl ?_
            refine x_goto C dX6_proof_78 25 (by decide) ?_
            cases h
            exact x_sub [4, 5, 6, 2, 1, 0] rfl (hI0 (l5, r38, (l5 + 1), σ62) ht)
set_option maxHeartbeats 4000000 in
set_option maxRecDepth 100000 in
theorem w_X6_proof_25 {x : Cx} {g : Gb} {E : Int32 × WD → Prop} (C : CF x g RX6 cX6_proof 7 (rmk 22 614))  {l1 : Int32} {l2 : Int32} {l3 : Int32} {l4 : Int32} {l5 : Int32} {σ : WD} (hE : ∀ (a : Int32) (s2 : WD), E (a, s2) → ∀ pc lv, decode cX6_proof pc = .ok (.ireturn, 1) → WW x g 7 0 0 pc lv [.int a] s2) {t : Int32 × WD} (h : f_X6_proof_25 l1 l2 l3 l4 l5 σ = some t) (ht : E t) : WW x g 7 0 0 25 [(0, .ref (adr g 0)), (1, .int l1), (2, .int l2), (3, .int l3), (4, .int l4), (5, .int l5)] [] σ := by
  unfold f_X6_proof_25 at h
  exact lp_ind (fun s : Int32 × Int32 × Int32 × WD => WW x g 7 0 0 25 [(0, .ref (adr g 0)), (1, .int l1), (2, .int l2), (3, .int s.1), (4, .int s.2.1), (5, .int s.2.2.1)] [] s.2.2.2) E h ht (fun s y hb hy => w_X6_proof_b25 (E := Sum.elim (fun s : Int32 × Int32 × Int32 × WD => WW x g 7 0 0 25 [(0, .ref (adr g 0)), (1, .int l1), (2, .int l2), (3, .int s.1), (4, .int s.2.1), (5, .int s.2.2.1)] [] s.2.2.2) E) C  (fun _ h => h)  hE hb hy)
set_option maxHeartbeats 4000000 in
set_option maxRecDepth 100000 in
theorem w_X6_proof {x : Cx} {g : Gb} {E : Int32 × WD → Prop} (C : CF x g RX6 cX6_proof 7 (rmk 22 614))   {σ : WD} (hE : ∀ (a : Int32) (s2 : WD), E (a, s2) → ∀ pc lv, decode cX6_proof pc = .ok (.ireturn, 1) → WW x g 7 0 0 pc lv [.int a] s2) {t : Int32 × WD} (h : f_X6_proof  σ = some t) (ht : E t) : WW x g 7 0 0 0 [(0, .ref (adr g 0))] [] σ := by
  unfold f_X6_proof at h
  refine x_aload_n C dX6_proof_0 rfl 0 rfl 1 rfl ?_
  refine gf_162_0 C dX6_proof_1 4 rfl ?_
  obtain ⟨r4, h4, h⟩ := bv_some h
  refine x_callV C 1 [] (c_X0_all  h4) mi_X0_all (gt_1 g _) rfl q_322 rfl ⟨rfl, rfl⟩ ⟨Nat.le_of_ble_eq_true rfl, Nat.le_of_ble_eq_true rfl⟩ ⟨Nat.zero_le _, Nat.zero_le _⟩ _ rfl (Nat.le_of_ble_eq_true rfl) dX6_proof_4 7 rfl ?_
  refine x_istore_n C [(1, .int r4), (0, .ref (adr g 0))] dX6_proof_7 rfl (by decide) rfl 8 rfl ?_
  refine x_aload_n C dX6_proof_8 rfl 1 rfl 9 rfl ?_
  refine gf_167_0 C dX6_proof_9 12 rfl ?_
  obtain ⟨r12, σ12, h12, h⟩ := bn_some h
  refine x_callV C 22 [] (c_X4_exposable  h12) mi_X4_exposable (gt_22 g _) rfl q_323 rfl ⟨rfl, rfl⟩ ⟨Nat.le_of_ble_eq_true rfl, Nat.le_of_ble_eq_true rfl⟩ ⟨Nat.zero_le _, Nat.zero_le _⟩ _ rfl (Nat.le_of_ble_eq_true rfl) dX6_proof_12 15 rfl ?_
  refine x_istore_n C [(2, .int r12), (1, .int r4), (0, .ref (adr g 0))] dX6_proof_15 rfl (by decide) rfl 16 rfl ?_
  refine x_iconst C (v := 0) dX6_proof_16 (by decide) 17 rfl ?_
  refine x_istore_n C [(3, .int 0), (2, .int r12), (1, .int r4), (0, .ref (adr g 0))] dX6_proof_17 rfl (by decide) rfl 18 rfl ?_
  refine x_bipush C (v := 13) dX6_proof_18 (by decide) 20 rfl ?_
  refine x_istore C [(4, .int 13), (3, .int 0), (2, .int r12), (1, .int r4), (0, .ref (adr g 0))] dX6_proof_20 (by decide) rfl 22 rfl ?_
  refine x_iconst C (v := 0) dX6_proof_22 (by decide) 23 rfl ?_
  refine x_istore C [(5, .int 0), (4, .int 13), (3, .int 0), (2, .int r12), (1, .int r4), (0, .ref (adr g 0))] dX6_proof_23 (by decide) rfl 25 rfl ?_
  exact x_sub [5, 4, 3, 2, 1, 0] rfl (w_X6_proof_25 C  hE h ht)
set_option maxHeartbeats 4000000 in
set_option maxRecDepth 100000 in
theorem c_X6_proof {g : Gb} {l : Launch}   {σ : WD} {r : Int32} {σ2 : WD} (h : f_X6_proof  σ = some (r, σ2)) : MC l g yX6_proof (.code yX6_proof cX6_proof 7 (some (.int))) (rmk 22 614) [.ref (adr g 0)] σ (some (.int r)) σ2 := by
  refine MC.of (by decide) (Nat.le_of_ble_eq_true rfl) (fun x C hl hr hq => ?_)
  subst hl
  exact w_X6_proof (E := fun z => z = (r, σ2)) C  (fun a s2 he pc lv hd => by cases he; exact x_iret C hr hq hd) h rfl
set_option maxHeartbeats 4000000 in
set_option maxRecDepth 100000 in
theorem w_X6_components_15 {x : Cx} {g : Gb} {E : Int32 → Prop} (C : CF x g RX6 cX6_components 3 (rmk 4 78))   {σ : WD} (hE : ∀ (a : Int32), E a → ∀ pc lv, decode cX6_components pc = .ok (.ireturn, 1) → WW x g 3 0 0 pc lv [.int a] σ) {t : Int32} (h : f_X6_components_15  σ = some (.inl t)) (ht : E t) : WW x g 3 0 0 15 [] [] σ := by
  unfold f_X6_components_15 at h
  cases h
set_option maxHeartbeats 4000000 in
set_option maxRecDepth 100000 in
theorem w_X6_components_25 {x : Cx} {g : Gb} {E : Int32 → Prop} (C : CF x g RX6 cX6_components 3 (rmk 4 78))  {l1 : Int32} {l2 : Int32} {σ : WD} (hE : ∀ (a : Int32), E a → ∀ pc lv, decode cX6_components pc = .ok (.ireturn, 1) → WW x g 3 0 0 pc lv [.int a] σ) {t : Int32} (h : f_X6_components_25 l1 l2 σ = some t) (ht : E t) : WW x g 3 0 0 25 [(0, .ref (adr g 0)), (1, .int l1), (2, .int l2)] [] σ := by
  unfold f_X6_components_25 at h
  refine x_aload_n C dX6_components_25 rfl 0 rfl 26 rfl ?_
  refine gf_162_0 C dX6_components_26 29 rfl ?_
  refine x_aload_n C dX6_components_29 rfl 0 rfl 30 rfl ?_
  refine gf_162_0 C dX6_components_30 33 rfl ?_
  obtain ⟨r33, h33, h⟩ := bv_some h
  refine x_callV C 1 [] (c_X0_all  h33) mi_X0_all (gt_1 g _) rfl q_322 rfl ⟨rfl, rfl⟩ ⟨Nat.le_of_ble_eq_true rfl, Nat.le_of_ble_eq_true rfl⟩ ⟨Nat.zero_le _, Nat.zero_le _⟩ _ rfl (Nat.le_of_ble_eq_true rfl) dX6_components_33 36 rfl ?_
  refine x_iload_n C dX6_components_36 rfl 1 rfl 37 rfl ?_
  refine x_iconst C (v := -1) dX6_components_37 (by decide) 38 rfl ?_
  refine x_ixor C dX6_components_38 39 rfl ?_
  refine x_iand C dX6_components_39 40 rfl ?_
  refine x_iload_n C dX6_components_40 rfl 2 rfl 41 rfl ?_
  obtain ⟨r41, h41, h⟩ := bv_some h
  refine x_callV C 1 [.int (r33 &&& (l1 ^^^ (-1))), .int l2] (c_X0_pieces  h41) mi_X0_pieces (gt_1 g _) rfl q_337 rfl ⟨rfl, rfl⟩ ⟨Nat.le_of_ble_eq_true rfl, Nat.le_of_ble_eq_true rfl⟩ ⟨Nat.zero_le _, Nat.zero_le _⟩ _ rfl (Nat.le_of_ble_eq_true rfl) dX6_components_41 44 rfl ?_
  cases h
  exact hE _ ht 44 _ dX6_components_44
set_option maxHeartbeats 4000000 in
set_option maxRecDepth 100000 in
theorem w_X6_components {x : Cx} {g : Gb} {E : Int32 → Prop} (C : CF x g RX6 cX6_components 3 (rmk 4 78))  {a1 : Int32} {a2 : Int32} {σ : WD} (hE : ∀ (a : Int32), E a → ∀ pc lv, decode cX6_components pc = .ok (.ireturn, 1) → WW x g 3 0 0 pc lv [.int a] σ) {t : Int32} (h : f_X6_components a1 a2 σ = some (.inl t)) (ht : E t) : WW x g 3 0 0 0 [(0, .ref (adr g 0)), (1, .int a1), (2, .int a2)] [] σ := by
  unfold f_X6_components at h
  refine x_iload_n C dX6_components_0 rfl 1 rfl 1 rfl ?_
  refine x_if_lt C dX6_components_1 15 (by decide) 4 rfl (fun hc => ?_) (fun hc => ?_)
  · have h := ip hc h
    exact x_sub [] rfl (w_X6_components_15 C  hE h ht)
  · have h := iq hc h
    refine x_iload_n C dX6_components_4 rfl 1 rfl 5 rfl ?_
    refine x_aload_n C dX6_components_5 rfl 0 rfl 6 rfl ?_
    refine gf_162_0 C dX6_components_6 9 rfl ?_
    obtain ⟨r9, h9, h⟩ := bv_some h
    refine x_callV C 1 [] (c_X0_all  h9) mi_X0_all (gt_1 g _) rfl q_322 rfl ⟨rfl, rfl⟩ ⟨Nat.le_of_ble_eq_true rfl, Nat.le_of_ble_eq_true rfl⟩ ⟨Nat.zero_le _, Nat.zero_le _⟩ _ rfl (Nat.le_of_ble_eq_true rfl) dX6_components_9 12 rfl ?_
    refine x_icmp_le C dX6_components_12 25 (by decide) 15 rfl (fun hc => ?_) (fun hc => ?_)
    · have h := ip hc h
      have h := ml_inl h
      exact x_sub [0, 1, 2] rfl (w_X6_components_25 C  hE h ht)
    · have h := iq hc h
      exact x_sub [] rfl (w_X6_components_15 C  hE h ht)
set_option maxHeartbeats 4000000 in
set_option maxRecDepth 100000 in
theorem c_X6_components {g : Gb} {l : Launch}  {a1 : Int32} {a2 : Int32} {σ : WD} {p : Int32} (h : f_X6_components a1 a2 σ = some (.inl p)) : MC l g yX6_components (.code yX6_components cX6_components 3 (some (.int))) (rmk 4 78) [.ref (adr g 0), .int a1, .int a2] σ (some (.int p)) σ := by
  refine MC.of (by decide) (Nat.le_of_ble_eq_true rfl) (fun x C hl hr hq => ?_)
  subst hl
  exact w_X6_components (E := fun z => z = p) C  (fun a he pc lv hd => by cases he; exact x_iret C hr hq hd) h rfl
set_option maxHeartbeats 4000000 in
set_option maxRecDepth 100000 in
theorem w_X6_ifChanged_15 {x : Cx} {g : Gb} {E : Int32 × WD → Prop} (C : CF x g RX6 cX6_ifChanged 4 (rmk 20 574))  {l1 : Int32} {l2 : Int32} {σ : WD} (hE : ∀ (a : Int32) (s2 : WD), E (a, s2) → ∀ pc lv, decode cX6_ifChanged pc = .ok (.ireturn, 1) → WW x g 4 0 0 pc lv [.int a] s2) {t : Int32 × WD} (h : f_X6_ifChanged_15 l1 l2 σ = some t) (ht : E t) : WW x g 4 0 0 15 [(0, .ref (adr g 0)), (1, .int l1), (2, .int l2)] [] σ := by
  unfold f_X6_ifChanged_15 at h
  refine x_aload_n C dX6_ifChanged_15 rfl 0 rfl 16 rfl ?_
  refine gf_167_0 C dX6_ifChanged_16 19 rfl ?_
  obtain ⟨r19, σ19, h19, h⟩ := bn_some h
  refine x_callV C 22 [] (c_X4_number  h19) mi_X4_number (gt_22 g _) rfl q_354 rfl ⟨rfl, rfl⟩ ⟨Nat.le_of_ble_eq_true rfl, Nat.le_of_ble_eq_true rfl⟩ ⟨Nat.zero_le _, Nat.zero_le _⟩ _ rfl (Nat.le_of_ble_eq_true rfl) dX6_ifChanged_19 22 rfl ?_
  refine x_istore_n C [(3, .int r19), (0, .ref (adr g 0)), (1, .int l1), (2, .int l2)] dX6_ifChanged_22 rfl (by decide) rfl 23 rfl ?_
  refine x_aload_n C dX6_ifChanged_23 rfl 1 rfl 24 rfl ?_
  refine gf_162_0 C dX6_ifChanged_24 27 rfl ?_
  refine x_iload_n C dX6_ifChanged_27 rfl 2 rfl 28 rfl ?_
  refine x_iload_n C dX6_ifChanged_28 rfl 3 rfl 29 rfl ?_
  obtain ⟨r29, h29, h⟩ := bv_some h
  refine x_callV C 1 [.int l1, .int l2] (c_X0_joined  h29) mi_X0_joined (gt_1 g _) rfl q_553 rfl ⟨rfl, rfl⟩ ⟨Nat.le_of_ble_eq_true rfl, Nat.le_of_ble_eq_true rfl⟩ ⟨Nat.zero_le _, Nat.zero_le _⟩ _ rfl (Nat.le_of_ble_eq_true rfl) dX6_ifChanged_29 32 rfl ?_
  refine x_if_eq C dX6_ifChanged_32 62 (by decide) 35 rfl (fun hc => ?_) (fun hc => ?_)
  · have h := ip hc h
    refine x_iload_n C dX6_ifChanged_62 rfl 0 rfl 63 rfl ?_
    refine x_aload_n C dX6_ifChanged_63 rfl 1 rfl 64 rfl ?_
    refine gf_167_0 C dX6_ifChanged_64 67 rfl ?_
    refine x_iload_n C dX6_ifChanged_67 rfl 2 rfl 68 rfl ?_
    refine x_iload_n C dX6_ifChanged_68 rfl 3 rfl 69 rfl ?_
    obtain ⟨r69, σ69, h69, h⟩ := bn_some h
    refine x_callV C 22 [.int l1, .int l2] (c_X4_numberWithout  h69) mi_X4_numberWithout (gt_22 g _) rfl q_725 rfl ⟨rfl, rfl⟩ ⟨Nat.le_of_ble_eq_true rfl, Nat.le_of_ble_eq_true rfl⟩ ⟨Nat.zero_le _, Nat.zero_le _⟩ _ rfl (Nat.le_of_ble_eq_true rfl) dX6_ifChanged_69 72 rfl ?_
    refine x_iconst C (v := 1) dX6_ifChanged_72 (by decide) 73 rfl ?_
    refine x_iadd C dX6_ifChanged_73 74 rfl ?_
    refine x_mmax C q_729 q_730 q_16 q_731 (Nat.le_of_ble_eq_true rfl) (Nat.le_of_ble_eq_true rfl) ⟨Nat.zero_le _, Nat.zero_le _⟩ dX6_ifChanged_74 77 rfl ?_
    cases h
    exact hE _ _ ht 77 _ dX6_ifChanged_77
  · have h := iq hc h
    refine x_aload_n C dX6_ifChanged_35 rfl 1 rfl 36 rfl ?_
    refine gf_167_0 C dX6_ifChanged_36 39 rfl ?_
    refine x_iload_n C dX6_ifChanged_39 rfl 2 rfl 40 rfl ?_
    refine x_iload_n C dX6_ifChanged_40 rfl 3 rfl 41 rfl ?_
    obtain ⟨r41, σ41, h41, h⟩ := bn_some h
    refine x_callV C 22 [.int l1, .int l2] (c_X4_having  h41) mi_X4_having (gt_22 g _) rfl q_370 rfl ⟨rfl, rfl⟩ ⟨Nat.le_of_ble_eq_true rfl, Nat.le_of_ble_eq_true rfl⟩ ⟨Nat.zero_le _, Nat.zero_le _⟩ _ rfl (Nat.le_of_ble_eq_true rfl) dX6_ifChanged_41 44 rfl ?_
    refine x_aload_n C dX6_ifChanged_44 rfl 1 rfl 45 rfl ?_
    refine gf_167_0 C dX6_ifChanged_45 48 rfl ?_
    obtain ⟨r48, σ48, h48, h⟩ := bn_some h
    refine x_callV C 22 [] (c_X4_howMany  h48) mi_X4_howMany (gt_22 g _) rfl q_366 rfl ⟨rfl, rfl⟩ ⟨Nat.le_of_ble_eq_true rfl, Nat.le_of_ble_eq_true rfl⟩ ⟨Nat.zero_le _, Nat.zero_le _⟩ _ rfl (Nat.le_of_ble_eq_true rfl) dX6_ifChanged_48 51 rfl ?_
    refine x_icmp_ne C dX6_ifChanged_51 60 (by decide) 54 rfl (fun hc => ?_) (fun hc => ?_)
    · have h := iq hc h
      refine x_iload_n C dX6_ifChanged_60 rfl 0 rfl 61 rfl ?_
      cases h
      exact hE _ _ ht 61 _ dX6_ifChanged_61
    · have h := ip hc h
      refine x_iload_n C dX6_ifChanged_54 rfl 0 rfl 55 rfl ?_
      refine x_iconst C (v := 1) dX6_ifChanged_55 (by decide) 56 rfl ?_
      refine x_isub C dX6_ifChanged_56 57 rfl ?_
      refine x_goto C dX6_ifChanged_57 61 (by decide) ?_
      cases h
      exact hE _ _ ht 61 _ dX6_ifChanged_61
set_option maxHeartbeats 4000000 in
set_option maxRecDepth 100000 in
theorem w_X6_ifChanged {x : Cx} {g : Gb} {E : Int32 × WD → Prop} (C : CF x g RX6 cX6_ifChanged 4 (rmk 20 574))  {a1 : Int32} {a2 : Int32} {σ : WD} (hE : ∀ (a : Int32) (s2 : WD), E (a, s2) → ∀ pc lv, decode cX6_ifChanged pc = .ok (.ireturn, 1) → WW x g 4 0 0 pc lv [.int a] s2) {t : Int32 × WD} (h : f_X6_ifChanged a1 a2 σ = some (.inl t)) (ht : E t) : WW x g 4 0 0 0 [(0, .ref (adr g 0)), (1, .int a1), (2, .int a2)] [] σ := by
  unfold f_X6_ifChanged at h
  refine x_aload_n C dX6_ifChanged_0 rfl 0 rfl 1 rfl ?_
  refine x_iload_n C dX6_ifChanged_1 rfl 1 rfl 2 rfl ?_
  obtain ⟨p2, h2, h⟩ := bx_inl h
  refine x_callV C 0 [.int a1] (c_X6_requireNode  h2) mi_X6_requireNode (gt_0 g _) rfl q_474 rfl ⟨rfl, rfl⟩ ⟨Nat.le_of_ble_eq_true rfl, Nat.le_of_ble_eq_true rfl⟩ ⟨Nat.zero_le _, Nat.zero_le _⟩ _ rfl (Nat.le_of_ble_eq_true rfl) dX6_ifChanged_2 5 rfl ?_
  refine x_aload_n C dX6_ifChanged_5 rfl 0 rfl 6 rfl ?_
  refine x_iload_n C dX6_ifChanged_6 rfl 2 rfl 7 rfl ?_
  obtain ⟨p7, h7, h⟩ := bx_inl h
  refine x_callV C 0 [.int a2] (c_X6_requireNode  h7) mi_X6_requireNode (gt_0 g _) rfl q_474 rfl ⟨rfl, rfl⟩ ⟨Nat.le_of_ble_eq_true rfl, Nat.le_of_ble_eq_true rfl⟩ ⟨Nat.zero_le _, Nat.zero_le _⟩ _ rfl (Nat.le_of_ble_eq_true rfl) dX6_ifChanged_7 10 rfl ?_
  refine x_iload_n C dX6_ifChanged_10 rfl 1 rfl 11 rfl ?_
  refine x_iload_n C dX6_ifChanged_11 rfl 2 rfl 12 rfl ?_
  obtain ⟨p12, h12, h⟩ := bx_inl h
  refine x_callS C [.int a1, .int a2] (c_X6_requireDifferent  h12) mi_X6_requireDifferent q_606 rfl ⟨rfl, rfl⟩ ⟨Nat.le_of_ble_eq_true rfl, Nat.le_of_ble_eq_true rfl⟩ ⟨Nat.zero_le _, Nat.zero_le _⟩ _ rfl (Nat.le_of_ble_eq_true rfl) dX6_ifChanged_12 15 rfl ?_
  have h := ml_inl h
  exact x_sub [0, 1, 2] rfl (w_X6_ifChanged_15 C  hE h ht)
set_option maxHeartbeats 4000000 in
set_option maxRecDepth 100000 in
theorem c_X6_ifChanged {g : Gb} {l : Launch}  {a1 : Int32} {a2 : Int32} {σ : WD} {p : Int32 × WD} (h : f_X6_ifChanged a1 a2 σ = some (.inl p)) : MC l g yX6_ifChanged (.code yX6_ifChanged cX6_ifChanged 4 (some (.int))) (rmk 20 574) [.ref (adr g 0), .int a1, .int a2] σ (some (.int p.1)) p.2 := by
  refine MC.of (by decide) (Nat.le_of_ble_eq_true rfl) (fun x C hl hr hq => ?_)
  subst hl
  exact w_X6_ifChanged (E := fun z => z = p) C  (fun a s2 he pc lv hd => by cases he; exact x_iret C hr hq hd) h rfl
set_option maxHeartbeats 4000000 in
set_option maxRecDepth 100000 in
theorem w_X6_partOf {x : Cx} {g : Gb} {E : Int32 × WD → Prop} (C : CF x g RX6 cX6_partOf 3 (rmk 20 573))  {a1 : Int32} {σ : WD} (hE : ∀ (a : Int32) (s2 : WD), E (a, s2) → ∀ pc lv, decode cX6_partOf pc = .ok (.ireturn, 1) → WW x g 3 0 0 pc lv [.int a] s2) {t : Int32 × WD} (h : f_X6_partOf a1 σ = some t) (ht : E t) : WW x g 3 0 0 0 [(0, .ref (adr g 0)), (1, .int a1)] [] σ := by
  unfold f_X6_partOf at h
  refine x_aload_n C dX6_partOf_0 rfl 0 rfl 1 rfl ?_
  refine gf_167_0 C dX6_partOf_1 4 rfl ?_
  obtain ⟨r4, σ4, h4, h⟩ := bn_some h
  refine x_callV C 22 [] (c_X4_exposable  h4) mi_X4_exposable (gt_22 g _) rfl q_323 rfl ⟨rfl, rfl⟩ ⟨Nat.le_of_ble_eq_true rfl, Nat.le_of_ble_eq_true rfl⟩ ⟨Nat.zero_le _, Nat.zero_le _⟩ _ rfl (Nat.le_of_ble_eq_true rfl) dX6_partOf_4 7 rfl ?_
  refine x_istore_n C [(2, .int r4), (0, .ref (adr g 0)), (1, .int a1)] dX6_partOf_7 rfl (by decide) rfl 8 rfl ?_
  refine x_iload_n C dX6_partOf_8 rfl 0 rfl 9 rfl ?_
  refine x_iload_n C dX6_partOf_9 rfl 2 rfl 10 rfl ?_
  refine x_ishr C dX6_partOf_10 11 rfl ?_
  refine x_iconst C (v := 1) dX6_partOf_11 (by decide) 12 rfl ?_
  refine x_iand C dX6_partOf_12 13 rfl ?_
  refine x_if_eq C dX6_partOf_13 18 (by decide) 16 rfl (fun hc => ?_) (fun hc => ?_)
  · have h := ip hc h
    refine x_iload_n C dX6_partOf_18 rfl 0 rfl 19 rfl ?_
    refine x_aload_n C dX6_partOf_19 rfl 1 rfl 20 rfl ?_
    refine gf_162_0 C dX6_partOf_20 23 rfl ?_
    refine gf_40_1 C dX6_partOf_23 26 rfl ?_
    refine x_iload_n C dX6_partOf_26 rfl 2 rfl 27 rfl ?_
    obtain ⟨hin, h⟩ := gi_some h
    refine x_iald C 2 (gt_2 g _) hin dX6_partOf_27 28 rfl ?_
    refine x_iand C dX6_partOf_28 29 rfl ?_
    refine x_if_eq C dX6_partOf_29 36 (by decide) 32 rfl (fun hc => ?_) (fun hc => ?_)
    · have h := ip hc h
      refine x_iconst C (v := 2) dX6_partOf_36 (by decide) 37 rfl ?_
      cases h
      exact hE _ _ ht 37 _ dX6_partOf_37
    · have h := iq hc h
      refine x_iconst C (v := 1) dX6_partOf_32 (by decide) 33 rfl ?_
      refine x_goto C dX6_partOf_33 37 (by decide) ?_
      cases h
      exact hE _ _ ht 37 _ dX6_partOf_37
  · have h := iq hc h
    refine x_iconst C (v := 0) dX6_partOf_16 (by decide) 17 rfl ?_
    cases h
    exact hE _ _ ht 17 _ dX6_partOf_17
set_option maxHeartbeats 4000000 in
set_option maxRecDepth 100000 in
theorem c_X6_partOf {g : Gb} {l : Launch}  {a1 : Int32} {σ : WD} {r : Int32} {σ2 : WD} (h : f_X6_partOf a1 σ = some (r, σ2)) : MC l g yX6_partOf (.code yX6_partOf cX6_partOf 3 (some (.int))) (rmk 20 573) [.ref (adr g 0), .int a1] σ (some (.int r)) σ2 := by
  refine MC.of (by decide) (Nat.le_of_ble_eq_true rfl) (fun x C hl hr hq => ?_)
  subst hl
  exact w_X6_partOf (E := fun z => z = (r, σ2)) C  (fun a s2 he pc lv hd => by cases he; exact x_iret C hr hq hd) h rfl
set_option maxHeartbeats 4000000 in
set_option maxRecDepth 100000 in
theorem w_X6_node_40 {x : Cx} {g : Gb} {E : Int32 × WD → Prop} (C : CF x g RX6 cX6_node 3 (rmk 21 596))  {l1 : Int32} {σ : WD} (hE : ∀ (a : Int32) (s2 : WD), E (a, s2) → ∀ pc lv, decode cX6_node pc = .ok (.ireturn, 1) → WW x g 3 0 0 pc lv [.int a] s2) {t : Int32 × WD} (h : f_X6_node_40 l1 σ = some t) (ht : E t) : WW x g 3 0 0 40 [(0, .ref (adr g 0)), (1, .int l1)] [] σ := by
  unfold f_X6_node_40 at h
  refine x_aload_n C dX6_node_40 rfl 0 rfl 41 rfl ?_
  refine gf_162_0 C dX6_node_41 44 rfl ?_
  refine gf_40_1 C dX6_node_44 47 rfl ?_
  refine x_iload_n C dX6_node_47 rfl 1 rfl 48 rfl ?_
  obtain ⟨hin, h⟩ := gi_some h
  refine x_iald C 2 (gt_2 g _) hin dX6_node_48 49 rfl ?_
  obtain ⟨r49, h49, h⟩ := bv_some h
  refine x_callS C [.int (σ.1 2 (l1 : Int32).toNatClampNeg)] (c_J6_bitCount_0f7a4  h49) mi_J6_bitCount_0f7a4 q_327 rfl ⟨rfl, rfl⟩ ⟨Nat.le_of_ble_eq_true rfl, Nat.le_of_ble_eq_true rfl⟩ ⟨Nat.zero_le _, Nat.zero_le _⟩ _ rfl (Nat.le_of_ble_eq_true rfl) dX6_node_49 52 rfl ?_
  cases h
  exact hE _ _ ht 52 _ dX6_node_52
set_option maxHeartbeats 4000000 in
set_option maxRecDepth 100000 in
theorem w_X6_node_53 {x : Cx} {g : Gb} {E : Int32 × WD → Prop} (C : CF x g RX6 cX6_node 3 (rmk 21 596))  {l1 : Int32} {σ : WD} (hE : ∀ (a : Int32) (s2 : WD), E (a, s2) → ∀ pc lv, decode cX6_node pc = .ok (.ireturn, 1) → WW x g 3 0 0 pc lv [.int a] s2) {t : Int32 × WD} (h : f_X6_node_53 l1 σ = some t) (ht : E t) : WW x g 3 0 0 53 [(0, .ref (adr g 0)), (1, .int l1)] [] σ := by
  unfold f_X6_node_53 at h
  refine x_aload_n C dX6_node_53 rfl 0 rfl 54 rfl ?_
  refine gf_163_0 C dX6_node_54 57 rfl ?_
  refine gf_63_3 C dX6_node_57 60 rfl ?_
  refine x_iload_n C dX6_node_60 rfl 1 rfl 61 rfl ?_
  obtain ⟨hin, h⟩ := gi_some h
  refine x_iald C 4 (gt_4 g _) hin dX6_node_61 62 rfl ?_
  cases h
  exact hE _ _ ht 62 _ dX6_node_62
set_option maxHeartbeats 4000000 in
set_option maxRecDepth 100000 in
theorem w_X6_node_63 {x : Cx} {g : Gb} {E : Int32 × WD → Prop} (C : CF x g RX6 cX6_node 3 (rmk 21 596))  {l1 : Int32} {σ : WD} (hE : ∀ (a : Int32) (s2 : WD), E (a, s2) → ∀ pc lv, decode cX6_node pc = .ok (.ireturn, 1) → WW x g 3 0 0 pc lv [.int a] s2) {t : Int32 × WD} (h : f_X6_node_63 l1 σ = some t) (ht : E t) : WW x g 3 0 0 63 [(0, .ref (adr g 0)), (1, .int l1)] [] σ := by
  unfold f_X6_node_63 at h
  refine x_aload_n C dX6_node_63 rfl 0 rfl 64 rfl ?_
  refine x_iload_n C dX6_node_64 rfl 1 rfl 65 rfl ?_
  obtain ⟨r65, σ65, h65, h⟩ := bn_some h
  refine x_callV C 0 [.int l1] (c_X6_partOf  h65) mi_X6_partOf (gt_0 g _) rfl q_494 rfl ⟨rfl, rfl⟩ ⟨Nat.le_of_ble_eq_true rfl, Nat.le_of_ble_eq_true rfl⟩ ⟨Nat.zero_le _, Nat.zero_le _⟩ _ rfl (Nat.le_of_ble_eq_true rfl) dX6_node_65 68 rfl ?_
  cases h
  exact hE _ _ ht 68 _ dX6_node_68
set_option maxHeartbeats 4000000 in
set_option maxRecDepth 100000 in
theorem w_X6_node_69 {x : Cx} {g : Gb} {E : Int32 × WD → Prop} (C : CF x g RX6 cX6_node 3 (rmk 21 596))  {l1 : Int32} {σ : WD} (hE : ∀ (a : Int32) (s2 : WD), E (a, s2) → ∀ pc lv, decode cX6_node pc = .ok (.ireturn, 1) → WW x g 3 0 0 pc lv [.int a] s2) {t : Int32 × WD} (h : f_X6_node_69 l1 σ = some t) (ht : E t) : WW x g 3 0 0 69 [(0, .ref (adr g 0)), (1, .int l1)] [] σ := by
  unfold f_X6_node_69 at h
  refine x_aload_n C dX6_node_69 rfl 0 rfl 70 rfl ?_
  refine gf_167_0 C dX6_node_70 73 rfl ?_
  refine x_iload_n C dX6_node_73 rfl 1 rfl 74 rfl ?_
  obtain ⟨r74, σ74, h74, h⟩ := bn_some h
  refine x_callV C 22 [.int l1] (c_X4_exposing  h74) mi_X4_exposing (gt_22 g _) rfl q_498 rfl ⟨rfl, rfl⟩ ⟨Nat.le_of_ble_eq_true rfl, Nat.le_of_ble_eq_true rfl⟩ ⟨Nat.zero_le _, Nat.zero_le _⟩ _ rfl (Nat.le_of_ble_eq_true rfl) dX6_node_74 77 rfl ?_
  cases h
  exact hE _ _ ht 77 _ dX6_node_77
set_option maxHeartbeats 4000000 in
set_option maxRecDepth 100000 in
theorem w_X6_node_78 {x : Cx} {g : Gb} {E : Int32 × WD → Prop} (C : CF x g RX6 cX6_node 3 (rmk 21 596))  {l1 : Int32} {σ : WD} (hE : ∀ (a : Int32) (s2 : WD), E (a, s2) → ∀ pc lv, decode cX6_node pc = .ok (.ireturn, 1) → WW x g 3 0 0 pc lv [.int a] s2) {t : Int32 × WD} (h : f_X6_node_78 l1 σ = some t) (ht : E t) : WW x g 3 0 0 78 [(0, .ref (adr g 0)), (1, .int l1)] [] σ := by
  unfold f_X6_node_78 at h
  refine x_aload_n C dX6_node_78 rfl 0 rfl 79 rfl ?_
  refine gf_162_0 C dX6_node_79 82 rfl ?_
  refine x_iload_n C dX6_node_82 rfl 1 rfl 83 rfl ?_
  refine x_aload_n C dX6_node_83 rfl 0 rfl 84 rfl ?_
  refine gf_162_0 C dX6_node_84 87 rfl ?_
  obtain ⟨r87, h87, h⟩ := bv_some h
  refine x_callV C 1 [] (c_X0_all  h87) mi_X0_all (gt_1 g _) rfl q_322 rfl ⟨rfl, rfl⟩ ⟨Nat.le_of_ble_eq_true rfl, Nat.le_of_ble_eq_true rfl⟩ ⟨Nat.zero_le _, Nat.zero_le _⟩ _ rfl (Nat.le_of_ble_eq_true rfl) dX6_node_87 90 rfl ?_
  obtain ⟨r90, h90, h⟩ := bv_some h
  refine x_callV C 1 [.int l1, .int r87] (c_X0_pieceOf  h90) mi_X0_pieceOf (gt_1 g _) rfl q_502 rfl ⟨rfl, rfl⟩ ⟨Nat.le_of_ble_eq_true rfl, Nat.le_of_ble_eq_true rfl⟩ ⟨Nat.zero_le _, Nat.zero_le _⟩ _ rfl (Nat.le_of_ble_eq_true rfl) dX6_node_90 93 rfl ?_
  obtain ⟨r93, h93, h⟩ := bv_some h
  refine x_callS C [.int r90] (c_J6_numberOfTrailingZeros_0f7a4  h93) mi_J6_numberOfTrailingZeros_0f7a4 q_503 rfl ⟨rfl, rfl⟩ ⟨Nat.le_of_ble_eq_true rfl, Nat.le_of_ble_eq_true rfl⟩ ⟨Nat.zero_le _, Nat.zero_le _⟩ _ rfl (Nat.le_of_ble_eq_true rfl) dX6_node_93 96 rfl ?_
  cases h
  exact hE _ _ ht 96 _ dX6_node_96
set_option maxHeartbeats 4000000 in
set_option maxRecDepth 100000 in
theorem w_X6_node {x : Cx} {g : Gb} {E : Int32 × WD → Prop} (C : CF x g RX6 cX6_node 3 (rmk 21 596))  {a1 : Int32} {a2 : Int32} {σ : WD} (hE : ∀ (a : Int32) (s2 : WD), E (a, s2) → ∀ pc lv, decode cX6_node pc = .ok (.ireturn, 1) → WW x g 3 0 0 pc lv [.int a] s2) {t : Int32 × WD} (h : f_X6_node a1 a2 σ = some (.inl t)) (ht : E t) : WW x g 3 0 0 0 [(0, .ref (adr g 0)), (1, .int a1), (2, .int a2)] [] σ := by
  unfold f_X6_node at h
  refine x_aload_n C dX6_node_0 rfl 0 rfl 1 rfl ?_
  refine x_iload_n C dX6_node_1 rfl 1 rfl 2 rfl ?_
  obtain ⟨p2, h2, h⟩ := bx_inl h
  refine x_callV C 0 [.int a1] (c_X6_requireNode  h2) mi_X6_requireNode (gt_0 g _) rfl q_474 rfl ⟨rfl, rfl⟩ ⟨Nat.le_of_ble_eq_true rfl, Nat.le_of_ble_eq_true rfl⟩ ⟨Nat.zero_le _, Nat.zero_le _⟩ _ rfl (Nat.le_of_ble_eq_true rfl) dX6_node_2 5 rfl ?_
  refine x_iload_n C dX6_node_5 rfl 2 rfl 6 rfl ?_
  by_cases hc0 : a2 = 0
  · have h := ip hc0 h
    refine x_tabIn C 0 hc0 dX6_node_6 34 (by decide +kernel) 40 (by decide) ?_
    have h := ml_inl h
    exact x_sub [0, 1] rfl (w_X6_node_40 C  hE h ht)
  · have h := iq hc0 h
    by_cases hc1 : a2 = 1
    · have h := ip hc1 h
      refine x_tabIn C 1 hc1 dX6_node_6 47 (by decide +kernel) 53 (by decide) ?_
      have h := ml_inl h
      exact x_sub [0, 1] rfl (w_X6_node_53 C  hE h ht)
    · have h := iq hc1 h
      by_cases hc2 : a2 = 2
      · have h := ip hc2 h
        refine x_tabIn C 2 hc2 dX6_node_6 57 (by decide +kernel) 63 (by decide) ?_
        have h := ml_inl h
        exact x_sub [0, 1] rfl (w_X6_node_63 C  hE h ht)
      · have h := iq hc2 h
        by_cases hc3 : a2 = 3
        · have h := ip hc3 h
          refine x_tabIn C 3 hc3 dX6_node_6 63 (by decide +kernel) 69 (by decide) ?_
          have h := ml_inl h
          exact x_sub [0, 1] rfl (w_X6_node_69 C  hE h ht)
        · have h := iq hc3 h
          by_cases hc4 : a2 = 4
          · have h := ip hc4 h
            refine x_tabIn C 4 hc4 dX6_node_6 72 (by decide +kernel) 78 (by decide) ?_
            have h := ml_inl h
            exact x_sub [0, 1] rfl (w_X6_node_78 C  hE h ht)
          · have h := iq hc4 h
            refine x_tabOut C dX6_node_6 (sw_out 4 (by decide) (fun k hk => by
              have hk : k = 0 ∨ k = 1 ∨ k = 2 ∨ k = 3 ∨ k = 4 := by omega
              rcases hk with rfl | rfl | rfl | rfl | rfl <;> assumption)) 97 (by decide) ?_
            cases h
set_option maxHeartbeats 4000000 in
set_option maxRecDepth 100000 in
theorem c_X6_node {g : Gb} {l : Launch}  {a1 : Int32} {a2 : Int32} {σ : WD} {p : Int32 × WD} (h : f_X6_node a1 a2 σ = some (.inl p)) : MC l g yX6_node (.code yX6_node cX6_node 3 (some (.int))) (rmk 21 596) [.ref (adr g 0), .int a1, .int a2] σ (some (.int p.1)) p.2 := by
  refine MC.of (by decide) (Nat.le_of_ble_eq_true rfl) (fun x C hl hr hq => ?_)
  subst hl
  exact w_X6_node (E := fun z => z = p) C  (fun a s2 he pc lv hd => by cases he; exact x_iret C hr hq hd) h rfl
set_option maxHeartbeats 4000000 in
set_option maxRecDepth 100000 in
theorem w_X6_edge_36 {x : Cx} {g : Gb} {E : Int32 × WD → Prop} (C : CF x g RX6 cX6_edge 4 (rmk 20 574))  {l1 : Int32} {l2 : Int32} {σ : WD} (hE : ∀ (a : Int32) (s2 : WD), E (a, s2) → ∀ pc lv, decode cX6_edge pc = .ok (.ireturn, 1) → WW x g 4 0 0 pc lv [.int a] s2) {t : Int32 × WD} (h : f_X6_edge_36 l1 l2 σ = some t) (ht : E t) : WW x g 4 0 0 36 [(0, .ref (adr g 0)), (1, .int l1), (2, .int l2)] [] σ := by
  unfold f_X6_edge_36 at h
  refine x_aload_n C dX6_edge_36 rfl 0 rfl 37 rfl ?_
  refine gf_162_0 C dX6_edge_37 40 rfl ?_
  refine x_iload_n C dX6_edge_40 rfl 1 rfl 41 rfl ?_
  refine x_iload_n C dX6_edge_41 rfl 2 rfl 42 rfl ?_
  obtain ⟨r42, h42, h⟩ := bv_some h
  refine x_callV C 1 [.int l1, .int l2] (c_X0_joined  h42) mi_X0_joined (gt_1 g _) rfl q_553 rfl ⟨rfl, rfl⟩ ⟨Nat.le_of_ble_eq_true rfl, Nat.le_of_ble_eq_true rfl⟩ ⟨Nat.zero_le _, Nat.zero_le _⟩ _ rfl (Nat.le_of_ble_eq_true rfl) dX6_edge_42 45 rfl ?_
  refine x_if_eq C dX6_edge_45 52 (by decide) 48 rfl (fun hc => ?_) (fun hc => ?_)
  · have h := ip hc h
    refine x_iconst C (v := 0) dX6_edge_52 (by decide) 53 rfl ?_
    cases h
    exact hE _ _ ht 53 _ dX6_edge_53
  · have h := iq hc h
    refine x_iconst C (v := 1) dX6_edge_48 (by decide) 49 rfl ?_
    refine x_goto C dX6_edge_49 53 (by decide) ?_
    cases h
    exact hE _ _ ht 53 _ dX6_edge_53
set_option maxHeartbeats 4000000 in
set_option maxRecDepth 100000 in
theorem w_X6_edge_54 {x : Cx} {g : Gb} {E : Int32 × WD → Prop} (C : CF x g RX6 cX6_edge 4 (rmk 20 574))  {l1 : Int32} {l2 : Int32} {σ : WD} (hE : ∀ (a : Int32) (s2 : WD), E (a, s2) → ∀ pc lv, decode cX6_edge pc = .ok (.ireturn, 1) → WW x g 4 0 0 pc lv [.int a] s2) {t : Int32 × WD} (h : f_X6_edge_54 l1 l2 σ = some t) (ht : E t) : WW x g 4 0 0 54 [(0, .ref (adr g 0)), (1, .int l1), (2, .int l2)] [] σ := by
  unfold f_X6_edge_54 at h
  refine x_aload_n C dX6_edge_54 rfl 0 rfl 55 rfl ?_
  refine gf_163_0 C dX6_edge_55 58 rfl ?_
  refine x_iload_n C dX6_edge_58 rfl 1 rfl 59 rfl ?_
  refine x_iload_n C dX6_edge_59 rfl 2 rfl 60 rfl ?_
  obtain ⟨r60, h60, h⟩ := bv_some h
  refine x_callV C 3 [.int l1, .int l2] (c_X3_has  h60) mi_X3_has (gt_3 g _) rfl q_297 rfl ⟨rfl, rfl⟩ ⟨Nat.le_of_ble_eq_true rfl, Nat.le_of_ble_eq_true rfl⟩ ⟨Nat.zero_le _, Nat.zero_le _⟩ _ rfl (Nat.le_of_ble_eq_true rfl) dX6_edge_60 63 rfl ?_
  refine x_if_eq C dX6_edge_63 70 (by decide) 66 rfl (fun hc => ?_) (fun hc => ?_)
  · have h := ip hc h
    refine x_iconst C (v := 0) dX6_edge_70 (by decide) 71 rfl ?_
    cases h
    exact hE _ _ ht 71 _ dX6_edge_71
  · have h := iq hc h
    refine x_iconst C (v := 1) dX6_edge_66 (by decide) 67 rfl ?_
    refine x_goto C dX6_edge_67 71 (by decide) ?_
    cases h
    exact hE _ _ ht 71 _ dX6_edge_71
set_option maxHeartbeats 4000000 in
set_option maxRecDepth 100000 in
theorem w_X6_edge_72 {x : Cx} {g : Gb} {E : Int32 × WD → Prop} (C : CF x g RX6 cX6_edge 4 (rmk 20 574))  {l1 : Int32} {l2 : Int32} {σ : WD} (hE : ∀ (a : Int32) (s2 : WD), E (a, s2) → ∀ pc lv, decode cX6_edge pc = .ok (.ireturn, 1) → WW x g 4 0 0 pc lv [.int a] s2) {t : Int32 × WD} (h : f_X6_edge_72 l1 l2 σ = some t) (ht : E t) : WW x g 4 0 0 72 [(0, .ref (adr g 0)), (1, .int l1), (2, .int l2)] [] σ := by
  unfold f_X6_edge_72 at h
  refine x_aload_n C dX6_edge_72 rfl 0 rfl 73 rfl ?_
  refine gf_167_0 C dX6_edge_73 76 rfl ?_
  refine x_iload_n C dX6_edge_76 rfl 1 rfl 77 rfl ?_
  refine x_iload_n C dX6_edge_77 rfl 2 rfl 78 rfl ?_
  obtain ⟨r78, σ78, h78, h⟩ := bn_some h
  refine x_callV C 22 [.int l1, .int l2] (c_X4_having  h78) mi_X4_having (gt_22 g _) rfl q_370 rfl ⟨rfl, rfl⟩ ⟨Nat.le_of_ble_eq_true rfl, Nat.le_of_ble_eq_true rfl⟩ ⟨Nat.zero_le _, Nat.zero_le _⟩ _ rfl (Nat.le_of_ble_eq_true rfl) dX6_edge_78 81 rfl ?_
  cases h
  exact hE _ _ ht 81 _ dX6_edge_81
set_option maxHeartbeats 4000000 in
set_option maxRecDepth 100000 in
theorem w_X6_edge {x : Cx} {g : Gb} {E : Int32 × WD → Prop} (C : CF x g RX6 cX6_edge 4 (rmk 20 574))  {a1 : Int32} {a2 : Int32} {a3 : Int32} {σ : WD} (hE : ∀ (a : Int32) (s2 : WD), E (a, s2) → ∀ pc lv, decode cX6_edge pc = .ok (.ireturn, 1) → WW x g 4 0 0 pc lv [.int a] s2) {t : Int32 × WD} (h : f_X6_edge a1 a2 a3 σ = some (.inl t)) (ht : E t) : WW x g 4 0 0 0 [(0, .ref (adr g 0)), (1, .int a1), (2, .int a2), (3, .int a3)] [] σ := by
  unfold f_X6_edge at h
  refine x_aload_n C dX6_edge_0 rfl 0 rfl 1 rfl ?_
  refine x_iload_n C dX6_edge_1 rfl 1 rfl 2 rfl ?_
  obtain ⟨p2, h2, h⟩ := bx_inl h
  refine x_callV C 0 [.int a1] (c_X6_requireNode  h2) mi_X6_requireNode (gt_0 g _) rfl q_474 rfl ⟨rfl, rfl⟩ ⟨Nat.le_of_ble_eq_true rfl, Nat.le_of_ble_eq_true rfl⟩ ⟨Nat.zero_le _, Nat.zero_le _⟩ _ rfl (Nat.le_of_ble_eq_true rfl) dX6_edge_2 5 rfl ?_
  refine x_aload_n C dX6_edge_5 rfl 0 rfl 6 rfl ?_
  refine x_iload_n C dX6_edge_6 rfl 2 rfl 7 rfl ?_
  obtain ⟨p7, h7, h⟩ := bx_inl h
  refine x_callV C 0 [.int a2] (c_X6_requireNode  h7) mi_X6_requireNode (gt_0 g _) rfl q_474 rfl ⟨rfl, rfl⟩ ⟨Nat.le_of_ble_eq_true rfl, Nat.le_of_ble_eq_true rfl⟩ ⟨Nat.zero_le _, Nat.zero_le _⟩ _ rfl (Nat.le_of_ble_eq_true rfl) dX6_edge_7 10 rfl ?_
  refine x_iload_n C dX6_edge_10 rfl 3 rfl 11 rfl ?_
  by_cases hc0 : a3 = 0
  · have h := ip hc0 h
    refine x_tabIn C 0 hc0 dX6_edge_11 25 (by decide +kernel) 36 (by decide) ?_
    have h := ml_inl h
    exact x_sub [0, 1, 2] rfl (w_X6_edge_36 C  hE h ht)
  · have h := iq hc0 h
    by_cases hc1 : a3 = 1
    · have h := ip hc1 h
      refine x_tabIn C 1 hc1 dX6_edge_11 43 (by decide +kernel) 54 (by decide) ?_
      have h := ml_inl h
      exact x_sub [0, 1, 2] rfl (w_X6_edge_54 C  hE h ht)
    · have h := iq hc1 h
      by_cases hc2 : a3 = 2
      · have h := ip hc2 h
        refine x_tabIn C 2 hc2 dX6_edge_11 61 (by decide +kernel) 72 (by decide) ?_
        have h := ml_inl h
        exact x_sub [0, 1, 2] rfl (w_X6_edge_72 C  hE h ht)
      · have h := iq hc2 h
        refine x_tabOut C dX6_edge_11 (sw_out 2 (by decide) (fun k hk => by
          have hk : k = 0 ∨ k = 1 ∨ k = 2 := by omega
          rcases hk with rfl | rfl | rfl <;> assumption)) 82 (by decide) ?_
        cases h
set_option maxHeartbeats 4000000 in
set_option maxRecDepth 100000 in
theorem c_X6_edge {g : Gb} {l : Launch}  {a1 : Int32} {a2 : Int32} {a3 : Int32} {σ : WD} {p : Int32 × WD} (h : f_X6_edge a1 a2 a3 σ = some (.inl p)) : MC l g yX6_edge (.code yX6_edge cX6_edge 4 (some (.int))) (rmk 20 574) [.ref (adr g 0), .int a1, .int a2, .int a3] σ (some (.int p.1)) p.2 := by
  refine MC.of (by decide) (Nat.le_of_ble_eq_true rfl) (fun x C hl hr hq => ?_)
  subst hl
  exact w_X6_edge (E := fun z => z = p) C  (fun a s2 he pc lv hd => by cases he; exact x_iret C hr hq hd) h rfl
set_option maxHeartbeats 4000000 in
set_option maxRecDepth 100000 in
theorem w_X6_count_60 {x : Cx} {g : Gb} {E : Int32 × WD → Prop} (C : CF x g RX6 cX6_count 2 (rmk 21 599))   {σ : WD} (hE : ∀ (a : Int32) (s2 : WD), E (a, s2) → ∀ pc lv, decode cX6_count pc = .ok (.ireturn, 1) → WW x g 2 0 0 pc lv [.int a] s2) {t : Int32 × WD} (h : f_X6_count_60  σ = some t) (ht : E t) : WW x g 2 0 0 60 [(0, .ref (adr g 0))] [] σ := by
  unfold f_X6_count_60 at h
  refine x_aload_n C dX6_count_60 rfl 0 rfl 61 rfl ?_
  refine gf_162_0 C dX6_count_61 64 rfl ?_
  refine gf_35_1 C dX6_count_64 67 rfl ?_
  cases h
  exact hE _ _ ht 67 _ dX6_count_67
set_option maxHeartbeats 4000000 in
set_option maxRecDepth 100000 in
theorem w_X6_count_68 {x : Cx} {g : Gb} {E : Int32 × WD → Prop} (C : CF x g RX6 cX6_count 2 (rmk 21 599))   {σ : WD} (hE : ∀ (a : Int32) (s2 : WD), E (a, s2) → ∀ pc lv, decode cX6_count pc = .ok (.ireturn, 1) → WW x g 2 0 0 pc lv [.int a] s2) {t : Int32 × WD} (h : f_X6_count_68  σ = some t) (ht : E t) : WW x g 2 0 0 68 [(0, .ref (adr g 0))] [] σ := by
  unfold f_X6_count_68 at h
  refine x_aload_n C dX6_count_68 rfl 0 rfl 69 rfl ?_
  refine gf_162_0 C dX6_count_69 72 rfl ?_
  obtain ⟨r72, h72, h⟩ := bv_some h
  refine x_callV C 1 [] (c_X0_edges  h72) mi_X0_edges (gt_1 g _) rfl q_362 rfl ⟨rfl, rfl⟩ ⟨Nat.le_of_ble_eq_true rfl, Nat.le_of_ble_eq_true rfl⟩ ⟨Nat.zero_le _, Nat.zero_le _⟩ _ rfl (Nat.le_of_ble_eq_true rfl) dX6_count_72 75 rfl ?_
  cases h
  exact hE _ _ ht 75 _ dX6_count_75
set_option maxHeartbeats 4000000 in
set_option maxRecDepth 100000 in
theorem w_X6_count_76 {x : Cx} {g : Gb} {E : Int32 × WD → Prop} (C : CF x g RX6 cX6_count 2 (rmk 21 599))   {σ : WD} (hE : ∀ (a : Int32) (s2 : WD), E (a, s2) → ∀ pc lv, decode cX6_count pc = .ok (.ireturn, 1) → WW x g 2 0 0 pc lv [.int a] s2) {t : Int32 × WD} (h : f_X6_count_76  σ = some t) (ht : E t) : WW x g 2 0 0 76 [(0, .ref (adr g 0))] [] σ := by
  unfold f_X6_count_76 at h
  refine x_aload_n C dX6_count_76 rfl 0 rfl 77 rfl ?_
  refine gf_163_0 C dX6_count_77 80 rfl ?_
  obtain ⟨r80, h80, h⟩ := bv_some h
  refine x_callV C 3 [] (c_X3_size  h80) mi_X3_size (gt_3 g _) rfl q_384 rfl ⟨rfl, rfl⟩ ⟨Nat.le_of_ble_eq_true rfl, Nat.le_of_ble_eq_true rfl⟩ ⟨Nat.zero_le _, Nat.zero_le _⟩ _ rfl (Nat.le_of_ble_eq_true rfl) dX6_count_80 83 rfl ?_
  cases h
  exact hE _ _ ht 83 _ dX6_count_83
set_option maxHeartbeats 4000000 in
set_option maxRecDepth 100000 in
theorem w_X6_count_84 {x : Cx} {g : Gb} {E : Int32 × WD → Prop} (C : CF x g RX6 cX6_count 2 (rmk 21 599))   {σ : WD} (hE : ∀ (a : Int32) (s2 : WD), E (a, s2) → ∀ pc lv, decode cX6_count pc = .ok (.ireturn, 1) → WW x g 2 0 0 pc lv [.int a] s2) {t : Int32 × WD} (h : f_X6_count_84  σ = some t) (ht : E t) : WW x g 2 0 0 84 [(0, .ref (adr g 0))] [] σ := by
  unfold f_X6_count_84 at h
  refine x_aload_n C dX6_count_84 rfl 0 rfl 85 rfl ?_
  refine gf_167_0 C dX6_count_85 88 rfl ?_
  obtain ⟨r88, σ88, h88, h⟩ := bn_some h
  refine x_callV C 22 [] (c_X4_number  h88) mi_X4_number (gt_22 g _) rfl q_354 rfl ⟨rfl, rfl⟩ ⟨Nat.le_of_ble_eq_true rfl, Nat.le_of_ble_eq_true rfl⟩ ⟨Nat.zero_le _, Nat.zero_le _⟩ _ rfl (Nat.le_of_ble_eq_true rfl) dX6_count_88 91 rfl ?_
  cases h
  exact hE _ _ ht 91 _ dX6_count_91
set_option maxHeartbeats 4000000 in
set_option maxRecDepth 100000 in
theorem w_X6_count_92 {x : Cx} {g : Gb} {E : Int32 × WD → Prop} (C : CF x g RX6 cX6_count 2 (rmk 21 599))   {σ : WD} (hE : ∀ (a : Int32) (s2 : WD), E (a, s2) → ∀ pc lv, decode cX6_count pc = .ok (.ireturn, 1) → WW x g 2 0 0 pc lv [.int a] s2) {t : Int32 × WD} (h : f_X6_count_92  σ = some t) (ht : E t) : WW x g 2 0 0 92 [(0, .ref (adr g 0))] [] σ := by
  unfold f_X6_count_92 at h
  refine x_aload_n C dX6_count_92 rfl 0 rfl 93 rfl ?_
  obtain ⟨r93, σ93, h93, h⟩ := bn_some h
  refine x_callV C 0 [] (c_X6_deficiency  h93) mi_X6_deficiency (gt_0 g _) rfl q_350 rfl ⟨rfl, rfl⟩ ⟨Nat.le_of_ble_eq_true rfl, Nat.le_of_ble_eq_true rfl⟩ ⟨Nat.zero_le _, Nat.zero_le _⟩ _ rfl (Nat.le_of_ble_eq_true rfl) dX6_count_93 96 rfl ?_
  cases h
  exact hE _ _ ht 96 _ dX6_count_96
set_option maxHeartbeats 4000000 in
set_option maxRecDepth 100000 in
theorem w_X6_count_97 {x : Cx} {g : Gb} {E : Int32 × WD → Prop} (C : CF x g RX6 cX6_count 2 (rmk 21 599))   {σ : WD} (hE : ∀ (a : Int32) (s2 : WD), E (a, s2) → ∀ pc lv, decode cX6_count pc = .ok (.ireturn, 1) → WW x g 2 0 0 pc lv [.int a] s2) {t : Int32 × WD} (h : f_X6_count_97  σ = some t) (ht : E t) : WW x g 2 0 0 97 [(0, .ref (adr g 0))] [] σ := by
  unfold f_X6_count_97 at h
  refine x_aload_n C dX6_count_97 rfl 0 rfl 98 rfl ?_
  refine gf_167_0 C dX6_count_98 101 rfl ?_
  obtain ⟨r101, σ101, h101, h⟩ := bn_some h
  refine x_callV C 22 [] (c_X4_howMany  h101) mi_X4_howMany (gt_22 g _) rfl q_366 rfl ⟨rfl, rfl⟩ ⟨Nat.le_of_ble_eq_true rfl, Nat.le_of_ble_eq_true rfl⟩ ⟨Nat.zero_le _, Nat.zero_le _⟩ _ rfl (Nat.le_of_ble_eq_true rfl) dX6_count_101 104 rfl ?_
  cases h
  exact hE _ _ ht 104 _ dX6_count_104
set_option maxHeartbeats 4000000 in
set_option maxRecDepth 100000 in
theorem w_X6_count_105 {x : Cx} {g : Gb} {E : Int32 × WD → Prop} (C : CF x g RX6 cX6_count 2 (rmk 21 599))   {σ : WD} (hE : ∀ (a : Int32) (s2 : WD), E (a, s2) → ∀ pc lv, decode cX6_count pc = .ok (.ireturn, 1) → WW x g 2 0 0 pc lv [.int a] s2) {t : Int32 × WD} (h : f_X6_count_105  σ = some t) (ht : E t) : WW x g 2 0 0 105 [(0, .ref (adr g 0))] [] σ := by
  unfold f_X6_count_105 at h
  refine x_aload_n C dX6_count_105 rfl 0 rfl 106 rfl ?_
  refine gf_167_0 C dX6_count_106 109 rfl ?_
  refine x_aload_n C dX6_count_109 rfl 0 rfl 110 rfl ?_
  refine gf_167_0 C dX6_count_110 113 rfl ?_
  obtain ⟨r113, σ113, h113, h⟩ := bn_some h
  refine x_callV C 22 [] (c_X4_howMany  h113) mi_X4_howMany (gt_22 g _) rfl q_366 rfl ⟨rfl, rfl⟩ ⟨Nat.le_of_ble_eq_true rfl, Nat.le_of_ble_eq_true rfl⟩ ⟨Nat.zero_le _, Nat.zero_le _⟩ _ rfl (Nat.le_of_ble_eq_true rfl) dX6_count_113 116 rfl ?_
  obtain ⟨r116, σ116, h116, h⟩ := bn_some h
  refine x_callV C 22 [.int r113] (c_X4_edgesHadBy  h116) mi_X4_edgesHadBy (gt_22 g _) rfl q_385 rfl ⟨rfl, rfl⟩ ⟨Nat.le_of_ble_eq_true rfl, Nat.le_of_ble_eq_true rfl⟩ ⟨Nat.zero_le _, Nat.zero_le _⟩ _ rfl (Nat.le_of_ble_eq_true rfl) dX6_count_116 119 rfl ?_
  cases h
  exact hE _ _ ht 119 _ dX6_count_119
set_option maxHeartbeats 4000000 in
set_option maxRecDepth 100000 in
theorem w_X6_count_120 {x : Cx} {g : Gb} {E : Int32 × WD → Prop} (C : CF x g RX6 cX6_count 2 (rmk 21 599))   {σ : WD} (hE : ∀ (a : Int32) (s2 : WD), E (a, s2) → ∀ pc lv, decode cX6_count pc = .ok (.ireturn, 1) → WW x g 2 0 0 pc lv [.int a] s2) {t : Int32 × WD} (h : f_X6_count_120  σ = some t) (ht : E t) : WW x g 2 0 0 120 [(0, .ref (adr g 0))] [] σ := by
  unfold f_X6_count_120 at h
  refine x_aload_n C dX6_count_120 rfl 0 rfl 121 rfl ?_
  refine gf_167_0 C dX6_count_121 124 rfl ?_
  refine x_iconst C (v := 0) dX6_count_124 (by decide) 125 rfl ?_
  obtain ⟨r125, σ125, h125, h⟩ := bn_some h
  refine x_callV C 22 [.int 0] (c_X4_edgesHadBy  h125) mi_X4_edgesHadBy (gt_22 g _) rfl q_385 rfl ⟨rfl, rfl⟩ ⟨Nat.le_of_ble_eq_true rfl, Nat.le_of_ble_eq_true rfl⟩ ⟨Nat.zero_le _, Nat.zero_le _⟩ _ rfl (Nat.le_of_ble_eq_true rfl) dX6_count_125 128 rfl ?_
  cases h
  exact hE _ _ ht 128 _ dX6_count_128
set_option maxHeartbeats 4000000 in
set_option maxRecDepth 100000 in
theorem w_X6_count_129 {x : Cx} {g : Gb} {E : Int32 × WD → Prop} (C : CF x g RX6 cX6_count 2 (rmk 21 599))   {σ : WD} (hE : ∀ (a : Int32) (s2 : WD), E (a, s2) → ∀ pc lv, decode cX6_count pc = .ok (.ireturn, 1) → WW x g 2 0 0 pc lv [.int a] s2) {t : Int32 × WD} (h : f_X6_count_129  σ = some t) (ht : E t) : WW x g 2 0 0 129 [(0, .ref (adr g 0))] [] σ := by
  unfold f_X6_count_129 at h
  refine x_aload_n C dX6_count_129 rfl 0 rfl 130 rfl ?_
  refine gf_167_0 C dX6_count_130 133 rfl ?_
  obtain ⟨r133, σ133, h133, h⟩ := bn_some h
  refine x_callV C 22 [] (c_X4_isCritical  h133) mi_X4_isCritical (gt_22 g _) rfl q_390 rfl ⟨rfl, rfl⟩ ⟨Nat.le_of_ble_eq_true rfl, Nat.le_of_ble_eq_true rfl⟩ ⟨Nat.zero_le _, Nat.zero_le _⟩ _ rfl (Nat.le_of_ble_eq_true rfl) dX6_count_133 136 rfl ?_
  refine x_if_eq C dX6_count_136 143 (by decide) 139 rfl (fun hc => ?_) (fun hc => ?_)
  · have h := ip hc h
    refine x_iconst C (v := 0) dX6_count_143 (by decide) 144 rfl ?_
    cases h
    exact hE _ _ ht 144 _ dX6_count_144
  · have h := iq hc h
    refine x_iconst C (v := 1) dX6_count_139 (by decide) 140 rfl ?_
    refine x_goto C dX6_count_140 144 (by decide) ?_
    cases h
    exact hE _ _ ht 144 _ dX6_count_144
set_option maxHeartbeats 4000000 in
set_option maxRecDepth 100000 in
theorem w_X6_count_145 {x : Cx} {g : Gb} {E : Int32 × WD → Prop} (C : CF x g RX6 cX6_count 2 (rmk 21 599))   {σ : WD} (hE : ∀ (a : Int32) (s2 : WD), E (a, s2) → ∀ pc lv, decode cX6_count pc = .ok (.ireturn, 1) → WW x g 2 0 0 pc lv [.int a] s2) {t : Int32 × WD} (h : f_X6_count_145  σ = some t) (ht : E t) : WW x g 2 0 0 145 [(0, .ref (adr g 0))] [] σ := by
  unfold f_X6_count_145 at h
  refine x_aload_n C dX6_count_145 rfl 0 rfl 146 rfl ?_
  refine gf_162_0 C dX6_count_146 149 rfl ?_
  refine x_aload_n C dX6_count_149 rfl 0 rfl 150 rfl ?_
  refine gf_162_0 C dX6_count_150 153 rfl ?_
  obtain ⟨r153, h153, h⟩ := bv_some h
  refine x_callV C 1 [] (c_X0_all  h153) mi_X0_all (gt_1 g _) rfl q_322 rfl ⟨rfl, rfl⟩ ⟨Nat.le_of_ble_eq_true rfl, Nat.le_of_ble_eq_true rfl⟩ ⟨Nat.zero_le _, Nat.zero_le _⟩ _ rfl (Nat.le_of_ble_eq_true rfl) dX6_count_153 156 rfl ?_
  refine x_iconst C (v := 0) dX6_count_156 (by decide) 157 rfl ?_
  obtain ⟨r157, h157, h⟩ := bv_some h
  refine x_callV C 1 [.int r153, .int 0] (c_X0_pieces  h157) mi_X0_pieces (gt_1 g _) rfl q_337 rfl ⟨rfl, rfl⟩ ⟨Nat.le_of_ble_eq_true rfl, Nat.le_of_ble_eq_true rfl⟩ ⟨Nat.zero_le _, Nat.zero_le _⟩ _ rfl (Nat.le_of_ble_eq_true rfl) dX6_count_157 160 rfl ?_
  cases h
  exact hE _ _ ht 160 _ dX6_count_160
set_option maxHeartbeats 4000000 in
set_option maxRecDepth 100000 in
theorem w_X6_count_161 {x : Cx} {g : Gb} {E : Int32 × WD → Prop} (C : CF x g RX6 cX6_count 2 (rmk 21 599))   {σ : WD} (hE : ∀ (a : Int32) (s2 : WD), E (a, s2) → ∀ pc lv, decode cX6_count pc = .ok (.ireturn, 1) → WW x g 2 0 0 pc lv [.int a] s2) {t : Int32 × WD} (h : f_X6_count_161  σ = some t) (ht : E t) : WW x g 2 0 0 161 [(0, .ref (adr g 0))] [] σ := by
  unfold f_X6_count_161 at h
  refine x_aload_n C dX6_count_161 rfl 0 rfl 162 rfl ?_
  refine gf_165_0 C dX6_count_162 165 rfl ?_
  refine gf_94_7 C dX6_count_165 168 rfl ?_
  cases h
  exact hE _ _ ht 168 _ dX6_count_168
set_option maxHeartbeats 4000000 in
set_option maxRecDepth 100000 in
theorem w_X6_count {x : Cx} {g : Gb} {E : Int32 × WD → Prop} (C : CF x g RX6 cX6_count 2 (rmk 21 599))  {a1 : Int32} {σ : WD} (hE : ∀ (a : Int32) (s2 : WD), E (a, s2) → ∀ pc lv, decode cX6_count pc = .ok (.ireturn, 1) → WW x g 2 0 0 pc lv [.int a] s2) {t : Int32 × WD} (h : f_X6_count a1 σ = some (.inl t)) (ht : E t) : WW x g 2 0 0 0 [(0, .ref (adr g 0)), (1, .int a1)] [] σ := by
  unfold f_X6_count at h
  refine x_iload_n C dX6_count_0 rfl 1 rfl 1 rfl ?_
  by_cases hc0 : a1 = 0
  · have h := ip hc0 h
    refine x_tabIn C 0 hc0 dX6_count_1 59 (by decide +kernel) 60 (by decide) ?_
    have h := ml_inl h
    exact x_sub [0] rfl (w_X6_count_60 C  hE h ht)
  · have h := iq hc0 h
    by_cases hc1 : a1 = 1
    · have h := ip hc1 h
      refine x_tabIn C 1 hc1 dX6_count_1 67 (by decide +kernel) 68 (by decide) ?_
      have h := ml_inl h
      exact x_sub [0] rfl (w_X6_count_68 C  hE h ht)
    · have h := iq hc1 h
      by_cases hc2 : a1 = 2
      · have h := ip hc2 h
        refine x_tabIn C 2 hc2 dX6_count_1 75 (by decide +kernel) 76 (by decide) ?_
        have h := ml_inl h
        exact x_sub [0] rfl (w_X6_count_76 C  hE h ht)
      · have h := iq hc2 h
        by_cases hc3 : a1 = 3
        · have h := ip hc3 h
          refine x_tabIn C 3 hc3 dX6_count_1 83 (by decide +kernel) 84 (by decide) ?_
          have h := ml_inl h
          exact x_sub [0] rfl (w_X6_count_84 C  hE h ht)
        · have h := iq hc3 h
          by_cases hc4 : a1 = 4
          · have h := ip hc4 h
            refine x_tabIn C 4 hc4 dX6_count_1 91 (by decide +kernel) 92 (by decide) ?_
            have h := ml_inl h
            exact x_sub [0] rfl (w_X6_count_92 C  hE h ht)
          · have h := iq hc4 h
            by_cases hc5 : a1 = 5
            · have h := ip hc5 h
              refine x_tabIn C 5 hc5 dX6_count_1 96 (by decide +kernel) 97 (by decide) ?_
              have h := ml_inl h
              exact x_sub [0] rfl (w_X6_count_97 C  hE h ht)
            · have h := iq hc5 h
              by_cases hc6 : a1 = 6
              · have h := ip hc6 h
                refine x_tabIn C 6 hc6 dX6_count_1 104 (by decide +kernel) 105 (by decide) ?_
                have h := ml_inl h
                exact x_sub [0] rfl (w_X6_count_105 C  hE h ht)
              · have h := iq hc6 h
                by_cases hc7 : a1 = 7
                · have h := ip hc7 h
                  refine x_tabIn C 7 hc7 dX6_count_1 119 (by decide +kernel) 120 (by decide) ?_
                  have h := ml_inl h
                  exact x_sub [0] rfl (w_X6_count_120 C  hE h ht)
                · have h := iq hc7 h
                  by_cases hc8 : a1 = 8
                  · have h := ip hc8 h
                    refine x_tabIn C 8 hc8 dX6_count_1 128 (by decide +kernel) 129 (by decide) ?_
                    have h := ml_inl h
                    exact x_sub [0] rfl (w_X6_count_129 C  hE h ht)
                  · have h := iq hc8 h
                    by_cases hc9 : a1 = 9
                    · have h := ip hc9 h
                      refine x_tabIn C 9 hc9 dX6_count_1 144 (by decide +kernel) 145 (by decide) ?_
                      have h := ml_inl h
                      exact x_sub [0] rfl (w_X6_count_145 C  hE h ht)
                    · have h := iq hc9 h
                      by_cases hc10 : a1 = 10
                      · have h := ip hc10 h
                        refine x_tabIn C 10 hc10 dX6_count_1 160 (by decide +kernel) 161 (by decide) ?_
                        have h := ml_inl h
                        exact x_sub [0] rfl (w_X6_count_161 C  hE h ht)
                      · have h := iq hc10 h
                        refine x_tabOut C dX6_count_1 (sw_out 10 (by decide) (fun k hk => by
                          have hk : k = 0 ∨ k = 1 ∨ k = 2 ∨ k = 3 ∨ k = 4 ∨ k = 5 ∨ k = 6 ∨ k = 7 ∨ k = 8 ∨ k = 9 ∨ k = 10 := by omega
                          rcases hk with rfl | rfl | rfl | rfl | rfl | rfl | rfl | rfl | rfl | rfl | rfl <;> assumption)) 169 (by decide) ?_
                        cases h
set_option maxHeartbeats 4000000 in
set_option maxRecDepth 100000 in
theorem c_X6_count {g : Gb} {l : Launch}  {a1 : Int32} {σ : WD} {p : Int32 × WD} (h : f_X6_count a1 σ = some (.inl p)) : MC l g yX6_count (.code yX6_count cX6_count 2 (some (.int))) (rmk 21 599) [.ref (adr g 0), .int a1] σ (some (.int p.1)) p.2 := by
  refine MC.of (by decide) (Nat.le_of_ble_eq_true rfl) (fun x C hl hr hq => ?_)
  subst hl
  exact w_X6_count (E := fun z => z = p) C  (fun a s2 he pc lv hd => by cases he; exact x_iret C hr hq hd) h rfl
set_option maxHeartbeats 4000000 in
set_option maxRecDepth 100000 in
theorem w_X6_drawDifferences_66 {x : Cx} {g : Gb} {E : (Int32 × WD) ⊕ (WD) → Prop} (C : CF x g RX6 cX6_drawDifferences 5 (rmk 3 66))  {l2 : Int32} {l3 : Int32} {l4 : Int32} {σ : WD} (hI0 : ∀ s, E (.inl s) → WW x g 5 0 0 16 [(0, .ref (adr g 0)), (1, .ref (adr g 25)), (2, .int s.1)] [] s.2) (hE : ∀ (s2 : WD), E (.inr s2) → ∀ pc lv, decode cX6_drawDifferences pc = .ok (.return_, 1) → WW x g 5 0 0 pc lv [] s2) {t : (Int32 × WD) ⊕ (WD)} (h : f_X6_drawDifferences_66 l2 l3 l4 σ = some t) (ht : E t) : WW x g 5 0 0 66 [(0, .ref (adr g 0)), (1, .ref (adr g 25)), (2, .int l2), (3, .int l3), (4, .int l4)] [] σ := by
  unfold f_X6_drawDifferences_66 at h
  refine x_iload C dX6_drawDifferences_66 4 rfl 68 rfl ?_
  refine x_iconst C (v := -1) dX6_drawDifferences_68 (by decide) 69 rfl ?_
  refine x_icmp_eq C dX6_drawDifferences_69 89 (by decide) 72 rfl (fun hc => ?_) (fun hc => ?_)
  · have h := ip hc h
    refine x_iinc C [(2, .int (l2 + 1)), (0, .ref (adr g 0)), (1, .ref (adr g 25)), (3, .int l3), (4, .int l4)] dX6_drawDifferences_89 2 rfl rfl (by decide) rfl 92 rfl ?_
    refine x_goto C dX6_drawDifferences_92 16 (by decide) ?_
    cases h
    exact x_sub [1, 2, 0] rfl (hI0 ((l2 + 1), σ) ht)
  · have h := iq hc h
    refine x_iload_n C dX6_drawDifferences_72 rfl 3 rfl 73 rfl ?_
    refine x_iload C dX6_drawDifferences_73 4 rfl 75 rfl ?_
    refine x_icmp_eq C dX6_drawDifferences_75 89 (by decide) 78 rfl (fun hc => ?_) (fun hc => ?_)
    · have h := ip hc h
      refine x_iinc C [(2, .int (l2 + 1)), (0, .ref (adr g 0)), (1, .ref (adr g 25)), (3, .int l3), (4, .int l4)] dX6_drawDifferences_89 2 rfl rfl (by decide) rfl 92 rfl ?_
      refine x_goto C dX6_drawDifferences_92 16 (by decide) ?_
      cases h
      exact x_sub [1, 2, 0] rfl (hI0 ((l2 + 1), σ) ht)
    · have h := iq hc h
      refine x_aload_n C dX6_drawDifferences_78 rfl 0 rfl 79 rfl ?_
      refine gf_168_0 C dX6_drawDifferences_79 82 rfl ?_
      refine x_iload_n C dX6_drawDifferences_82 rfl 2 rfl 83 rfl ?_
      refine x_iload C dX6_drawDifferences_83 4 rfl 85 rfl ?_
      refine x_iconst C (v := 1) dX6_drawDifferences_85 (by decide) 86 rfl ?_
      obtain ⟨σ86, h86, h⟩ := bv_some h
      refine x_callV C 27 [.int l2, .int l4, .int 1] (c_X0_put_d  h86) mi_X0_put (gt_27 g _) rfl q_571 rfl ⟨rfl, rfl⟩ ⟨Nat.le_of_ble_eq_true rfl, Nat.le_of_ble_eq_true rfl⟩ ⟨Nat.zero_le _, Nat.zero_le _⟩ _ rfl (Nat.le_of_ble_eq_true rfl) dX6_drawDifferences_86 89 rfl ?_
      refine x_iinc C [(2, .int (l2 + 1)), (0, .ref (adr g 0)), (1, .ref (adr g 25)), (3, .int l3), (4, .int l4)] dX6_drawDifferences_89 2 rfl rfl (by decide) rfl 92 rfl ?_
      refine x_goto C dX6_drawDifferences_92 16 (by decide) ?_
      cases h
      exact x_sub [1, 2, 0] rfl (hI0 ((l2 + 1), σ86) ht)
set_option maxHeartbeats 4000000 in
set_option maxRecDepth 100000 in
theorem w_X6_drawDifferences_b16 {x : Cx} {g : Gb} {E : (Int32 × WD) ⊕ (WD) → Prop} (C : CF x g RX6 cX6_drawDifferences 5 (rmk 3 66))  {l2 : Int32} {σ : WD} (hI0 : ∀ s, E (.inl s) → WW x g 5 0 0 16 [(0, .ref (adr g 0)), (1, .ref (adr g 25)), (2, .int s.1)] [] s.2) (hE : ∀ (s2 : WD), E (.inr s2) → ∀ pc lv, decode cX6_drawDifferences pc = .ok (.return_, 1) → WW x g 5 0 0 pc lv [] s2) {t : (Int32 × WD) ⊕ (WD)} (h : f_X6_drawDifferences_b16 l2 σ = some t) (ht : E t) : WW x g 5 0 0 16 [(0, .ref (adr g 0)), (1, .ref (adr g 25)), (2, .int l2)] [] σ := by
  unfold f_X6_drawDifferences_b16 at h
  refine x_iload_n C dX6_drawDifferences_16 rfl 2 rfl 17 rfl ?_
  refine x_aload_n C dX6_drawDifferences_17 rfl 0 rfl 18 rfl ?_
  refine gf_162_0 C dX6_drawDifferences_18 21 rfl ?_
  refine gf_35_1 C dX6_drawDifferences_21 24 rfl ?_
  refine x_icmp_ge C dX6_drawDifferences_24 95 (by decide) 27 rfl (fun hc => ?_) (fun hc => ?_)
  · have h := ip hc h
    cases h
    exact hE _ ht 95 _ dX6_drawDifferences_95
  · have h := iq hc h
    refine x_aload_n C dX6_drawDifferences_27 rfl 0 rfl 28 rfl ?_
    refine gf_163_0 C dX6_drawDifferences_28 31 rfl ?_
    refine gf_63_3 C dX6_drawDifferences_31 34 rfl ?_
    refine x_iload_n C dX6_drawDifferences_34 rfl 2 rfl 35 rfl ?_
    obtain ⟨hin, h⟩ := gi_some h
    refine x_iald C 4 (gt_4 g _) hin dX6_drawDifferences_35 36 rfl ?_
    obtain ⟨v36, e36, h⟩ := li_some h
    refine x_te e36 ?_
    refine x_istore_n C [(3, .int v36), (0, .ref (adr g 0)), (1, .ref (adr g 25)), (2, .int l2)] dX6_drawDifferences_36 rfl (by decide) rfl 37 rfl ?_
    refine x_aload_n C dX6_drawDifferences_37 rfl 2 rfl 38 rfl ?_
    refine gf_63_25 C dX6_drawDifferences_38 41 rfl ?_
    refine x_iload_n C dX6_drawDifferences_41 rfl 3 rfl 42 rfl ?_
    obtain ⟨hin, h⟩ := gi_some h
    refine x_iald C 26 (gt_26 g _) hin dX6_drawDifferences_42 43 rfl ?_
    obtain ⟨v43, e43, h⟩ := li_some h
    refine x_te e43 ?_
    refine x_istore C [(4, .int v43), (3, .int v36), (0, .ref (adr g 0)), (1, .ref (adr g 25)), (2, .int l2)] dX6_drawDifferences_43 (by decide) rfl 45 rfl ?_
    refine x_iload_n C dX6_drawDifferences_45 rfl 1 rfl 46 rfl ?_
    refine x_iconst C (v := -1) dX6_drawDifferences_46 (by decide) 47 rfl ?_
    refine x_icmp_eq C dX6_drawDifferences_47 66 (by decide) 50 rfl (fun hc => ?_) (fun hc => ?_)
    · have h := ip hc h
      exact x_sub [2, 3, 4, 1, 0] rfl (w_X6_drawDifferences_66 C  hI0 hE h ht)
    · have h := iq hc h
      refine x_iload_n C dX6_drawDifferences_50 rfl 1 rfl 51 rfl ?_
      refine x_iload C dX6_drawDifferences_51 0 rfl 53 rfl ?_
      refine x_icmp_eq C dX6_drawDifferences_53 66 (by decide) 56 rfl (fun hc => ?_) (fun hc => ?_)
      · have h := ip hc h
        exact x_sub [2, 3, 4, 1, 0] rfl (w_X6_drawDifferences_66 C  hI0 hE h ht)
      · have h := iq hc h
        refine x_aload_n C dX6_drawDifferences_56 rfl 2 rfl 57 rfl ?_
        refine gf_168_0 C dX6_drawDifferences_57 60 rfl ?_
        refine x_iload_n C dX6_drawDifferences_60 rfl 4 rfl 61 rfl ?_
        refine x_iload_n C dX6_drawDifferences_61 rfl 1 rfl 62 rfl ?_
        refine x_iconst C (v := 1) dX6_drawDifferences_62 (by decide) 63 rfl ?_
        obtain ⟨σ63, h63, h⟩ := bv_some h
        refine x_callV C 27 [.int l2, .int v36, .int 1] (c_X0_put_d  h63) mi_X0_put (gt_27 g _) rfl q_571 rfl ⟨rfl, rfl⟩ ⟨Nat.le_of_ble_eq_true rfl, Nat.le_of_ble_eq_true rfl⟩ ⟨Nat.zero_le _, Nat.zero_le _⟩ _ rfl (Nat.le_of_ble_eq_true rfl) dX6_drawDifferences_63 66 rfl ?_
        exact x_sub [2, 3, 4, 1, 0] rfl (w_X6_drawDifferences_66 C  hI0 hE h ht)
set_option maxHeartbeats 4000000 in
set_option maxRecDepth 100000 in
theorem w_X6_drawDifferences_16 {x : Cx} {g : Gb} {E : WD → Prop} (C : CF x g RX6 cX6_drawDifferences 5 (rmk 3 66))  {l2 : Int32} {σ : WD} (hE : ∀ (s2 : WD), E s2 → ∀ pc lv, decode cX6_drawDifferences pc = .ok (.return_, 1) → WW x g 5 0 0 pc lv [] s2) {t : WD} (h : f_X6_drawDifferences_16 l2 σ = some t) (ht : E t) : WW x g 5 0 0 16 [(0, .ref (adr g 0)), (1, .ref (adr g 25)), (2, .int l2)] [] σ := by
  unfold f_X6_drawDifferences_16 at h
  exact lp_ind (fun s : Int32 × WD => WW x g 5 0 0 16 [(0, .ref (adr g 0)), (1, .ref (adr g 25)), (2, .int s.1)] [] s.2) E h ht (fun s y hb hy => w_X6_drawDifferences_b16 (E := Sum.elim (fun s : Int32 × WD => WW x g 5 0 0 16 [(0, .ref (adr g 0)), (1, .ref (adr g 25)), (2, .int s.1)] [] s.2) E) C  (fun _ h => h)  hE hb hy)
set_option maxHeartbeats 4000000 in
set_option maxRecDepth 100000 in
theorem w_X6_drawDifferences {x : Cx} {g : Gb} {E : WD → Prop} (C : CF x g RX6 cX6_drawDifferences 5 (rmk 3 66))   {σ : WD} (hE : ∀ (s2 : WD), E s2 → ∀ pc lv, decode cX6_drawDifferences pc = .ok (.return_, 1) → WW x g 5 0 0 pc lv [] s2) {t : WD} (h : f_X6_drawDifferences  σ = some t) (ht : E t) : WW x g 5 0 0 0 [(0, .ref (adr g 0)), (1, .ref (adr g 25))] [] σ := by
  unfold f_X6_drawDifferences at h
  refine x_aload_n C dX6_drawDifferences_0 rfl 0 rfl 1 rfl ?_
  refine gf_168_0 C dX6_drawDifferences_1 4 rfl ?_
  refine x_aload_n C dX6_drawDifferences_4 rfl 0 rfl 5 rfl ?_
  refine gf_162_0 C dX6_drawDifferences_5 8 rfl ?_
  refine gf_35_1 C dX6_drawDifferences_8 11 rfl ?_
  obtain ⟨σ11, h11, h⟩ := bv_some h
  refine x_callV C 27 [.int (σ.1 1 0)] (c_X0_clear_d  h11) mi_X0_clear (gt_27 g _) rfl q_566 rfl ⟨rfl, rfl⟩ ⟨Nat.le_of_ble_eq_true rfl, Nat.le_of_ble_eq_true rfl⟩ ⟨Nat.zero_le _, Nat.zero_le _⟩ _ rfl (Nat.le_of_ble_eq_true rfl) dX6_drawDifferences_11 14 rfl ?_
  refine x_iconst C (v := 0) dX6_drawDifferences_14 (by decide) 15 rfl ?_
  refine x_istore_n C [(2, .int 0), (0, .ref (adr g 0)), (1, .ref (adr g 25))] dX6_drawDifferences_15 rfl (by decide) rfl 16 rfl ?_
  exact x_sub [1, 2, 0] rfl (w_X6_drawDifferences_16 C  hE h ht)
set_option maxHeartbeats 4000000 in
set_option maxRecDepth 100000 in
theorem c_X6_drawDifferences {g : Gb} {l : Launch}   {σ : WD} {σ2 : WD} (h : f_X6_drawDifferences  σ = some σ2) : MC l g yX6_drawDifferences (.code yX6_drawDifferences cX6_drawDifferences 5 none) (rmk 3 66) [.ref (adr g 0), .ref (adr g 25)] σ none σ2 := by
  refine MC.of (by decide) (Nat.le_of_ble_eq_true rfl) (fun x C hl hr hq => ?_)
  subst hl
  exact w_X6_drawDifferences (E := fun z => z = σ2) C  (fun a he pc lv hd => by cases he; exact x_vret C hr hq hd) h rfl
set_option maxHeartbeats 4000000 in
set_option maxRecDepth 100000 in
theorem w_X6_difference_142 {x : Cx} {g : Gb} {E : Int32 × WD → Prop} (C : CF x g RX6 cX6_difference 8 (rmk 21 597))  {l1 : Int32} {l2 : Int32} {l3 : Int32} {σ : WD} (hE : ∀ (a : Int32) (s2 : WD), E (a, s2) → ∀ pc lv, decode cX6_difference pc = .ok (.ireturn, 1) → WW x g 8 0 0 pc lv [.int a] s2) {t : Int32 × WD} (h : f_X6_difference_142 l1 l2 l3 σ = some t) (ht : E t) : WW x g 8 0 0 142 [(1, .int l1), (2, .int l2), (3, .int l3)] [] σ := by
  unfold f_X6_difference_142 at h
  refine x_iload_n C dX6_difference_142 rfl 0 rfl 143 rfl ?_
  refine x_if_ne C dX6_difference_143 150 (by decide) 146 rfl (fun hc => ?_) (fun hc => ?_)
  · have h := iq hc h
    refine x_iload_n C dX6_difference_150 rfl 2 rfl 151 rfl ?_
    cases h
    exact hE _ _ ht 151 _ dX6_difference_151
  · have h := ip hc h
    refine x_iload_n C dX6_difference_146 rfl 1 rfl 147 rfl ?_
    refine x_goto C dX6_difference_147 151 (by decide) ?_
    cases h
    exact hE _ _ ht 151 _ dX6_difference_151
set_option maxHeartbeats 4000000 in
set_option maxRecDepth 100000 in
theorem w_X6_difference_121 {x : Cx} {g : Gb} {E : (Int32 × Int32 × Int32) ⊕ (Int32 × WD) → Prop} (C : CF x g RX6 cX6_difference 8 (rmk 21 597))  {l1 : Int32} {l3 : Int32} {l4 : Int32} {l7 : Int32} {s0 : Int32} {s1 : Int32} {σ : WD} (hI0 : ∀ s, E (.inl s) → WW x g 8 0 0 38 [(0, .ref (adr g 0)), (1, .int l1), (2, .int s.1), (3, .int s.2.1), (4, .int s.2.2)] [] σ) (hE : ∀ (a : Int32) (s2 : WD), E (.inr (a, s2)) → ∀ pc lv, decode cX6_difference pc = .ok (.ireturn, 1) → WW x g 8 0 0 pc lv [.int a] s2) {t : (Int32 × Int32 × Int32) ⊕ (Int32 × WD)} (h : f_X6_difference_121 l1 l3 l4 l7 s0 s1 σ = some t) (ht : E t) : WW x g 8 0 0 121 [(0, .ref (adr g 0)), (1, .int l1), (3, .int l3), (4, .int l4), (7, .int l7)] [.int s0, .int s1] σ := by
  unfold f_X6_difference_121 at h
  refine x_iadd C dX6_difference_121 122 rfl ?_
  refine x_istore_n C [(2, .int (s1 + s0)), (0, .ref (adr g 0)), (1, .int l1), (3, .int l3), (4, .int l4), (7, .int l7)] dX6_difference_122 rfl (by decide) rfl 123 rfl ?_
  refine x_iload_n C dX6_difference_123 rfl 3 rfl 124 rfl ?_
  refine x_iload C dX6_difference_124 5 rfl 126 rfl ?_
  refine x_if_eq C dX6_difference_126 133 (by decide) 129 rfl (fun hc => ?_) (fun hc => ?_)
  · have h := ip hc h
    refine x_iconst C (v := 1) dX6_difference_133 (by decide) 134 rfl ?_
    refine x_iadd C dX6_difference_134 135 rfl ?_
    refine x_istore_n C [(3, .int (l3 + 1)), (2, .int (s1 + s0)), (0, .ref (adr g 0)), (1, .int l1), (4, .int l4), (7, .int l7)] dX6_difference_135 rfl (by decide) rfl 136 rfl ?_
    refine x_iinc C [(4, .int (l4 + 1)), (3, .int (l3 + 1)), (2, .int (s1 + s0)), (0, .ref (adr g 0)), (1, .int l1), (7, .int l7)] dX6_difference_136 4 rfl rfl (by decide) rfl 139 rfl ?_
    refine x_goto C dX6_difference_139 38 (by decide) ?_
    cases h
    exact x_sub [3, 4, 2, 1, 0] rfl (hI0 ((s1 + s0), (l3 + 1), (l4 + 1)) ht)
  · have h := iq hc h
    refine x_iconst C (v := 0) dX6_difference_129 (by decide) 130 rfl ?_
    refine x_goto C dX6_difference_130 134 (by decide) ?_
    refine x_iadd C dX6_difference_134 135 rfl ?_
    refine x_istore_n C [(3, .int (l3 + 0)), (2, .int (s1 + s0)), (0, .ref (adr g 0)), (1, .int l1), (4, .int l4), (7, .int l7)] dX6_difference_135 rfl (by decide) rfl 136 rfl ?_
    refine x_iinc C [(4, .int (l4 + 1)), (3, .int (l3 + 0)), (2, .int (s1 + s0)), (0, .ref (adr g 0)), (1, .int l1), (7, .int l7)] dX6_difference_136 4 rfl rfl (by decide) rfl 139 rfl ?_
    refine x_goto C dX6_difference_139 38 (by decide) ?_
    cases h
    exact x_sub [3, 4, 2, 1, 0] rfl (hI0 ((s1 + s0), (l3 + 0), (l4 + 1)) ht)
set_option maxHeartbeats 4000000 in
set_option maxRecDepth 100000 in
theorem w_X6_difference_83 {x : Cx} {g : Gb} {E : (Int32 × Int32 × Int32) ⊕ (Int32 × WD) → Prop} (C : CF x g RX6 cX6_difference 8 (rmk 21 597))  {l1 : Int32} {l2 : Int32} {l3 : Int32} {l4 : Int32} {l5 : Int32} {s0 : Int32} {σ : WD} (hI0 : ∀ s, E (.inl s) → WW x g 8 0 0 38 [(0, .ref (adr g 0)), (1, .int l1), (2, .int s.1), (3, .int s.2.1), (4, .int s.2.2)] [] σ) (hE : ∀ (a : Int32) (s2 : WD), E (.inr (a, s2)) → ∀ pc lv, decode cX6_difference pc = .ok (.ireturn, 1) → WW x g 8 0 0 pc lv [.int a] s2) {t : (Int32 × Int32 × Int32) ⊕ (Int32 × WD)} (h : f_X6_difference_83 l1 l2 l3 l4 l5 s0 σ = some t) (ht : E t) : WW x g 8 0 0 83 [(0, .ref (adr g 0)), (1, .int l1), (2, .int l2), (3, .int l3), (4, .int l4), (5, .int l5)] [.int s0] σ := by
  unfold f_X6_difference_83 at h
  refine x_istore C [(6, .int s0), (0, .ref (adr g 0)), (1, .int l1), (2, .int l2), (3, .int l3), (4, .int l4), (5, .int l5)] dX6_difference_83 (by decide) rfl 85 rfl ?_
  refine x_iload C dX6_difference_85 0 rfl 87 rfl ?_
  refine x_if_eq C dX6_difference_87 136 (by decide) 90 rfl (fun hc => ?_) (fun hc => ?_)
  · have h := ip hc h
    refine x_iinc C [(4, .int (l4 + 1)), (6, .int s0), (0, .ref (adr g 0)), (1, .int l1), (2, .int l2), (3, .int l3), (5, .int l5)] dX6_difference_136 5 rfl rfl (by decide) rfl 139 rfl ?_
    refine x_goto C dX6_difference_139 38 (by decide) ?_
    cases h
    exact x_sub [2, 3, 4, 5, 0] rfl (hI0 (l2, l3, (l4 + 1)) ht)
  · have h := iq hc h
    refine x_iload C dX6_difference_90 6 rfl 92 rfl ?_
    obtain ⟨r92, h92, h⟩ := bv_some h
    refine x_callS C [.int l5] (c_J6_bitCount_0f7a4  h92) mi_J6_bitCount_0f7a4 q_327 rfl ⟨rfl, rfl⟩ ⟨Nat.le_of_ble_eq_true rfl, Nat.le_of_ble_eq_true rfl⟩ ⟨Nat.zero_le _, Nat.zero_le _⟩ _ rfl (Nat.le_of_ble_eq_true rfl) dX6_difference_92 95 rfl ?_
    refine x_iconst C (v := 1) dX6_difference_95 (by decide) 96 rfl ?_
    refine x_icmp_le C dX6_difference_96 136 (by decide) 99 rfl (fun hc => ?_) (fun hc => ?_)
    · have h := ip hc h
      refine x_iinc C [(4, .int (l4 + 1)), (6, .int s0), (0, .ref (adr g 0)), (1, .int l1), (2, .int l2), (3, .int l3), (5, .int l5)] dX6_difference_136 5 rfl rfl (by decide) rfl 139 rfl ?_
      refine x_goto C dX6_difference_139 38 (by decide) ?_
      cases h
      exact x_sub [2, 3, 4, 5, 0] rfl (hI0 (l2, l3, (l4 + 1)) ht)
    · have h := iq hc h
      refine x_aload_n C dX6_difference_99 rfl 1 rfl 100 rfl ?_
      refine gf_168_0 C dX6_difference_100 103 rfl ?_
      refine x_iload C dX6_difference_103 6 rfl 105 rfl ?_
      obtain ⟨r105, h105, h⟩ := bv_some h
      refine x_callV C 27 [.int l5] (c_X0_hasNoEnd_d  h105) mi_X0_hasNoEnd (gt_27 g _) rfl q_576 rfl ⟨rfl, rfl⟩ ⟨Nat.le_of_ble_eq_true rfl, Nat.le_of_ble_eq_true rfl⟩ ⟨Nat.zero_le _, Nat.zero_le _⟩ _ rfl (Nat.le_of_ble_eq_true rfl) dX6_difference_105 108 rfl ?_
      refine x_istore C [(7, .int r105), (6, .int s0), (0, .ref (adr g 0)), (1, .int l1), (2, .int l2), (3, .int l3), (4, .int l4), (5, .int l5)] dX6_difference_108 (by decide) rfl 110 rfl ?_
      refine x_iload_n C dX6_difference_110 rfl 4 rfl 111 rfl ?_
      refine x_iload C dX6_difference_111 0 rfl 113 rfl ?_
      refine x_if_eq C dX6_difference_113 120 (by decide) 116 rfl (fun hc => ?_) (fun hc => ?_)
      · have h := ip hc h
        refine x_iconst C (v := 0) dX6_difference_120 (by decide) 121 rfl ?_
        exact x_sub [2, 3, 5, 6, 0] rfl (w_X6_difference_121 C  hI0 hE h ht)
      · have h := iq hc h
        refine x_iconst C (v := 1) dX6_difference_116 (by decide) 117 rfl ?_
        refine x_goto C dX6_difference_117 121 (by decide) ?_
        exact x_sub [2, 3, 5, 6, 0] rfl (w_X6_difference_121 C  hI0 hE h ht)
set_option maxHeartbeats 4000000 in
set_option maxRecDepth 100000 in
theorem w_X6_difference_b38 {x : Cx} {g : Gb} {E : (Int32 × Int32 × Int32) ⊕ (Int32 × WD) → Prop} (C : CF x g RX6 cX6_difference 8 (rmk 21 597))  {l1 : Int32} {l2 : Int32} {l3 : Int32} {l4 : Int32} {σ : WD} (hI0 : ∀ s, E (.inl s) → WW x g 8 0 0 38 [(0, .ref (adr g 0)), (1, .int l1), (2, .int s.1), (3, .int s.2.1), (4, .int s.2.2)] [] σ) (hE : ∀ (a : Int32) (s2 : WD), E (.inr (a, s2)) → ∀ pc lv, decode cX6_difference pc = .ok (.ireturn, 1) → WW x g 8 0 0 pc lv [.int a] s2) {t : (Int32 × Int32 × Int32) ⊕ (Int32 × WD)} (h : f_X6_difference_b38 l1 l2 l3 l4 σ = some t) (ht : E t) : WW x g 8 0 0 38 [(0, .ref (adr g 0)), (1, .int l1), (2, .int l2), (3, .int l3), (4, .int l4)] [] σ := by
  unfold f_X6_difference_b38 at h
  refine x_iload C dX6_difference_38 4 rfl 40 rfl ?_
  refine x_aload_n C dX6_difference_40 rfl 0 rfl 41 rfl ?_
  refine gf_162_0 C dX6_difference_41 44 rfl ?_
  refine gf_35_1 C dX6_difference_44 47 rfl ?_
  refine x_icmp_ge C dX6_difference_47 142 (by decide) 50 rfl (fun hc => ?_) (fun hc => ?_)
  · have h := ip hc h
    obtain ⟨_, hm0, rfl⟩ := mr_some h
    exact x_sub [1, 2, 3] rfl (w_X6_difference_142 (E := fun r => E (.inr r)) C  hE hm0 ht)
  · have h := iq hc h
    refine x_aload_n C dX6_difference_50 rfl 0 rfl 51 rfl ?_
    refine gf_168_0 C dX6_difference_51 54 rfl ?_
    refine x_iload C dX6_difference_54 4 rfl 56 rfl ?_
    refine x_aload_n C dX6_difference_56 rfl 0 rfl 57 rfl ?_
    refine gf_162_0 C dX6_difference_57 60 rfl ?_
    obtain ⟨r60, h60, h⟩ := bv_some h
    refine x_callV C 1 [] (c_X0_all  h60) mi_X0_all (gt_1 g _) rfl q_322 rfl ⟨rfl, rfl⟩ ⟨Nat.le_of_ble_eq_true rfl, Nat.le_of_ble_eq_true rfl⟩ ⟨Nat.zero_le _, Nat.zero_le _⟩ _ rfl (Nat.le_of_ble_eq_true rfl) dX6_difference_60 63 rfl ?_
    obtain ⟨r63, h63, h⟩ := bv_some h
    refine x_callV C 27 [.int l4, .int r60] (c_X0_pieceOf_d  h63) mi_X0_pieceOf (gt_27 g _) rfl q_502 rfl ⟨rfl, rfl⟩ ⟨Nat.le_of_ble_eq_true rfl, Nat.le_of_ble_eq_true rfl⟩ ⟨Nat.zero_le _, Nat.zero_le _⟩ _ rfl (Nat.le_of_ble_eq_true rfl) dX6_difference_63 66 rfl ?_
    refine x_istore C [(5, .int r63), (0, .ref (adr g 0)), (1, .int l1), (2, .int l2), (3, .int l3), (4, .int l4)] dX6_difference_66 (by decide) rfl 68 rfl ?_
    refine x_iload C dX6_difference_68 0 rfl 70 rfl ?_
    obtain ⟨r70, h70, h⟩ := bv_some h
    refine x_callS C [.int r63] (c_J6_numberOfTrailingZeros_0f7a4  h70) mi_J6_numberOfTrailingZeros_0f7a4 q_503 rfl ⟨rfl, rfl⟩ ⟨Nat.le_of_ble_eq_true rfl, Nat.le_of_ble_eq_true rfl⟩ ⟨Nat.zero_le _, Nat.zero_le _⟩ _ rfl (Nat.le_of_ble_eq_true rfl) dX6_difference_70 73 rfl ?_
    refine x_iload C dX6_difference_73 5 rfl 75 rfl ?_
    refine x_icmp_ne C dX6_difference_75 82 (by decide) 78 rfl (fun hc => ?_) (fun hc => ?_)
    · have h := iq hc h
      refine x_iconst C (v := 0) dX6_difference_82 (by decide) 83 rfl ?_
      exact x_sub [1, 2, 3, 4, 5, 0] rfl (w_X6_difference_83 C  hI0 hE h ht)
    · have h := ip hc h
      refine x_iconst C (v := 1) dX6_difference_78 (by decide) 79 rfl ?_
      refine x_goto C dX6_difference_79 83 (by decide) ?_
      exact x_sub [1, 2, 3, 4, 5, 0] rfl (w_X6_difference_83 C  hI0 hE h ht)
set_option maxHeartbeats 4000000 in
set_option maxRecDepth 100000 in
theorem w_X6_difference_38 {x : Cx} {g : Gb} {E : Int32 × WD → Prop} (C : CF x g RX6 cX6_difference 8 (rmk 21 597))  {l1 : Int32} {l2 : Int32} {l3 : Int32} {l4 : Int32} {σ : WD} (hE : ∀ (a : Int32) (s2 : WD), E (a, s2) → ∀ pc lv, decode cX6_difference pc = .ok (.ireturn, 1) → WW x g 8 0 0 pc lv [.int a] s2) {t : Int32 × WD} (h : f_X6_difference_38 l1 l2 l3 l4 σ = some t) (ht : E t) : WW x g 8 0 0 38 [(0, .ref (adr g 0)), (1, .int l1), (2, .int l2), (3, .int l3), (4, .int l4)] [] σ := by
  unfold f_X6_difference_38 at h
  exact lp_ind (fun s : Int32 × Int32 × Int32 => WW x g 8 0 0 38 [(0, .ref (adr g 0)), (1, .int l1), (2, .int s.1), (3, .int s.2.1), (4, .int s.2.2)] [] σ) E h ht (fun s y hb hy => w_X6_difference_b38 (E := Sum.elim (fun s : Int32 × Int32 × Int32 => WW x g 8 0 0 38 [(0, .ref (adr g 0)), (1, .int l1), (2, .int s.1), (3, .int s.2.1), (4, .int s.2.2)] [] σ) E) C  (fun _ h => h)  hE hb hy)
set_option maxHeartbeats 4000000 in
set_option maxRecDepth 100000 in
theorem w_X6_difference_20 {x : Cx} {g : Gb} {E : Int32 × WD → Prop} (C : CF x g RX6 cX6_difference 8 (rmk 21 597))  {l1 : Int32} {σ : WD} (hE : ∀ (a : Int32) (s2 : WD), E (a, s2) → ∀ pc lv, decode cX6_difference pc = .ok (.ireturn, 1) → WW x g 8 0 0 pc lv [.int a] s2) {t : Int32 × WD} (h : f_X6_difference_20 l1 σ = some t) (ht : E t) : WW x g 8 0 0 20 [(0, .ref (adr g 0)), (1, .int l1)] [] σ := by
  unfold f_X6_difference_20 at h
  refine x_aload_n C dX6_difference_20 rfl 0 rfl 21 rfl ?_
  refine x_aload_n C dX6_difference_21 rfl 0 rfl 22 rfl ?_
  refine gf_167_0 C dX6_difference_22 25 rfl ?_
  obtain ⟨σ25, h25, h⟩ := bv_some h
  refine x_callV C 22 [] (c_X4_first  h25) mi_X4_first (gt_22 g _) rfl q_267 rfl ⟨rfl, rfl⟩ ⟨Nat.le_of_ble_eq_true rfl, Nat.le_of_ble_eq_true rfl⟩ ⟨Nat.zero_le _, Nat.zero_le _⟩ _ rfl (Nat.le_of_ble_eq_true rfl) dX6_difference_25 28 rfl ?_
  obtain ⟨σ28, h28, h⟩ := bv_some h
  refine x_callV C 0 [.ref (adr g 25)] (c_X6_drawDifferences  h28) mi_X6_drawDifferences (gt_0 g _) rfl q_562 rfl ⟨rfl, rfl⟩ ⟨Nat.le_of_ble_eq_true rfl, Nat.le_of_ble_eq_true rfl⟩ ⟨Nat.zero_le _, Nat.zero_le _⟩ _ rfl (Nat.le_of_ble_eq_true rfl) dX6_difference_28 31 rfl ?_
  refine x_iconst C (v := 0) dX6_difference_31 (by decide) 32 rfl ?_
  refine x_istore_n C [(2, .int 0), (0, .ref (adr g 0)), (1, .int l1)] dX6_difference_32 rfl (by decide) rfl 33 rfl ?_
  refine x_iconst C (v := 0) dX6_difference_33 (by decide) 34 rfl ?_
  refine x_istore_n C [(3, .int 0), (2, .int 0), (0, .ref (adr g 0)), (1, .int l1)] dX6_difference_34 rfl (by decide) rfl 35 rfl ?_
  refine x_iconst C (v := 0) dX6_difference_35 (by decide) 36 rfl ?_
  refine x_istore C [(4, .int 0), (3, .int 0), (2, .int 0), (0, .ref (adr g 0)), (1, .int l1)] dX6_difference_36 (by decide) rfl 38 rfl ?_
  exact x_sub [3, 4, 2, 1, 0] rfl (w_X6_difference_38 C  hE h ht)
set_option maxHeartbeats 4000000 in
set_option maxRecDepth 100000 in
theorem w_X6_difference {x : Cx} {g : Gb} {E : Int32 × WD → Prop} (C : CF x g RX6 cX6_difference 8 (rmk 21 597))  {a1 : Int32} {σ : WD} (hE : ∀ (a : Int32) (s2 : WD), E (a, s2) → ∀ pc lv, decode cX6_difference pc = .ok (.ireturn, 1) → WW x g 8 0 0 pc lv [.int a] s2) {t : Int32 × WD} (h : f_X6_difference a1 σ = some (.inl t)) (ht : E t) : WW x g 8 0 0 0 [(0, .ref (adr g 0)), (1, .int a1)] [] σ := by
  unfold f_X6_difference at h
  refine x_iload_n C dX6_difference_0 rfl 1 rfl 1 rfl ?_
  refine x_if_eq C dX6_difference_1 20 (by decide) 4 rfl (fun hc => ?_) (fun hc => ?_)
  · have h := ip hc h
    have h := ml_inl h
    exact x_sub [0, 1] rfl (w_X6_difference_20 C  hE h ht)
  · have h := iq hc h
    refine x_iload_n C dX6_difference_4 rfl 1 rfl 5 rfl ?_
    refine x_iconst C (v := 1) dX6_difference_5 (by decide) 6 rfl ?_
    refine x_icmp_eq C dX6_difference_6 20 (by decide) 9 rfl (fun hc => ?_) (fun hc => ?_)
    · have h := ip hc h
      have h := ml_inl h
      exact x_sub [0, 1] rfl (w_X6_difference_20 C  hE h ht)
    · have h := iq hc h
      cases h
set_option maxHeartbeats 4000000 in
set_option maxRecDepth 100000 in
theorem c_X6_difference {g : Gb} {l : Launch}  {a1 : Int32} {σ : WD} {p : Int32 × WD} (h : f_X6_difference a1 σ = some (.inl p)) : MC l g yX6_difference (.code yX6_difference cX6_difference 8 (some (.int))) (rmk 21 597) [.ref (adr g 0), .int a1] σ (some (.int p.1)) p.2 := by
  refine MC.of (by decide) (Nat.le_of_ble_eq_true rfl) (fun x C hl hr hq => ?_)
  subst hl
  exact w_X6_difference (E := fun z => z = p) C  (fun a s2 he pc lv hd => by cases he; exact x_iret C hr hq hd) h rfl
set_option maxHeartbeats 4000000 in
set_option maxRecDepth 100000 in
theorem w_X6_meanUse_79 {x : Cx} {g : Gb} {E : Option (Int32 × Int32) × WD → Prop} (C : CF x g RX6 cX6_meanUse 5 (rmk 20 574))  {l1 : Int32} {l2 : Int32} {σ : WD} (hE0 : ∀ (s2 : WD), E (none, s2) → ∀ pc lv, decode cX6_meanUse pc = .ok (.dreturn, 1) → WW x g 5 0 0 pc lv [.double FP.dconst0] s2) (hE : ∀ (a b : Int32) (s2 : WD), E (some (a, b), s2) → ∀ pc lv, decode cX6_meanUse pc = .ok (.ddiv, 1) → decode cX6_meanUse (pc + 1) = .ok (.dreturn, 1) → WW x g 5 0 0 pc lv [.double (FP.i2d b), .double (FP.i2d a)] s2) {t : Option (Int32 × Int32) × WD} (h : f_X6_meanUse_79 l1 l2 σ = some t) (ht : E t) : WW x g 5 0 0 79 [(1, .int l1), (2, .int l2)] [] σ := by
  unfold f_X6_meanUse_79 at h
  refine x_iload_n C dX6_meanUse_79 rfl 1 rfl 80 rfl ?_
  refine x_i2d C dX6_meanUse_80 81 rfl ?_
  refine x_iload_n C dX6_meanUse_81 rfl 0 rfl 82 rfl ?_
  refine x_i2d C dX6_meanUse_82 83 rfl ?_
  cases h
  exact hE _ _ _ ht 83 _ dX6_meanUse_83 dX6_meanUse_84
set_option maxHeartbeats 4000000 in
set_option maxRecDepth 100000 in
theorem w_X6_meanUse_b42 {x : Cx} {g : Gb} {E : (Int32 × Int32 × WD) ⊕ ((Int32 × Int32 × WD) ⊕ (Option (Int32 × Int32) × WD)) → Prop} (C : CF x g RX6 cX6_meanUse 5 (rmk 20 574))  {l1 : Int32} {l2 : Int32} {l3 : Int32} {l4 : Int32} {σ : WD} (hI0 : ∀ s, E (.inl s) → WW x g 5 0 0 42 [(0, .ref (adr g 0)), (1, .int l1), (2, .int s.1), (3, .int l3), (4, .int s.2.1)] [] s.2.2) (hI1 : ∀ s, E (.inr (.inl s)) → WW x g 5 0 0 26 [(0, .ref (adr g 0)), (1, .int l1), (2, .int s.1), (3, .int s.2.1)] [] s.2.2) (hE0 : ∀ (s2 : WD), E (.inr (.inr (none, s2))) → ∀ pc lv, decode cX6_meanUse pc = .ok (.dreturn, 1) → WW x g 5 0 0 pc lv [.double FP.dconst0] s2) (hE : ∀ (a b : Int32) (s2 : WD), E (.inr (.inr (some (a, b), s2))) → ∀ pc lv, decode cX6_meanUse pc = .ok (.ddiv, 1) → decode cX6_meanUse (pc + 1) = .ok (.dreturn, 1) → WW x g 5 0 0 pc lv [.double (FP.i2d b), .double (FP.i2d a)] s2) {t : (Int32 × Int32 × WD) ⊕ ((Int32 × Int32 × WD) ⊕ (Option (Int32 × Int32) × WD))} (h : f_X6_meanUse_b42 l1 l2 l3 l4 σ = some t) (ht : E t) : WW x g 5 0 0 42 [(0, .ref (adr g 0)), (1, .int l1), (2, .int l2), (3, .int l3), (4, .int l4)] [] σ := by
  unfold f_X6_meanUse_b42 at h
  refine x_iload C dX6_meanUse_42 4 rfl 44 rfl ?_
  refine x_aload_n C dX6_meanUse_44 rfl 0 rfl 45 rfl ?_
  refine gf_162_0 C dX6_meanUse_45 48 rfl ?_
  refine gf_35_1 C dX6_meanUse_48 51 rfl ?_
  refine x_icmp_ge C dX6_meanUse_51 73 (by decide) 54 rfl (fun hc => ?_) (fun hc => ?_)
  · have h := ip hc h
    refine x_iinc C [(3, .int (l3 + 1)), (0, .ref (adr g 0)), (1, .int l1), (2, .int l2), (4, .int l4)] dX6_meanUse_73 3 rfl rfl (by decide) rfl 76 rfl ?_
    refine x_goto C dX6_meanUse_76 26 (by decide) ?_
    cases h
    exact x_sub [1, 2, 3, 0] rfl (hI1 (l2, (l3 + 1), σ) ht)
  · have h := iq hc h
    refine x_iload_n C dX6_meanUse_54 rfl 2 rfl 55 rfl ?_
    refine x_aload_n C dX6_meanUse_55 rfl 0 rfl 56 rfl ?_
    refine gf_167_0 C dX6_meanUse_56 59 rfl ?_
    refine x_iload_n C dX6_meanUse_59 rfl 3 rfl 60 rfl ?_
    refine x_iload C dX6_meanUse_60 4 rfl 62 rfl ?_
    obtain ⟨r62, σ62, h62, h⟩ := bn_some h
    refine x_callV C 22 [.int l3, .int l4] (c_X4_having  h62) mi_X4_having (gt_22 g _) rfl q_370 rfl ⟨rfl, rfl⟩ ⟨Nat.le_of_ble_eq_true rfl, Nat.le_of_ble_eq_true rfl⟩ ⟨Nat.zero_le _, Nat.zero_le _⟩ _ rfl (Nat.le_of_ble_eq_true rfl) dX6_meanUse_62 65 rfl ?_
    refine x_iadd C dX6_meanUse_65 66 rfl ?_
    refine x_istore_n C [(2, .int (l2 + r62)), (0, .ref (adr g 0)), (1, .int l1), (3, .int l3), (4, .int l4)] dX6_meanUse_66 rfl (by decide) rfl 67 rfl ?_
    refine x_iinc C [(4, .int (l4 + 1)), (2, .int (l2 + r62)), (0, .ref (adr g 0)), (1, .int l1), (3, .int l3)] dX6_meanUse_67 4 rfl rfl (by decide) rfl 70 rfl ?_
    refine x_goto C dX6_meanUse_70 42 (by decide) ?_
    cases h
    exact x_sub [2, 3, 1, 4, 0] rfl (hI0 ((l2 + r62), (l4 + 1), σ62) ht)
set_option maxHeartbeats 4000000 in
set_option maxRecDepth 100000 in
theorem w_X6_meanUse_42 {x : Cx} {g : Gb} {E : (Int32 × Int32 × WD) ⊕ (Option (Int32 × Int32) × WD) → Prop} (C : CF x g RX6 cX6_meanUse 5 (rmk 20 574))  {l1 : Int32} {l2 : Int32} {l3 : Int32} {l4 : Int32} {σ : WD} (hI0 : ∀ s, E (.inl s) → WW x g 5 0 0 26 [(0, .ref (adr g 0)), (1, .int l1), (2, .int s.1), (3, .int s.2.1)] [] s.2.2) (hE0 : ∀ (s2 : WD), E (.inr (none, s2)) → ∀ pc lv, decode cX6_meanUse pc = .ok (.dreturn, 1) → WW x g 5 0 0 pc lv [.double FP.dconst0] s2) (hE : ∀ (a b : Int32) (s2 : WD), E (.inr (some (a, b), s2)) → ∀ pc lv, decode cX6_meanUse pc = .ok (.ddiv, 1) → decode cX6_meanUse (pc + 1) = .ok (.dreturn, 1) → WW x g 5 0 0 pc lv [.double (FP.i2d b), .double (FP.i2d a)] s2) {t : (Int32 × Int32 × WD) ⊕ (Option (Int32 × Int32) × WD)} (h : f_X6_meanUse_42 l1 l2 l3 l4 σ = some t) (ht : E t) : WW x g 5 0 0 42 [(0, .ref (adr g 0)), (1, .int l1), (2, .int l2), (3, .int l3), (4, .int l4)] [] σ := by
  unfold f_X6_meanUse_42 at h
  exact lp_ind (fun s : Int32 × Int32 × WD => WW x g 5 0 0 42 [(0, .ref (adr g 0)), (1, .int l1), (2, .int s.1), (3, .int l3), (4, .int s.2.1)] [] s.2.2) E h ht (fun s y hb hy => w_X6_meanUse_b42 (E := Sum.elim (fun s : Int32 × Int32 × WD => WW x g 5 0 0 42 [(0, .ref (adr g 0)), (1, .int l1), (2, .int s.1), (3, .int l3), (4, .int s.2.1)] [] s.2.2) E) C  (fun _ h => h) hI0 hE0 hE hb hy)
set_option maxHeartbeats 4000000 in
set_option maxRecDepth 100000 in
theorem w_X6_meanUse_b26 {x : Cx} {g : Gb} {E : (Int32 × Int32 × WD) ⊕ (Option (Int32 × Int32) × WD) → Prop} (C : CF x g RX6 cX6_meanUse 5 (rmk 20 574))  {l1 : Int32} {l2 : Int32} {l3 : Int32} {σ : WD} (hI0 : ∀ s, E (.inl s) → WW x g 5 0 0 26 [(0, .ref (adr g 0)), (1, .int l1), (2, .int s.1), (3, .int s.2.1)] [] s.2.2) (hE0 : ∀ (s2 : WD), E (.inr (none, s2)) → ∀ pc lv, decode cX6_meanUse pc = .ok (.dreturn, 1) → WW x g 5 0 0 pc lv [.double FP.dconst0] s2) (hE : ∀ (a b : Int32) (s2 : WD), E (.inr (some (a, b), s2)) → ∀ pc lv, decode cX6_meanUse pc = .ok (.ddiv, 1) → decode cX6_meanUse (pc + 1) = .ok (.dreturn, 1) → WW x g 5 0 0 pc lv [.double (FP.i2d b), .double (FP.i2d a)] s2) {t : (Int32 × Int32 × WD) ⊕ (Option (Int32 × Int32) × WD)} (h : f_X6_meanUse_b26 l1 l2 l3 σ = some t) (ht : E t) : WW x g 5 0 0 26 [(0, .ref (adr g 0)), (1, .int l1), (2, .int l2), (3, .int l3)] [] σ := by
  unfold f_X6_meanUse_b26 at h
  refine x_iload_n C dX6_meanUse_26 rfl 3 rfl 27 rfl ?_
  refine x_aload_n C dX6_meanUse_27 rfl 0 rfl 28 rfl ?_
  refine gf_162_0 C dX6_meanUse_28 31 rfl ?_
  refine gf_35_1 C dX6_meanUse_31 34 rfl ?_
  refine x_icmp_ge C dX6_meanUse_34 79 (by decide) 37 rfl (fun hc => ?_) (fun hc => ?_)
  · have h := ip hc h
    obtain ⟨_, hm0, rfl⟩ := mr_some h
    exact x_sub [1, 2] rfl (w_X6_meanUse_79 (E := fun r => E (.inr r)) C  hE0 hE hm0 ht)
  · have h := iq hc h
    refine x_iload_n C dX6_meanUse_37 rfl 3 rfl 38 rfl ?_
    refine x_iconst C (v := 1) dX6_meanUse_38 (by decide) 39 rfl ?_
    refine x_iadd C dX6_meanUse_39 40 rfl ?_
    refine x_istore C [(4, .int (l3 + 1)), (0, .ref (adr g 0)), (1, .int l1), (2, .int l2), (3, .int l3)] dX6_meanUse_40 (by decide) rfl 42 rfl ?_
    exact x_sub [1, 2, 3, 4, 0] rfl (w_X6_meanUse_42 C  hI0 hE0 hE h ht)
set_option maxHeartbeats 4000000 in
set_option maxRecDepth 100000 in
theorem w_X6_meanUse_26 {x : Cx} {g : Gb} {E : Option (Int32 × Int32) × WD → Prop} (C : CF x g RX6 cX6_meanUse 5 (rmk 20 574))  {l1 : Int32} {l2 : Int32} {l3 : Int32} {σ : WD} (hE0 : ∀ (s2 : WD), E (none, s2) → ∀ pc lv, decode cX6_meanUse pc = .ok (.dreturn, 1) → WW x g 5 0 0 pc lv [.double FP.dconst0] s2) (hE : ∀ (a b : Int32) (s2 : WD), E (some (a, b), s2) → ∀ pc lv, decode cX6_meanUse pc = .ok (.ddiv, 1) → decode cX6_meanUse (pc + 1) = .ok (.dreturn, 1) → WW x g 5 0 0 pc lv [.double (FP.i2d b), .double (FP.i2d a)] s2) {t : Option (Int32 × Int32) × WD} (h : f_X6_meanUse_26 l1 l2 l3 σ = some t) (ht : E t) : WW x g 5 0 0 26 [(0, .ref (adr g 0)), (1, .int l1), (2, .int l2), (3, .int l3)] [] σ := by
  unfold f_X6_meanUse_26 at h
  exact lp_ind (fun s : Int32 × Int32 × WD => WW x g 5 0 0 26 [(0, .ref (adr g 0)), (1, .int l1), (2, .int s.1), (3, .int s.2.1)] [] s.2.2) E h ht (fun s y hb hy => w_X6_meanUse_b26 (E := Sum.elim (fun s : Int32 × Int32 × WD => WW x g 5 0 0 26 [(0, .ref (adr g 0)), (1, .int l1), (2, .int s.1), (3, .int s.2.1)] [] s.2.2) E) C  (fun _ h => h)  hE0 hE hb hy)
set_option maxHeartbeats 4000000 in
set_option maxRecDepth 100000 in
theorem w_X6_meanUse {x : Cx} {g : Gb} {E : Option (Int32 × Int32) × WD → Prop} (C : CF x g RX6 cX6_meanUse 5 (rmk 20 574))   {σ : WD} (hE0 : ∀ (s2 : WD), E (none, s2) → ∀ pc lv, decode cX6_meanUse pc = .ok (.dreturn, 1) → WW x g 5 0 0 pc lv [.double FP.dconst0] s2) (hE : ∀ (a b : Int32) (s2 : WD), E (some (a, b), s2) → ∀ pc lv, decode cX6_meanUse pc = .ok (.ddiv, 1) → decode cX6_meanUse (pc + 1) = .ok (.dreturn, 1) → WW x g 5 0 0 pc lv [.double (FP.i2d b), .double (FP.i2d a)] s2) {t : Option (Int32 × Int32) × WD} (h : f_X6_meanUse  σ = some t) (ht : E t) : WW x g 5 0 0 0 [(0, .ref (adr g 0))] [] σ := by
  unfold f_X6_meanUse at h
  refine x_aload_n C dX6_meanUse_0 rfl 0 rfl 1 rfl ?_
  refine gf_162_0 C dX6_meanUse_1 4 rfl ?_
  obtain ⟨r4, h4, h⟩ := bv_some h
  refine x_callV C 1 [] (c_X0_edges  h4) mi_X0_edges (gt_1 g _) rfl q_362 rfl ⟨rfl, rfl⟩ ⟨Nat.le_of_ble_eq_true rfl, Nat.le_of_ble_eq_true rfl⟩ ⟨Nat.zero_le _, Nat.zero_le _⟩ _ rfl (Nat.le_of_ble_eq_true rfl) dX6_meanUse_4 7 rfl ?_
  refine x_aload_n C dX6_meanUse_7 rfl 0 rfl 8 rfl ?_
  refine gf_167_0 C dX6_meanUse_8 11 rfl ?_
  obtain ⟨r11, σ11, h11, h⟩ := bn_some h
  refine x_callV C 22 [] (c_X4_howMany  h11) mi_X4_howMany (gt_22 g _) rfl q_366 rfl ⟨rfl, rfl⟩ ⟨Nat.le_of_ble_eq_true rfl, Nat.le_of_ble_eq_true rfl⟩ ⟨Nat.zero_le _, Nat.zero_le _⟩ _ rfl (Nat.le_of_ble_eq_true rfl) dX6_meanUse_11 14 rfl ?_
  refine x_imul C dX6_meanUse_14 15 rfl ?_
  refine x_istore_n C [(1, .int (r4 * r11)), (0, .ref (adr g 0))] dX6_meanUse_15 rfl (by decide) rfl 16 rfl ?_
  refine x_iload_n C dX6_meanUse_16 rfl 0 rfl 17 rfl ?_
  refine x_if_ne C dX6_meanUse_17 22 (by decide) 20 rfl (fun hc => ?_) (fun hc => ?_)
  · have h := iq hc h
    refine x_iconst C (v := 0) dX6_meanUse_22 (by decide) 23 rfl ?_
    refine x_istore_n C [(2, .int 0), (1, .int (r4 * r11)), (0, .ref (adr g 0))] dX6_meanUse_23 rfl (by decide) rfl 24 rfl ?_
    refine x_iconst C (v := 0) dX6_meanUse_24 (by decide) 25 rfl ?_
    refine x_istore_n C [(3, .int 0), (2, .int 0), (1, .int (r4 * r11)), (0, .ref (adr g 0))] dX6_meanUse_25 rfl (by decide) rfl 26 rfl ?_
    exact x_sub [3, 2, 1, 0] rfl (w_X6_meanUse_26 C  hE0 hE h ht)
  · have h := ip hc h
    refine x_dconst0 C dX6_meanUse_20 21 rfl ?_
    cases h
    exact hE0 _ ht 21 _ dX6_meanUse_21
set_option maxHeartbeats 4000000 in
set_option maxRecDepth 100000 in
theorem c_X6_meanUse {l : Launch} {g : Gb} {σ : WD} {r : Option (Int32 × Int32)} {σ2 : WD} (h : f_X6_meanUse σ = some (r, σ2)) : MCD l g yX6_meanUse (.code yX6_meanUse cX6_meanUse 5 (some (.double))) (rmk 20 574) [.ref (adr g 0)] σ r σ2 := by
  refine MCD.of (by decide) (Nat.le_of_ble_eq_true rfl) (fun x C hl hr hq => ?_)
  subst hl
  exact w_X6_meanUse (E := fun z => z = (r, σ2)) C (fun s2 he pc lv hd => by cases he; exact x_dret0 C hr hq hd) (fun a b s2 he pc lv hd hd2 => by cases he; exact x_ddret C hr hq hd hd2) h rfl
set_option maxHeartbeats 4000000 in
set_option maxRecDepth 100000 in
theorem w_X6_mix {x : Cx} {g : Gb} {E : Int64 → Prop} (C : CF x g RX6 cX6_mix 4 (rmk 1 1))  {a1 : Int64} {a2 : Int64} {σ : WD} (hE : ∀ (a : Int64), E a → ∀ pc lv, decode cX6_mix pc = .ok (.lreturn, 1) → WW x g 4 0 0 pc lv [.long a] σ) {t : Int64} (h : f_X6_mix a1 a2 σ = some t) (ht : E t) : WW x g 4 0 0 0 [(0, .long a1), (2, .long a2)] [] σ := by
  unfold f_X6_mix at h
  refine x_ldc2 C dX6_mix_0 q_465 3 rfl ?_
  refine x_lload_n C dX6_mix_3 rfl 0 rfl 4 rfl ?_
  refine x_lmul C dX6_mix_4 5 rfl ?_
  refine x_lload_n C dX6_mix_5 rfl 1 rfl 6 rfl ?_
  refine x_ladd C dX6_mix_6 7 rfl ?_
  cases h
  exact hE _ ht 7 _ dX6_mix_7
set_option maxHeartbeats 4000000 in
set_option maxRecDepth 100000 in
theorem c_X6_mix {g : Gb} {l : Launch}  {a1 : Int64} {a2 : Int64} {σ : WD} {r : Int64} (h : f_X6_mix a1 a2 σ = some r) : MC l g yX6_mix (.code yX6_mix cX6_mix 4 (some (.long))) (rmk 1 1) [.long a1, .long a2] σ (some (.long r)) σ := by
  refine MC.of (by decide) (Nat.le_of_ble_eq_true rfl) (fun x C hl hr hq => ?_)
  subst hl
  exact w_X6_mix (E := fun z => z = r) C  (fun a he pc lv hd => by cases he; exact x_lret C hr hq hd) h rfl
set_option maxHeartbeats 4000000 in
set_option maxRecDepth 100000 in
theorem w_X6_mixInput_50 {x : Cx} {g : Gb} {E : Int64 → Prop} (C : CF x g RX6 cX6_mixInput 6 (rmk 2 25))  {l3 : Int64} {σ : WD} (hE : ∀ (a : Int64), E a → ∀ pc lv, decode cX6_mixInput pc = .ok (.lreturn, 1) → WW x g 6 0 0 pc lv [.long a] σ) {t : Int64} (h : f_X6_mixInput_50 l3 σ = some t) (ht : E t) : WW x g 6 0 0 50 [(3, .long l3)] [] σ := by
  unfold f_X6_mixInput_50 at h
  refine x_lload_n C dX6_mixInput_50 rfl 0 rfl 51 rfl ?_
  cases h
  exact hE _ ht 51 _ dX6_mixInput_51
set_option maxHeartbeats 4000000 in
set_option maxRecDepth 100000 in
theorem w_X6_mixInput_b16 {x : Cx} {g : Gb} {E : (Int64 × Int32) ⊕ (Int64) → Prop} (C : CF x g RX6 cX6_mixInput 6 (rmk 2 25))  {l3 : Int64} {l5 : Int32} {σ : WD} (hI0 : ∀ s, E (.inl s) → WW x g 6 0 0 16 [(0, .ref (adr g 0)), (3, .long s.1), (5, .int s.2)] [] σ) (hE : ∀ (a : Int64), E (.inr a) → ∀ pc lv, decode cX6_mixInput pc = .ok (.lreturn, 1) → WW x g 6 0 0 pc lv [.long a] σ) {t : (Int64 × Int32) ⊕ (Int64)} (h : f_X6_mixInput_b16 l3 l5 σ = some t) (ht : E t) : WW x g 6 0 0 16 [(0, .ref (adr g 0)), (3, .long l3), (5, .int l5)] [] σ := by
  unfold f_X6_mixInput_b16 at h
  refine x_iload C dX6_mixInput_16 2 rfl 18 rfl ?_
  refine x_aload_n C dX6_mixInput_18 rfl 0 rfl 19 rfl ?_
  refine gf_164_0 C dX6_mixInput_19 22 rfl ?_
  refine gf_76_5 C dX6_mixInput_22 25 rfl ?_
  refine x_icmp_ge C dX6_mixInput_25 50 (by decide) 28 rfl (fun hc => ?_) (fun hc => ?_)
  · have h := ip hc h
    obtain ⟨_, hm0, rfl⟩ := mr_some h
    exact x_sub [1] rfl (w_X6_mixInput_50 (E := fun r => E (.inr r)) C  hE hm0 ht)
  · have h := iq hc h
    refine x_lload_n C dX6_mixInput_28 rfl 1 rfl 29 rfl ?_
    refine x_aload_n C dX6_mixInput_29 rfl 0 rfl 30 rfl ?_
    refine gf_164_0 C dX6_mixInput_30 33 rfl ?_
    refine gf_74_5 C dX6_mixInput_33 36 rfl ?_
    refine x_iload C dX6_mixInput_36 2 rfl 38 rfl ?_
    obtain ⟨hin, h⟩ := gi_some h
    refine x_iald C 6 (gt_6 g _) hin dX6_mixInput_38 39 rfl ?_
    refine x_i2l C dX6_mixInput_39 40 rfl ?_
    obtain ⟨r40, h40, h⟩ := bv_some h
    refine x_callS C [.long l3, .long (((σ.1 6 (l5 : Int32).toNatClampNeg)).toInt64)] (c_X6_mix  h40) mi_X6_mix q_462 rfl ⟨rfl, rfl⟩ ⟨Nat.le_of_ble_eq_true rfl, Nat.le_of_ble_eq_true rfl⟩ ⟨Nat.zero_le _, Nat.zero_le _⟩ _ rfl (Nat.le_of_ble_eq_true rfl) dX6_mixInput_40 43 rfl ?_
    refine x_lstore_n C [(3, .long r40), (0, .ref (adr g 0)), (5, .int l5)] dX6_mixInput_43 rfl (by decide) rfl 44 rfl ?_
    refine x_iinc C [(5, .int (l5 + 1)), (3, .long r40), (0, .ref (adr g 0))] dX6_mixInput_44 2 rfl rfl (by decide) rfl 47 rfl ?_
    refine x_goto C dX6_mixInput_47 16 (by decide) ?_
    cases h
    exact x_sub [2, 1, 0] rfl (hI0 (r40, (l5 + 1)) ht)
set_option maxHeartbeats 4000000 in
set_option maxRecDepth 100000 in
theorem w_X6_mixInput_16 {x : Cx} {g : Gb} {E : Int64 → Prop} (C : CF x g RX6 cX6_mixInput 6 (rmk 2 25))  {l3 : Int64} {l5 : Int32} {σ : WD} (hE : ∀ (a : Int64), E a → ∀ pc lv, decode cX6_mixInput pc = .ok (.lreturn, 1) → WW x g 6 0 0 pc lv [.long a] σ) {t : Int64} (h : f_X6_mixInput_16 l3 l5 σ = some t) (ht : E t) : WW x g 6 0 0 16 [(0, .ref (adr g 0)), (3, .long l3), (5, .int l5)] [] σ := by
  unfold f_X6_mixInput_16 at h
  exact lp_ind (fun s : Int64 × Int32 => WW x g 6 0 0 16 [(0, .ref (adr g 0)), (3, .long s.1), (5, .int s.2)] [] σ) E h ht (fun s y hb hy => w_X6_mixInput_b16 (E := Sum.elim (fun s : Int64 × Int32 => WW x g 6 0 0 16 [(0, .ref (adr g 0)), (3, .long s.1), (5, .int s.2)] [] σ) E) C  (fun _ h => h)  hE hb hy)
set_option maxHeartbeats 4000000 in
set_option maxRecDepth 100000 in
theorem w_X6_mixInput {x : Cx} {g : Gb} {E : Int64 → Prop} (C : CF x g RX6 cX6_mixInput 6 (rmk 2 25))  {a1 : Int64} {σ : WD} (hE : ∀ (a : Int64), E a → ∀ pc lv, decode cX6_mixInput pc = .ok (.lreturn, 1) → WW x g 6 0 0 pc lv [.long a] σ) {t : Int64} (h : f_X6_mixInput a1 σ = some t) (ht : E t) : WW x g 6 0 0 0 [(0, .ref (adr g 0)), (1, .long a1)] [] σ := by
  unfold f_X6_mixInput at h
  refine x_lload_n C dX6_mixInput_0 rfl 1 rfl 1 rfl ?_
  refine x_aload_n C dX6_mixInput_1 rfl 0 rfl 2 rfl ?_
  refine gf_164_0 C dX6_mixInput_2 5 rfl ?_
  refine gf_76_5 C dX6_mixInput_5 8 rfl ?_
  refine x_i2l C dX6_mixInput_8 9 rfl ?_
  obtain ⟨r9, h9, h⟩ := bv_some h
  refine x_callS C [.long a1, .long (((σ.1 5 1)).toInt64)] (c_X6_mix  h9) mi_X6_mix q_462 rfl ⟨rfl, rfl⟩ ⟨Nat.le_of_ble_eq_true rfl, Nat.le_of_ble_eq_true rfl⟩ ⟨Nat.zero_le _, Nat.zero_le _⟩ _ rfl (Nat.le_of_ble_eq_true rfl) dX6_mixInput_9 12 rfl ?_
  refine x_lstore_n C [(3, .long r9), (0, .ref (adr g 0)), (1, .long a1)] dX6_mixInput_12 rfl (by decide) rfl 13 rfl ?_
  refine x_iconst C (v := 0) dX6_mixInput_13 (by decide) 14 rfl ?_
  refine x_istore C [(5, .int 0), (3, .long r9), (0, .ref (adr g 0)), (1, .long a1)] dX6_mixInput_14 (by decide) rfl 16 rfl ?_
  exact x_sub [2, 1, 0] rfl (w_X6_mixInput_16 C  hE h ht)
set_option maxHeartbeats 4000000 in
set_option maxRecDepth 100000 in
theorem c_X6_mixInput {g : Gb} {l : Launch}  {a1 : Int64} {σ : WD} {r : Int64} (h : f_X6_mixInput a1 σ = some r) : MC l g yX6_mixInput (.code yX6_mixInput cX6_mixInput 6 (some (.long))) (rmk 2 25) [.ref (adr g 0), .long a1] σ (some (.long r)) σ := by
  refine MC.of (by decide) (Nat.le_of_ble_eq_true rfl) (fun x C hl hr hq => ?_)
  subst hl
  exact w_X6_mixInput (E := fun z => z = r) C  (fun a he pc lv hd => by cases he; exact x_lret C hr hq hd) h rfl
set_option maxHeartbeats 4000000 in
set_option maxRecDepth 100000 in
theorem w_X6_mixPair_35 {x : Cx} {g : Gb} {E : Int64 × WD → Prop} (C : CF x g RX6 cX6_mixPair 8 (rmk 21 598))  {l5 : Int64} {σ : WD} (hE : ∀ (a : Int64) (s2 : WD), E (a, s2) → ∀ pc lv, decode cX6_mixPair pc = .ok (.lreturn, 1) → WW x g 8 0 0 pc lv [.long a] s2) {t : Int64 × WD} (h : f_X6_mixPair_35 l5 σ = some t) (ht : E t) : WW x g 8 0 0 35 [(5, .long l5)] [] σ := by
  unfold f_X6_mixPair_35 at h
  refine x_lload C dX6_mixPair_35 0 rfl 37 rfl ?_
  cases h
  exact hE _ _ ht 37 _ dX6_mixPair_37
set_option maxHeartbeats 4000000 in
set_option maxRecDepth 100000 in
theorem w_X6_mixPair_b6 {x : Cx} {g : Gb} {E : (Int64 × Int32 × WD) ⊕ (Int64 × WD) → Prop} (C : CF x g RX6 cX6_mixPair 8 (rmk 21 598))  {l3 : Int32} {l4 : Int32} {l5 : Int64} {l7 : Int32} {σ : WD} (hI0 : ∀ s, E (.inl s) → WW x g 8 0 0 6 [(0, .ref (adr g 0)), (3, .int l3), (4, .int l4), (5, .long s.1), (7, .int s.2.1)] [] s.2.2) (hE : ∀ (a : Int64) (s2 : WD), E (.inr (a, s2)) → ∀ pc lv, decode cX6_mixPair pc = .ok (.lreturn, 1) → WW x g 8 0 0 pc lv [.long a] s2) {t : (Int64 × Int32 × WD) ⊕ (Int64 × WD)} (h : f_X6_mixPair_b6 l3 l4 l5 l7 σ = some t) (ht : E t) : WW x g 8 0 0 6 [(0, .ref (adr g 0)), (3, .int l3), (4, .int l4), (5, .long l5), (7, .int l7)] [] σ := by
  unfold f_X6_mixPair_b6 at h
  refine x_iload C dX6_mixPair_6 4 rfl 8 rfl ?_
  refine x_iconst C (v := 2) dX6_mixPair_8 (by decide) 9 rfl ?_
  refine x_icmp_gt C dX6_mixPair_9 35 (by decide) 12 rfl (fun hc => ?_) (fun hc => ?_)
  · have h := ip hc h
    obtain ⟨_, hm0, rfl⟩ := mr_some h
    exact x_sub [3] rfl (w_X6_mixPair_35 (E := fun r => E (.inr r)) C  hE hm0 ht)
  · have h := iq hc h
    refine x_lload C dX6_mixPair_12 3 rfl 14 rfl ?_
    refine x_aload_n C dX6_mixPair_14 rfl 0 rfl 15 rfl ?_
    refine x_iload_n C dX6_mixPair_15 rfl 1 rfl 16 rfl ?_
    refine x_iload C dX6_mixPair_16 2 rfl 18 rfl ?_
    refine x_iload C dX6_mixPair_18 4 rfl 20 rfl ?_
    obtain ⟨p20, h20, h⟩ := bq_some h
    refine x_callV C 0 [.int l3, .int l4, .int l7] (c_X6_edge  h20) mi_X6_edge (gt_0 g _) rfl q_549 rfl ⟨rfl, rfl⟩ ⟨Nat.le_of_ble_eq_true rfl, Nat.le_of_ble_eq_true rfl⟩ ⟨Nat.zero_le _, Nat.zero_le _⟩ _ rfl (Nat.le_of_ble_eq_true rfl) dX6_mixPair_20 23 rfl ?_
    refine x_i2l C dX6_mixPair_23 24 rfl ?_
    obtain ⟨r24, h24, h⟩ := bv_some h
    refine x_callS C [.long l5, .long ((p20.1).toInt64)] (c_X6_mix  h24) mi_X6_mix q_462 rfl ⟨rfl, rfl⟩ ⟨Nat.le_of_ble_eq_true rfl, Nat.le_of_ble_eq_true rfl⟩ ⟨Nat.zero_le _, Nat.zero_le _⟩ _ rfl (Nat.le_of_ble_eq_true rfl) dX6_mixPair_24 27 rfl ?_
    refine x_lstore C [(5, .long r24), (0, .ref (adr g 0)), (3, .int l3), (4, .int l4), (7, .int l7)] dX6_mixPair_27 (by decide) rfl 29 rfl ?_
    refine x_iinc C [(7, .int (l7 + 1)), (5, .long r24), (0, .ref (adr g 0)), (3, .int l3), (4, .int l4)] dX6_mixPair_29 4 rfl rfl (by decide) rfl 32 rfl ?_
    refine x_goto C dX6_mixPair_32 6 (by decide) ?_
    cases h
    exact x_sub [2, 3, 4, 1, 0] rfl (hI0 (r24, (l7 + 1), p20.2) ht)
set_option maxHeartbeats 4000000 in
set_option maxRecDepth 100000 in
theorem w_X6_mixPair_6 {x : Cx} {g : Gb} {E : Int64 × WD → Prop} (C : CF x g RX6 cX6_mixPair 8 (rmk 21 598))  {l3 : Int32} {l4 : Int32} {l5 : Int64} {l7 : Int32} {σ : WD} (hE : ∀ (a : Int64) (s2 : WD), E (a, s2) → ∀ pc lv, decode cX6_mixPair pc = .ok (.lreturn, 1) → WW x g 8 0 0 pc lv [.long a] s2) {t : Int64 × WD} (h : f_X6_mixPair_6 l3 l4 l5 l7 σ = some t) (ht : E t) : WW x g 8 0 0 6 [(0, .ref (adr g 0)), (3, .int l3), (4, .int l4), (5, .long l5), (7, .int l7)] [] σ := by
  unfold f_X6_mixPair_6 at h
  exact lp_ind (fun s : Int64 × Int32 × WD => WW x g 8 0 0 6 [(0, .ref (adr g 0)), (3, .int l3), (4, .int l4), (5, .long s.1), (7, .int s.2.1)] [] s.2.2) E h ht (fun s y hb hy => w_X6_mixPair_b6 (E := Sum.elim (fun s : Int64 × Int32 × WD => WW x g 8 0 0 6 [(0, .ref (adr g 0)), (3, .int l3), (4, .int l4), (5, .long s.1), (7, .int s.2.1)] [] s.2.2) E) C  (fun _ h => h)  hE hb hy)
set_option maxHeartbeats 4000000 in
set_option maxRecDepth 100000 in
theorem w_X6_mixPair {x : Cx} {g : Gb} {E : Int64 × WD → Prop} (C : CF x g RX6 cX6_mixPair 8 (rmk 21 598))  {a1 : Int64} {a2 : Int32} {a3 : Int32} {σ : WD} (hE : ∀ (a : Int64) (s2 : WD), E (a, s2) → ∀ pc lv, decode cX6_mixPair pc = .ok (.lreturn, 1) → WW x g 8 0 0 pc lv [.long a] s2) {t : Int64 × WD} (h : f_X6_mixPair a1 a2 a3 σ = some t) (ht : E t) : WW x g 8 0 0 0 [(0, .ref (adr g 0)), (1, .long a1), (3, .int a2), (4, .int a3)] [] σ := by
  unfold f_X6_mixPair at h
  refine x_lload_n C dX6_mixPair_0 rfl 1 rfl 1 rfl ?_
  refine x_lstore C [(5, .long a1), (0, .ref (adr g 0)), (1, .long a1), (3, .int a2), (4, .int a3)] dX6_mixPair_1 (by decide) rfl 3 rfl ?_
  refine x_iconst C (v := 0) dX6_mixPair_3 (by decide) 4 rfl ?_
  refine x_istore C [(7, .int 0), (5, .long a1), (0, .ref (adr g 0)), (1, .long a1), (3, .int a2), (4, .int a3)] dX6_mixPair_4 (by decide) rfl 6 rfl ?_
  exact x_sub [2, 4, 5, 1, 0] rfl (w_X6_mixPair_6 C  hE h ht)
set_option maxHeartbeats 4000000 in
set_option maxRecDepth 100000 in
theorem c_X6_mixPair {g : Gb} {l : Launch}  {a1 : Int64} {a2 : Int32} {a3 : Int32} {σ : WD} {r : Int64} {σ2 : WD} (h : f_X6_mixPair a1 a2 a3 σ = some (r, σ2)) : MC l g yX6_mixPair (.code yX6_mixPair cX6_mixPair 8 (some (.long))) (rmk 21 598) [.ref (adr g 0), .long a1, .int a2, .int a3] σ (some (.long r)) σ2 := by
  refine MC.of (by decide) (Nat.le_of_ble_eq_true rfl) (fun x C hl hr hq => ?_)
  subst hl
  exact w_X6_mixPair (E := fun z => z = (r, σ2)) C  (fun a s2 he pc lv hd => by cases he; exact x_lret C hr hq hd) h rfl
set_option maxHeartbeats 4000000 in
set_option maxRecDepth 100000 in
theorem w_X6_mixNode_33 {x : Cx} {g : Gb} {E : Int64 × WD → Prop} (C : CF x g RX6 cX6_mixNode 7 (rmk 24 619))  {l3 : Int32} {l4 : Int64} {σ : WD} (hE : ∀ (a : Int64) (s2 : WD), E (a, s2) → ∀ pc lv, decode cX6_mixNode pc = .ok (.lreturn, 1) → WW x g 7 0 0 pc lv [.long a] s2) {t : Int64 × WD} (h : f_X6_mixNode_33 l3 l4 σ = some t) (ht : E t) : WW x g 7 0 0 33 [(0, .ref (adr g 0)), (3, .int l3), (4, .long l4)] [] σ := by
  unfold f_X6_mixNode_33 at h
  refine x_lload C dX6_mixNode_33 2 rfl 35 rfl ?_
  refine x_aload_n C dX6_mixNode_35 rfl 0 rfl 36 rfl ?_
  refine x_iload_n C dX6_mixNode_36 rfl 1 rfl 37 rfl ?_
  obtain ⟨p37, h37, h⟩ := bq_some h
  refine x_callV C 0 [.int l3] (c_X6_firstMate  h37) mi_X6_firstMate (gt_0 g _) rfl q_505 rfl ⟨rfl, rfl⟩ ⟨Nat.le_of_ble_eq_true rfl, Nat.le_of_ble_eq_true rfl⟩ ⟨Nat.zero_le _, Nat.zero_le _⟩ _ rfl (Nat.le_of_ble_eq_true rfl) dX6_mixNode_37 40 rfl ?_
  refine x_i2l C dX6_mixNode_40 41 rfl ?_
  obtain ⟨r41, h41, h⟩ := bv_some h
  refine x_callS C [.long l4, .long ((p37.1).toInt64)] (c_X6_mix  h41) mi_X6_mix q_462 rfl ⟨rfl, rfl⟩ ⟨Nat.le_of_ble_eq_true rfl, Nat.le_of_ble_eq_true rfl⟩ ⟨Nat.zero_le _, Nat.zero_le _⟩ _ rfl (Nat.le_of_ble_eq_true rfl) dX6_mixNode_41 44 rfl ?_
  refine x_lstore C [(4, .long r41), (0, .ref (adr g 0)), (3, .int l3)] dX6_mixNode_44 (by decide) rfl 46 rfl ?_
  refine x_lload C dX6_mixNode_46 0 rfl 48 rfl ?_
  refine x_aload_n C dX6_mixNode_48 rfl 1 rfl 49 rfl ?_
  refine x_iload_n C dX6_mixNode_49 rfl 2 rfl 50 rfl ?_
  refine x_iconst C (v := 1) dX6_mixNode_50 (by decide) 51 rfl ?_
  obtain ⟨p51, h51, h⟩ := bq_some h
  refine x_callV C 0 [.int l3, .int 1] (c_X6_reach  h51) mi_X6_reach (gt_0 g _) rfl q_509 rfl ⟨rfl, rfl⟩ ⟨Nat.le_of_ble_eq_true rfl, Nat.le_of_ble_eq_true rfl⟩ ⟨Nat.zero_le _, Nat.zero_le _⟩ _ rfl (Nat.le_of_ble_eq_true rfl) dX6_mixNode_51 54 rfl ?_
  refine x_i2l C dX6_mixNode_54 55 rfl ?_
  obtain ⟨r55, h55, h⟩ := bv_some h
  refine x_callS C [.long r41, .long ((p51.1).toInt64)] (c_X6_mix  h55) mi_X6_mix q_462 rfl ⟨rfl, rfl⟩ ⟨Nat.le_of_ble_eq_true rfl, Nat.le_of_ble_eq_true rfl⟩ ⟨Nat.zero_le _, Nat.zero_le _⟩ _ rfl (Nat.le_of_ble_eq_true rfl) dX6_mixNode_55 58 rfl ?_
  refine x_lstore C [(4, .long r55), (0, .ref (adr g 0)), (3, .int l3)] dX6_mixNode_58 (by decide) rfl 60 rfl ?_
  refine x_lload C dX6_mixNode_60 0 rfl 62 rfl ?_
  refine x_aload_n C dX6_mixNode_62 rfl 1 rfl 63 rfl ?_
  refine x_iload_n C dX6_mixNode_63 rfl 2 rfl 64 rfl ?_
  refine x_iconst C (v := 0) dX6_mixNode_64 (by decide) 65 rfl ?_
  obtain ⟨p65, h65, h⟩ := bq_some h
  refine x_callV C 0 [.int l3, .int 0] (c_X6_reach  h65) mi_X6_reach (gt_0 g _) rfl q_509 rfl ⟨rfl, rfl⟩ ⟨Nat.le_of_ble_eq_true rfl, Nat.le_of_ble_eq_true rfl⟩ ⟨Nat.zero_le _, Nat.zero_le _⟩ _ rfl (Nat.le_of_ble_eq_true rfl) dX6_mixNode_65 68 rfl ?_
  refine x_i2l C dX6_mixNode_68 69 rfl ?_
  obtain ⟨r69, h69, h⟩ := bv_some h
  refine x_callS C [.long r55, .long ((p65.1).toInt64)] (c_X6_mix  h69) mi_X6_mix q_462 rfl ⟨rfl, rfl⟩ ⟨Nat.le_of_ble_eq_true rfl, Nat.le_of_ble_eq_true rfl⟩ ⟨Nat.zero_le _, Nat.zero_le _⟩ _ rfl (Nat.le_of_ble_eq_true rfl) dX6_mixNode_69 72 rfl ?_
  refine x_lstore C [(4, .long r69), (0, .ref (adr g 0)), (3, .int l3)] dX6_mixNode_72 (by decide) rfl 74 rfl ?_
  refine x_aload_n C dX6_mixNode_74 rfl 1 rfl 75 rfl ?_
  refine gf_163_0 C dX6_mixNode_75 78 rfl ?_
  refine x_iload_n C dX6_mixNode_78 rfl 2 rfl 79 rfl ?_
  obtain ⟨r79, h79, h⟩ := bv_some h
  refine x_callV C 3 [.int l3] (c_X3_isExposed  h79) mi_X3_isExposed (gt_3 g _) rfl q_222 rfl ⟨rfl, rfl⟩ ⟨Nat.le_of_ble_eq_true rfl, Nat.le_of_ble_eq_true rfl⟩ ⟨Nat.zero_le _, Nat.zero_le _⟩ _ rfl (Nat.le_of_ble_eq_true rfl) dX6_mixNode_79 82 rfl ?_
  refine x_if_eq C dX6_mixNode_82 99 (by decide) 85 rfl (fun hc => ?_) (fun hc => ?_)
  · have h := ip hc h
    refine x_lload C dX6_mixNode_99 0 rfl 101 rfl ?_
    cases h
    exact hE _ _ ht 101 _ dX6_mixNode_101
  · have h := iq hc h
    refine x_lload C dX6_mixNode_85 0 rfl 87 rfl ?_
    refine x_aload_n C dX6_mixNode_87 rfl 1 rfl 88 rfl ?_
    refine x_iload_n C dX6_mixNode_88 rfl 2 rfl 89 rfl ?_
    obtain ⟨p89, h89, h⟩ := bq_some h
    refine x_callV C 0 [.int l3] (c_X6_way  h89) mi_X6_way (gt_0 g _) rfl q_521 rfl ⟨rfl, rfl⟩ ⟨Nat.le_of_ble_eq_true rfl, Nat.le_of_ble_eq_true rfl⟩ ⟨Nat.zero_le _, Nat.zero_le _⟩ _ rfl (Nat.le_of_ble_eq_true rfl) dX6_mixNode_89 92 rfl ?_
    refine x_i2l C dX6_mixNode_92 93 rfl ?_
    obtain ⟨r93, h93, h⟩ := bv_some h
    refine x_callS C [.long r69, .long ((p89.1).toInt64)] (c_X6_mix  h93) mi_X6_mix q_462 rfl ⟨rfl, rfl⟩ ⟨Nat.le_of_ble_eq_true rfl, Nat.le_of_ble_eq_true rfl⟩ ⟨Nat.zero_le _, Nat.zero_le _⟩ _ rfl (Nat.le_of_ble_eq_true rfl) dX6_mixNode_93 96 rfl ?_
    refine x_goto C dX6_mixNode_96 101 (by decide) ?_
    cases h
    exact hE _ _ ht 101 _ dX6_mixNode_101
set_option maxHeartbeats 4000000 in
set_option maxRecDepth 100000 in
theorem w_X6_mixNode_b6 {x : Cx} {g : Gb} {E : (Int64 × Int32 × WD) ⊕ (Int64 × WD) → Prop} (C : CF x g RX6 cX6_mixNode 7 (rmk 24 619))  {l3 : Int32} {l4 : Int64} {l6 : Int32} {σ : WD} (hI0 : ∀ s, E (.inl s) → WW x g 7 0 0 6 [(0, .ref (adr g 0)), (3, .int l3), (4, .long s.1), (6, .int s.2.1)] [] s.2.2) (hE : ∀ (a : Int64) (s2 : WD), E (.inr (a, s2)) → ∀ pc lv, decode cX6_mixNode pc = .ok (.lreturn, 1) → WW x g 7 0 0 pc lv [.long a] s2) {t : (Int64 × Int32 × WD) ⊕ (Int64 × WD)} (h : f_X6_mixNode_b6 l3 l4 l6 σ = some t) (ht : E t) : WW x g 7 0 0 6 [(0, .ref (adr g 0)), (3, .int l3), (4, .long l4), (6, .int l6)] [] σ := by
  unfold f_X6_mixNode_b6 at h
  refine x_iload C dX6_mixNode_6 3 rfl 8 rfl ?_
  refine x_iconst C (v := 4) dX6_mixNode_8 (by decide) 9 rfl ?_
  refine x_icmp_gt C dX6_mixNode_9 33 (by decide) 12 rfl (fun hc => ?_) (fun hc => ?_)
  · have h := ip hc h
    obtain ⟨_, hm0, rfl⟩ := mr_some h
    exact x_sub [0, 1, 2] rfl (w_X6_mixNode_33 (E := fun r => E (.inr r)) C  hE hm0 ht)
  · have h := iq hc h
    refine x_lload C dX6_mixNode_12 2 rfl 14 rfl ?_
    refine x_aload_n C dX6_mixNode_14 rfl 0 rfl 15 rfl ?_
    refine x_iload_n C dX6_mixNode_15 rfl 1 rfl 16 rfl ?_
    refine x_iload C dX6_mixNode_16 3 rfl 18 rfl ?_
    obtain ⟨p18, h18, h⟩ := bq_some h
    refine x_callV C 0 [.int l3, .int l6] (c_X6_node  h18) mi_X6_node (gt_0 g _) rfl q_470 rfl ⟨rfl, rfl⟩ ⟨Nat.le_of_ble_eq_true rfl, Nat.le_of_ble_eq_true rfl⟩ ⟨Nat.zero_le _, Nat.zero_le _⟩ _ rfl (Nat.le_of_ble_eq_true rfl) dX6_mixNode_18 21 rfl ?_
    refine x_i2l C dX6_mixNode_21 22 rfl ?_
    obtain ⟨r22, h22, h⟩ := bv_some h
    refine x_callS C [.long l4, .long ((p18.1).toInt64)] (c_X6_mix  h22) mi_X6_mix q_462 rfl ⟨rfl, rfl⟩ ⟨Nat.le_of_ble_eq_true rfl, Nat.le_of_ble_eq_true rfl⟩ ⟨Nat.zero_le _, Nat.zero_le _⟩ _ rfl (Nat.le_of_ble_eq_true rfl) dX6_mixNode_22 25 rfl ?_
    refine x_lstore C [(4, .long r22), (0, .ref (adr g 0)), (3, .int l3), (6, .int l6)] dX6_mixNode_25 (by decide) rfl 27 rfl ?_
    refine x_iinc C [(6, .int (l6 + 1)), (4, .long r22), (0, .ref (adr g 0)), (3, .int l3)] dX6_mixNode_27 3 rfl rfl (by decide) rfl 30 rfl ?_
    refine x_goto C dX6_mixNode_30 6 (by decide) ?_
    cases h
    exact x_sub [2, 3, 1, 0] rfl (hI0 (r22, (l6 + 1), p18.2) ht)
set_option maxHeartbeats 4000000 in
set_option maxRecDepth 100000 in
theorem w_X6_mixNode_6 {x : Cx} {g : Gb} {E : Int64 × WD → Prop} (C : CF x g RX6 cX6_mixNode 7 (rmk 24 619))  {l3 : Int32} {l4 : Int64} {l6 : Int32} {σ : WD} (hE : ∀ (a : Int64) (s2 : WD), E (a, s2) → ∀ pc lv, decode cX6_mixNode pc = .ok (.lreturn, 1) → WW x g 7 0 0 pc lv [.long a] s2) {t : Int64 × WD} (h : f_X6_mixNode_6 l3 l4 l6 σ = some t) (ht : E t) : WW x g 7 0 0 6 [(0, .ref (adr g 0)), (3, .int l3), (4, .long l4), (6, .int l6)] [] σ := by
  unfold f_X6_mixNode_6 at h
  exact lp_ind (fun s : Int64 × Int32 × WD => WW x g 7 0 0 6 [(0, .ref (adr g 0)), (3, .int l3), (4, .long s.1), (6, .int s.2.1)] [] s.2.2) E h ht (fun s y hb hy => w_X6_mixNode_b6 (E := Sum.elim (fun s : Int64 × Int32 × WD => WW x g 7 0 0 6 [(0, .ref (adr g 0)), (3, .int l3), (4, .long s.1), (6, .int s.2.1)] [] s.2.2) E) C  (fun _ h => h)  hE hb hy)
set_option maxHeartbeats 4000000 in
set_option maxRecDepth 100000 in
theorem w_X6_mixNode {x : Cx} {g : Gb} {E : Int64 × WD → Prop} (C : CF x g RX6 cX6_mixNode 7 (rmk 24 619))  {a1 : Int64} {a2 : Int32} {σ : WD} (hE : ∀ (a : Int64) (s2 : WD), E (a, s2) → ∀ pc lv, decode cX6_mixNode pc = .ok (.lreturn, 1) → WW x g 7 0 0 pc lv [.long a] s2) {t : Int64 × WD} (h : f_X6_mixNode a1 a2 σ = some t) (ht : E t) : WW x g 7 0 0 0 [(0, .ref (adr g 0)), (1, .long a1), (3, .int a2)] [] σ := by
  unfold f_X6_mixNode at h
  refine x_lload_n C dX6_mixNode_0 rfl 1 rfl 1 rfl ?_
  refine x_lstore C [(4, .long a1), (0, .ref (adr g 0)), (1, .long a1), (3, .int a2)] dX6_mixNode_1 (by decide) rfl 3 rfl ?_
  refine x_iconst C (v := 0) dX6_mixNode_3 (by decide) 4 rfl ?_
  refine x_istore C [(6, .int 0), (4, .long a1), (0, .ref (adr g 0)), (1, .long a1), (3, .int a2)] dX6_mixNode_4 (by decide) rfl 6 rfl ?_
  exact x_sub [2, 4, 1, 0] rfl (w_X6_mixNode_6 C  hE h ht)
set_option maxHeartbeats 4000000 in
set_option maxRecDepth 100000 in
theorem c_X6_mixNode {g : Gb} {l : Launch}  {a1 : Int64} {a2 : Int32} {σ : WD} {r : Int64} {σ2 : WD} (h : f_X6_mixNode a1 a2 σ = some (r, σ2)) : MC l g yX6_mixNode (.code yX6_mixNode cX6_mixNode 7 (some (.long))) (rmk 24 619) [.ref (adr g 0), .long a1, .int a2] σ (some (.long r)) σ2 := by
  refine MC.of (by decide) (Nat.le_of_ble_eq_true rfl) (fun x C hl hr hq => ?_)
  subst hl
  exact w_X6_mixNode (E := fun z => z = (r, σ2)) C  (fun a s2 he pc lv hd => by cases he; exact x_lret C hr hq hd) h rfl
set_option maxHeartbeats 4000000 in
set_option maxRecDepth 100000 in
theorem w_X6_digest_106 {x : Cx} {g : Gb} {E : Int64 × WD → Prop} (C : CF x g RX6 cX6_digest 5 (rmk 25 646))  {l1 : Int64} {σ : WD} (hE : ∀ (a : Int64) (s2 : WD), E (a, s2) → ∀ pc lv, decode cX6_digest pc = .ok (.lreturn, 1) → WW x g 5 0 0 pc lv [.long a] s2) {t : Int64 × WD} (h : f_X6_digest_106 l1 σ = some t) (ht : E t) : WW x g 5 0 0 106 [(0, .ref (adr g 0)), (1, .long l1)] [] σ := by
  unfold f_X6_digest_106 at h
  refine x_lload_n C dX6_digest_106 rfl 1 rfl 107 rfl ?_
  refine x_aload_n C dX6_digest_107 rfl 0 rfl 108 rfl ?_
  obtain ⟨r108, σ108, h108, h⟩ := bn_some h
  refine x_callV C 0 [] (c_X6_proof  h108) mi_X6_proof (gt_0 g _) rfl q_555 rfl ⟨rfl, rfl⟩ ⟨Nat.le_of_ble_eq_true rfl, Nat.le_of_ble_eq_true rfl⟩ ⟨Nat.zero_le _, Nat.zero_le _⟩ _ rfl (Nat.le_of_ble_eq_true rfl) dX6_digest_108 111 rfl ?_
  refine x_i2l C dX6_digest_111 112 rfl ?_
  obtain ⟨r112, h112, h⟩ := bv_some h
  refine x_callS C [.long l1, .long ((r108).toInt64)] (c_X6_mix  h112) mi_X6_mix q_462 rfl ⟨rfl, rfl⟩ ⟨Nat.le_of_ble_eq_true rfl, Nat.le_of_ble_eq_true rfl⟩ ⟨Nat.zero_le _, Nat.zero_le _⟩ _ rfl (Nat.le_of_ble_eq_true rfl) dX6_digest_112 115 rfl ?_
  refine x_lstore_n C [(1, .long r112), (0, .ref (adr g 0))] dX6_digest_115 rfl (by decide) rfl 116 rfl ?_
  refine x_lload_n C dX6_digest_116 rfl 0 rfl 117 rfl ?_
  refine x_aload_n C dX6_digest_117 rfl 1 rfl 118 rfl ?_
  obtain ⟨r118, h118, h⟩ := bv_some h
  refine x_callV C 0 [] (c_X6_oddCycle  h118) mi_X6_oddCycle (gt_0 g _) rfl q_556 rfl ⟨rfl, rfl⟩ ⟨Nat.le_of_ble_eq_true rfl, Nat.le_of_ble_eq_true rfl⟩ ⟨Nat.zero_le _, Nat.zero_le _⟩ _ rfl (Nat.le_of_ble_eq_true rfl) dX6_digest_118 121 rfl ?_
  refine x_i2l C dX6_digest_121 122 rfl ?_
  obtain ⟨r122, h122, h⟩ := bv_some h
  refine x_callS C [.long r112, .long ((r118).toInt64)] (c_X6_mix  h122) mi_X6_mix q_462 rfl ⟨rfl, rfl⟩ ⟨Nat.le_of_ble_eq_true rfl, Nat.le_of_ble_eq_true rfl⟩ ⟨Nat.zero_le _, Nat.zero_le _⟩ _ rfl (Nat.le_of_ble_eq_true rfl) dX6_digest_122 125 rfl ?_
  refine x_lstore_n C [(1, .long r122), (0, .ref (adr g 0))] dX6_digest_125 rfl (by decide) rfl 126 rfl ?_
  refine x_lload_n C dX6_digest_126 rfl 0 rfl 127 rfl ?_
  refine x_aload_n C dX6_digest_127 rfl 1 rfl 128 rfl ?_
  refine x_iconst C (v := 0) dX6_digest_128 (by decide) 129 rfl ?_
  obtain ⟨p129, h129, h⟩ := bq_some h
  refine x_callV C 0 [.int 0] (c_X6_difference  h129) mi_X6_difference (gt_0 g _) rfl q_557 rfl ⟨rfl, rfl⟩ ⟨Nat.le_of_ble_eq_true rfl, Nat.le_of_ble_eq_true rfl⟩ ⟨Nat.zero_le _, Nat.zero_le _⟩ _ rfl (Nat.le_of_ble_eq_true rfl) dX6_digest_129 132 rfl ?_
  refine x_i2l C dX6_digest_132 133 rfl ?_
  obtain ⟨r133, h133, h⟩ := bv_some h
  refine x_callS C [.long r122, .long ((p129.1).toInt64)] (c_X6_mix  h133) mi_X6_mix q_462 rfl ⟨rfl, rfl⟩ ⟨Nat.le_of_ble_eq_true rfl, Nat.le_of_ble_eq_true rfl⟩ ⟨Nat.zero_le _, Nat.zero_le _⟩ _ rfl (Nat.le_of_ble_eq_true rfl) dX6_digest_133 136 rfl ?_
  refine x_lstore_n C [(1, .long r133), (0, .ref (adr g 0))] dX6_digest_136 rfl (by decide) rfl 137 rfl ?_
  refine x_lload_n C dX6_digest_137 rfl 0 rfl 138 rfl ?_
  refine x_aload_n C dX6_digest_138 rfl 1 rfl 139 rfl ?_
  refine x_iconst C (v := 1) dX6_digest_139 (by decide) 140 rfl ?_
  obtain ⟨p140, h140, h⟩ := bq_some h
  refine x_callV C 0 [.int 1] (c_X6_difference  h140) mi_X6_difference (gt_0 g _) rfl q_557 rfl ⟨rfl, rfl⟩ ⟨Nat.le_of_ble_eq_true rfl, Nat.le_of_ble_eq_true rfl⟩ ⟨Nat.zero_le _, Nat.zero_le _⟩ _ rfl (Nat.le_of_ble_eq_true rfl) dX6_digest_140 143 rfl ?_
  refine x_i2l C dX6_digest_143 144 rfl ?_
  obtain ⟨r144, h144, h⟩ := bv_some h
  refine x_callS C [.long r133, .long ((p140.1).toInt64)] (c_X6_mix  h144) mi_X6_mix q_462 rfl ⟨rfl, rfl⟩ ⟨Nat.le_of_ble_eq_true rfl, Nat.le_of_ble_eq_true rfl⟩ ⟨Nat.zero_le _, Nat.zero_le _⟩ _ rfl (Nat.le_of_ble_eq_true rfl) dX6_digest_144 147 rfl ?_
  refine x_lstore_n C [(1, .long r144), (0, .ref (adr g 0))] dX6_digest_147 rfl (by decide) rfl 148 rfl ?_
  refine x_aload_n C dX6_digest_148 rfl 1 rfl 149 rfl ?_
  refine x_lload_n C dX6_digest_149 rfl 0 rfl 150 rfl ?_
  obtain ⟨r150, h150, h⟩ := bv_some h
  refine x_callV C 0 [.long r144] (c_X6_mixInput  h150) mi_X6_mixInput (gt_0 g _) rfl q_580 rfl ⟨rfl, rfl⟩ ⟨Nat.le_of_ble_eq_true rfl, Nat.le_of_ble_eq_true rfl⟩ ⟨Nat.zero_le _, Nat.zero_le _⟩ _ rfl (Nat.le_of_ble_eq_true rfl) dX6_digest_150 153 rfl ?_
  cases h
  exact hE _ _ ht 153 _ dX6_digest_153
set_option maxHeartbeats 4000000 in
set_option maxRecDepth 100000 in
theorem w_X6_digest_b73 {x : Cx} {g : Gb} {E : (Int64 × Int32 × WD) ⊕ ((Int64 × Int32 × WD) ⊕ (Int64 × WD)) → Prop} (C : CF x g RX6 cX6_digest 5 (rmk 25 646))  {l1 : Int64} {l3 : Int32} {l4 : Int32} {σ : WD} (hI0 : ∀ s, E (.inl s) → WW x g 5 0 0 73 [(0, .ref (adr g 0)), (1, .long s.1), (3, .int l3), (4, .int s.2.1)] [] s.2.2) (hI1 : ∀ s, E (.inr (.inl s)) → WW x g 5 0 0 57 [(0, .ref (adr g 0)), (1, .long s.1), (3, .int s.2.1)] [] s.2.2) (hE : ∀ (a : Int64) (s2 : WD), E (.inr (.inr (a, s2))) → ∀ pc lv, decode cX6_digest pc = .ok (.lreturn, 1) → WW x g 5 0 0 pc lv [.long a] s2) {t : (Int64 × Int32 × WD) ⊕ ((Int64 × Int32 × WD) ⊕ (Int64 × WD))} (h : f_X6_digest_b73 l1 l3 l4 σ = some t) (ht : E t) : WW x g 5 0 0 73 [(0, .ref (adr g 0)), (1, .long l1), (3, .int l3), (4, .int l4)] [] σ := by
  unfold f_X6_digest_b73 at h
  refine x_iload C dX6_digest_73 3 rfl 75 rfl ?_
  refine x_aload_n C dX6_digest_75 rfl 0 rfl 76 rfl ?_
  refine gf_162_0 C dX6_digest_76 79 rfl ?_
  refine gf_35_1 C dX6_digest_79 82 rfl ?_
  refine x_icmp_ge C dX6_digest_82 100 (by decide) 85 rfl (fun hc => ?_) (fun hc => ?_)
  · have h := ip hc h
    refine x_iinc C [(3, .int (l3 + 1)), (0, .ref (adr g 0)), (1, .long l1), (4, .int l4)] dX6_digest_100 2 rfl rfl (by decide) rfl 103 rfl ?_
    refine x_goto C dX6_digest_103 57 (by decide) ?_
    cases h
    exact x_sub [1, 2, 0] rfl (hI1 (l1, (l3 + 1), σ) ht)
  · have h := iq hc h
    refine x_aload_n C dX6_digest_85 rfl 0 rfl 86 rfl ?_
    refine x_lload_n C dX6_digest_86 rfl 1 rfl 87 rfl ?_
    refine x_iload_n C dX6_digest_87 rfl 2 rfl 88 rfl ?_
    refine x_iload C dX6_digest_88 3 rfl 90 rfl ?_
    obtain ⟨r90, σ90, h90, h⟩ := bn_some h
    refine x_callV C 0 [.long l1, .int l3, .int l4] (c_X6_mixPair  h90) mi_X6_mixPair (gt_0 g _) rfl q_545 rfl ⟨rfl, rfl⟩ ⟨Nat.le_of_ble_eq_true rfl, Nat.le_of_ble_eq_true rfl⟩ ⟨Nat.zero_le _, Nat.zero_le _⟩ _ rfl (Nat.le_of_ble_eq_true rfl) dX6_digest_90 93 rfl ?_
    refine x_lstore_n C [(1, .long r90), (0, .ref (adr g 0)), (3, .int l3), (4, .int l4)] dX6_digest_93 rfl (by decide) rfl 94 rfl ?_
    refine x_iinc C [(4, .int (l4 + 1)), (1, .long r90), (0, .ref (adr g 0)), (3, .int l3)] dX6_digest_94 3 rfl rfl (by decide) rfl 97 rfl ?_
    refine x_goto C dX6_digest_97 73 (by decide) ?_
    cases h
    exact x_sub [2, 1, 3, 0] rfl (hI0 (r90, (l4 + 1), σ90) ht)
set_option maxHeartbeats 4000000 in
set_option maxRecDepth 100000 in
theorem w_X6_digest_73 {x : Cx} {g : Gb} {E : (Int64 × Int32 × WD) ⊕ (Int64 × WD) → Prop} (C : CF x g RX6 cX6_digest 5 (rmk 25 646))  {l1 : Int64} {l3 : Int32} {l4 : Int32} {σ : WD} (hI0 : ∀ s, E (.inl s) → WW x g 5 0 0 57 [(0, .ref (adr g 0)), (1, .long s.1), (3, .int s.2.1)] [] s.2.2) (hE : ∀ (a : Int64) (s2 : WD), E (.inr (a, s2)) → ∀ pc lv, decode cX6_digest pc = .ok (.lreturn, 1) → WW x g 5 0 0 pc lv [.long a] s2) {t : (Int64 × Int32 × WD) ⊕ (Int64 × WD)} (h : f_X6_digest_73 l1 l3 l4 σ = some t) (ht : E t) : WW x g 5 0 0 73 [(0, .ref (adr g 0)), (1, .long l1), (3, .int l3), (4, .int l4)] [] σ := by
  unfold f_X6_digest_73 at h
  exact lp_ind (fun s : Int64 × Int32 × WD => WW x g 5 0 0 73 [(0, .ref (adr g 0)), (1, .long s.1), (3, .int l3), (4, .int s.2.1)] [] s.2.2) E h ht (fun s y hb hy => w_X6_digest_b73 (E := Sum.elim (fun s : Int64 × Int32 × WD => WW x g 5 0 0 73 [(0, .ref (adr g 0)), (1, .long s.1), (3, .int l3), (4, .int s.2.1)] [] s.2.2) E) C  (fun _ h => h) hI0 hE hb hy)
set_option maxHeartbeats 4000000 in
set_option maxRecDepth 100000 in
theorem w_X6_digest_b57 {x : Cx} {g : Gb} {E : (Int64 × Int32 × WD) ⊕ (Int64 × WD) → Prop} (C : CF x g RX6 cX6_digest 5 (rmk 25 646))  {l1 : Int64} {l3 : Int32} {σ : WD} (hI0 : ∀ s, E (.inl s) → WW x g 5 0 0 57 [(0, .ref (adr g 0)), (1, .long s.1), (3, .int s.2.1)] [] s.2.2) (hE : ∀ (a : Int64) (s2 : WD), E (.inr (a, s2)) → ∀ pc lv, decode cX6_digest pc = .ok (.lreturn, 1) → WW x g 5 0 0 pc lv [.long a] s2) {t : (Int64 × Int32 × WD) ⊕ (Int64 × WD)} (h : f_X6_digest_b57 l1 l3 σ = some t) (ht : E t) : WW x g 5 0 0 57 [(0, .ref (adr g 0)), (1, .long l1), (3, .int l3)] [] σ := by
  unfold f_X6_digest_b57 at h
  refine x_iload_n C dX6_digest_57 rfl 2 rfl 58 rfl ?_
  refine x_aload_n C dX6_digest_58 rfl 0 rfl 59 rfl ?_
  refine gf_162_0 C dX6_digest_59 62 rfl ?_
  refine gf_35_1 C dX6_digest_62 65 rfl ?_
  refine x_icmp_ge C dX6_digest_65 106 (by decide) 68 rfl (fun hc => ?_) (fun hc => ?_)
  · have h := ip hc h
    obtain ⟨_, hm0, rfl⟩ := mr_some h
    exact x_sub [0, 1] rfl (w_X6_digest_106 (E := fun r => E (.inr r)) C  hE hm0 ht)
  · have h := iq hc h
    refine x_iload_n C dX6_digest_68 rfl 2 rfl 69 rfl ?_
    refine x_iconst C (v := 1) dX6_digest_69 (by decide) 70 rfl ?_
    refine x_iadd C dX6_digest_70 71 rfl ?_
    refine x_istore C [(4, .int (l3 + 1)), (0, .ref (adr g 0)), (1, .long l1), (3, .int l3)] dX6_digest_71 (by decide) rfl 73 rfl ?_
    exact x_sub [1, 2, 3, 0] rfl (w_X6_digest_73 C  hI0 hE h ht)
set_option maxHeartbeats 4000000 in
set_option maxRecDepth 100000 in
theorem w_X6_digest_57 {x : Cx} {g : Gb} {E : Int64 × WD → Prop} (C : CF x g RX6 cX6_digest 5 (rmk 25 646))  {l1 : Int64} {l3 : Int32} {σ : WD} (hE : ∀ (a : Int64) (s2 : WD), E (a, s2) → ∀ pc lv, decode cX6_digest pc = .ok (.lreturn, 1) → WW x g 5 0 0 pc lv [.long a] s2) {t : Int64 × WD} (h : f_X6_digest_57 l1 l3 σ = some t) (ht : E t) : WW x g 5 0 0 57 [(0, .ref (adr g 0)), (1, .long l1), (3, .int l3)] [] σ := by
  unfold f_X6_digest_57 at h
  exact lp_ind (fun s : Int64 × Int32 × WD => WW x g 5 0 0 57 [(0, .ref (adr g 0)), (1, .long s.1), (3, .int s.2.1)] [] s.2.2) E h ht (fun s y hb hy => w_X6_digest_b57 (E := Sum.elim (fun s : Int64 × Int32 × WD => WW x g 5 0 0 57 [(0, .ref (adr g 0)), (1, .long s.1), (3, .int s.2.1)] [] s.2.2) E) C  (fun _ h => h)  hE hb hy)
set_option maxHeartbeats 4000000 in
set_option maxRecDepth 100000 in
theorem w_X6_digest_b31 {x : Cx} {g : Gb} {E : (Int64 × Int32 × WD) ⊕ (Int64 × WD) → Prop} (C : CF x g RX6 cX6_digest 5 (rmk 25 646))  {l1 : Int64} {l3 : Int32} {σ : WD} (hI0 : ∀ s, E (.inl s) → WW x g 5 0 0 31 [(0, .ref (adr g 0)), (1, .long s.1), (3, .int s.2.1)] [] s.2.2) (hE : ∀ (a : Int64) (s2 : WD), E (.inr (a, s2)) → ∀ pc lv, decode cX6_digest pc = .ok (.lreturn, 1) → WW x g 5 0 0 pc lv [.long a] s2) {t : (Int64 × Int32 × WD) ⊕ (Int64 × WD)} (h : f_X6_digest_b31 l1 l3 σ = some t) (ht : E t) : WW x g 5 0 0 31 [(0, .ref (adr g 0)), (1, .long l1), (3, .int l3)] [] σ := by
  unfold f_X6_digest_b31 at h
  refine x_iload_n C dX6_digest_31 rfl 2 rfl 32 rfl ?_
  refine x_aload_n C dX6_digest_32 rfl 0 rfl 33 rfl ?_
  refine gf_162_0 C dX6_digest_33 36 rfl ?_
  refine gf_35_1 C dX6_digest_36 39 rfl ?_
  refine x_icmp_ge C dX6_digest_39 55 (by decide) 42 rfl (fun hc => ?_) (fun hc => ?_)
  · have h := ip hc h
    refine x_iconst C (v := 0) dX6_digest_55 (by decide) 56 rfl ?_
    refine x_istore_n C [(3, .int 0), (0, .ref (adr g 0)), (1, .long l1)] dX6_digest_56 rfl (by decide) rfl 57 rfl ?_
    obtain ⟨_, hm0, rfl⟩ := mr_some h
    exact x_sub [1, 2, 0] rfl (w_X6_digest_57 (E := fun r => E (.inr r)) C  hE hm0 ht)
  · have h := iq hc h
    refine x_aload_n C dX6_digest_42 rfl 0 rfl 43 rfl ?_
    refine x_lload_n C dX6_digest_43 rfl 1 rfl 44 rfl ?_
    refine x_iload_n C dX6_digest_44 rfl 2 rfl 45 rfl ?_
    obtain ⟨r45, σ45, h45, h⟩ := bn_some h
    refine x_callV C 0 [.long l1, .int l3] (c_X6_mixNode  h45) mi_X6_mixNode (gt_0 g _) rfl q_466 rfl ⟨rfl, rfl⟩ ⟨Nat.le_of_ble_eq_true rfl, Nat.le_of_ble_eq_true rfl⟩ ⟨Nat.zero_le _, Nat.zero_le _⟩ _ rfl (Nat.le_of_ble_eq_true rfl) dX6_digest_45 48 rfl ?_
    refine x_lstore_n C [(1, .long r45), (0, .ref (adr g 0)), (3, .int l3)] dX6_digest_48 rfl (by decide) rfl 49 rfl ?_
    refine x_iinc C [(3, .int (l3 + 1)), (1, .long r45), (0, .ref (adr g 0))] dX6_digest_49 2 rfl rfl (by decide) rfl 52 rfl ?_
    refine x_goto C dX6_digest_52 31 (by decide) ?_
    cases h
    exact x_sub [2, 1, 0] rfl (hI0 (r45, (l3 + 1), σ45) ht)
set_option maxHeartbeats 4000000 in
set_option maxRecDepth 100000 in
theorem w_X6_digest_31 {x : Cx} {g : Gb} {E : Int64 × WD → Prop} (C : CF x g RX6 cX6_digest 5 (rmk 25 646))  {l1 : Int64} {l3 : Int32} {σ : WD} (hE : ∀ (a : Int64) (s2 : WD), E (a, s2) → ∀ pc lv, decode cX6_digest pc = .ok (.lreturn, 1) → WW x g 5 0 0 pc lv [.long a] s2) {t : Int64 × WD} (h : f_X6_digest_31 l1 l3 σ = some t) (ht : E t) : WW x g 5 0 0 31 [(0, .ref (adr g 0)), (1, .long l1), (3, .int l3)] [] σ := by
  unfold f_X6_digest_31 at h
  exact lp_ind (fun s : Int64 × Int32 × WD => WW x g 5 0 0 31 [(0, .ref (adr g 0)), (1, .long s.1), (3, .int s.2.1)] [] s.2.2) E h ht (fun s y hb hy => w_X6_digest_b31 (E := Sum.elim (fun s : Int64 × Int32 × WD => WW x g 5 0 0 31 [(0, .ref (adr g 0)), (1, .long s.1), (3, .int s.2.1)] [] s.2.2) E) C  (fun _ h => h)  hE hb hy)
set_option maxHeartbeats 4000000 in
set_option maxRecDepth 100000 in
theorem w_X6_digest_b6 {x : Cx} {g : Gb} {E : (Int64 × Int32 × WD) ⊕ (Int64 × WD) → Prop} (C : CF x g RX6 cX6_digest 5 (rmk 25 646))  {l1 : Int64} {l3 : Int32} {σ : WD} (hI0 : ∀ s, E (.inl s) → WW x g 5 0 0 6 [(0, .ref (adr g 0)), (1, .long s.1), (3, .int s.2.1)] [] s.2.2) (hE : ∀ (a : Int64) (s2 : WD), E (.inr (a, s2)) → ∀ pc lv, decode cX6_digest pc = .ok (.lreturn, 1) → WW x g 5 0 0 pc lv [.long a] s2) {t : (Int64 × Int32 × WD) ⊕ (Int64 × WD)} (h : f_X6_digest_b6 l1 l3 σ = some t) (ht : E t) : WW x g 5 0 0 6 [(0, .ref (adr g 0)), (1, .long l1), (3, .int l3)] [] σ := by
  unfold f_X6_digest_b6 at h
  refine x_iload_n C dX6_digest_6 rfl 2 rfl 7 rfl ?_
  refine x_bipush C (v := 10) dX6_digest_7 (by decide) 9 rfl ?_
  refine x_icmp_gt C dX6_digest_9 29 (by decide) 12 rfl (fun hc => ?_) (fun hc => ?_)
  · have h := ip hc h
    refine x_iconst C (v := 0) dX6_digest_29 (by decide) 30 rfl ?_
    refine x_istore_n C [(3, .int 0), (0, .ref (adr g 0)), (1, .long l1)] dX6_digest_30 rfl (by decide) rfl 31 rfl ?_
    obtain ⟨_, hm0, rfl⟩ := mr_some h
    exact x_sub [1, 2, 0] rfl (w_X6_digest_31 (E := fun r => E (.inr r)) C  hE hm0 ht)
  · have h := iq hc h
    refine x_lload_n C dX6_digest_12 rfl 1 rfl 13 rfl ?_
    refine x_aload_n C dX6_digest_13 rfl 0 rfl 14 rfl ?_
    refine x_iload_n C dX6_digest_14 rfl 2 rfl 15 rfl ?_
    obtain ⟨p15, h15, h⟩ := bq_some h
    refine x_callV C 0 [.int l3] (c_X6_count  h15) mi_X6_count (gt_0 g _) rfl q_380 rfl ⟨rfl, rfl⟩ ⟨Nat.le_of_ble_eq_true rfl, Nat.le_of_ble_eq_true rfl⟩ ⟨Nat.zero_le _, Nat.zero_le _⟩ _ rfl (Nat.le_of_ble_eq_true rfl) dX6_digest_15 18 rfl ?_
    refine x_i2l C dX6_digest_18 19 rfl ?_
    obtain ⟨r19, h19, h⟩ := bv_some h
    refine x_callS C [.long l1, .long ((p15.1).toInt64)] (c_X6_mix  h19) mi_X6_mix q_462 rfl ⟨rfl, rfl⟩ ⟨Nat.le_of_ble_eq_true rfl, Nat.le_of_ble_eq_true rfl⟩ ⟨Nat.zero_le _, Nat.zero_le _⟩ _ rfl (Nat.le_of_ble_eq_true rfl) dX6_digest_19 22 rfl ?_
    refine x_lstore_n C [(1, .long r19), (0, .ref (adr g 0)), (3, .int l3)] dX6_digest_22 rfl (by decide) rfl 23 rfl ?_
    refine x_iinc C [(3, .int (l3 + 1)), (1, .long r19), (0, .ref (adr g 0))] dX6_digest_23 2 rfl rfl (by decide) rfl 26 rfl ?_
    refine x_goto C dX6_digest_26 6 (by decide) ?_
    cases h
    exact x_sub [2, 1, 0] rfl (hI0 (r19, (l3 + 1), p15.2) ht)
set_option maxHeartbeats 4000000 in
set_option maxRecDepth 100000 in
theorem w_X6_digest_6 {x : Cx} {g : Gb} {E : Int64 × WD → Prop} (C : CF x g RX6 cX6_digest 5 (rmk 25 646))  {l1 : Int64} {l3 : Int32} {σ : WD} (hE : ∀ (a : Int64) (s2 : WD), E (a, s2) → ∀ pc lv, decode cX6_digest pc = .ok (.lreturn, 1) → WW x g 5 0 0 pc lv [.long a] s2) {t : Int64 × WD} (h : f_X6_digest_6 l1 l3 σ = some t) (ht : E t) : WW x g 5 0 0 6 [(0, .ref (adr g 0)), (1, .long l1), (3, .int l3)] [] σ := by
  unfold f_X6_digest_6 at h
  exact lp_ind (fun s : Int64 × Int32 × WD => WW x g 5 0 0 6 [(0, .ref (adr g 0)), (1, .long s.1), (3, .int s.2.1)] [] s.2.2) E h ht (fun s y hb hy => w_X6_digest_b6 (E := Sum.elim (fun s : Int64 × Int32 × WD => WW x g 5 0 0 6 [(0, .ref (adr g 0)), (1, .long s.1), (3, .int s.2.1)] [] s.2.2) E) C  (fun _ h => h)  hE hb hy)
set_option maxHeartbeats 4000000 in
set_option maxRecDepth 100000 in
theorem w_X6_digest {x : Cx} {g : Gb} {E : Int64 × WD → Prop} (C : CF x g RX6 cX6_digest 5 (rmk 25 646))   {σ : WD} (hE : ∀ (a : Int64) (s2 : WD), E (a, s2) → ∀ pc lv, decode cX6_digest pc = .ok (.lreturn, 1) → WW x g 5 0 0 pc lv [.long a] s2) {t : Int64 × WD} (h : f_X6_digest  σ = some t) (ht : E t) : WW x g 5 0 0 0 [(0, .ref (adr g 0))] [] σ := by
  unfold f_X6_digest at h
  refine x_ldc2 C dX6_digest_0 q_379 3 rfl ?_
  refine x_lstore_n C [(1, .long 2003), (0, .ref (adr g 0))] dX6_digest_3 rfl (by decide) rfl 4 rfl ?_
  refine x_iconst C (v := 0) dX6_digest_4 (by decide) 5 rfl ?_
  refine x_istore_n C [(3, .int 0), (1, .long 2003), (0, .ref (adr g 0))] dX6_digest_5 rfl (by decide) rfl 6 rfl ?_
  exact x_sub [2, 1, 0] rfl (w_X6_digest_6 C  hE h ht)
set_option maxHeartbeats 4000000 in
set_option maxRecDepth 100000 in
theorem c_X6_digest {g : Gb} {l : Launch}   {σ : WD} {r : Int64} {σ2 : WD} (h : f_X6_digest  σ = some (r, σ2)) : MC l g yX6_digest (.code yX6_digest cX6_digest 5 (some (.long))) (rmk 25 646) [.ref (adr g 0)] σ (some (.long r)) σ2 := by
  refine MC.of (by decide) (Nat.le_of_ble_eq_true rfl) (fun x C hl hr hq => ?_)
  subst hl
  exact w_X6_digest (E := fun z => z = (r, σ2)) C  (fun a s2 he pc lv hd => by cases he; exact x_lret C hr hq hd) h rfl
