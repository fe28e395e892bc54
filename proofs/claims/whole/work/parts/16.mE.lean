set_option maxHeartbeats 4000000 in
set_option maxRecDepth 100000 in
theorem w_X7_thrown {x : Cx} {g : Gb} {E : Int32 → Prop} (C : CF x g RX7 cX7_thrown 1 (rmk 1 1))   {σ : WD} (hE : ∀ (a : Int32), E a → ∀ pc lv, decode cX7_thrown pc = .ok (.ireturn, 1) → WW x g 1 0 0 pc lv [.int a] σ) {t : Int32} (h : f_X7_thrown  σ = some t) (ht : E t) : WW x g 1 0 0 0 [(0, .ref (adr g 29))] [] σ := by
  unfold f_X7_thrown at h
  refine x_aload_n C dX7_thrown_0 rfl 0 rfl 1 rfl ?_
  refine gf_758_29 C dX7_thrown_1 4 rfl ?_
  cases h
  exact hE _ ht 4 _ dX7_thrown_4
set_option maxHeartbeats 4000000 in
set_option maxRecDepth 100000 in
theorem c_X7_thrown {g : Gb} {l : Launch}   {σ : WD} {r : Int32} (h : f_X7_thrown  σ = some r) : MC l g yX7_thrown (.code yX7_thrown cX7_thrown 1 (some (.int))) (rmk 1 1) [.ref (adr g 29)] σ (some (.int r)) σ := by
  refine MC.of (by decide) (Nat.le_of_ble_eq_true rfl) (fun x C hl hr hq => ?_)
  subst hl
  exact w_X7_thrown (E := fun z => z = r) C  (fun a he pc lv hd => by cases he; exact x_iret C hr hq hd) h rfl
set_option maxHeartbeats 4000000 in
set_option maxRecDepth 100000 in
theorem w_X7_within {x : Cx} {g : Gb} {E : Int32 → Prop} (C : CF x g RX7 cX7_within 3 (rmk 1 1))  {a1 : Int32} {a2 : Int32} {a3 : Int32} {σ : WD} (hE : ∀ (a : Int32), E a → ∀ pc lv, narrow .boolean (.int a) = .int a → decode cX7_within pc = .ok (.ireturn, 1) → WW x g 3 0 0 pc lv [.int a] σ) {t : Int32} (h : f_X7_within a1 a2 a3 σ = some t) (ht : E t) : WW x g 3 0 0 0 [(0, .int a1), (1, .int a2), (2, .int a3)] [] σ := by
  unfold f_X7_within at h
  refine x_iload_n C dX7_within_0 rfl 0 rfl 1 rfl ?_
  refine x_iload_n C dX7_within_1 rfl 1 rfl 2 rfl ?_
  refine x_icmp_lt C dX7_within_2 14 (by decide) 5 rfl (fun hc => ?_) (fun hc => ?_)
  · have h := ip hc h
    refine x_iconst C (v := 0) dX7_within_14 (by decide) 15 rfl ?_
    cases h
    exact hE _ ht 15 _ rfl dX7_within_15
  · have h := iq hc h
    refine x_iload_n C dX7_within_5 rfl 0 rfl 6 rfl ?_
    refine x_iload_n C dX7_within_6 rfl 2 rfl 7 rfl ?_
    refine x_icmp_gt C dX7_within_7 14 (by decide) 10 rfl (fun hc => ?_) (fun hc => ?_)
    · have h := ip hc h
      refine x_iconst C (v := 0) dX7_within_14 (by decide) 15 rfl ?_
      cases h
      exact hE _ ht 15 _ rfl dX7_within_15
    · have h := iq hc h
      refine x_iconst C (v := 1) dX7_within_10 (by decide) 11 rfl ?_
      refine x_goto C dX7_within_11 15 (by decide) ?_
      cases h
      exact hE _ ht 15 _ rfl dX7_within_15
set_option maxHeartbeats 4000000 in
set_option maxRecDepth 100000 in
theorem c_X7_within {g : Gb} {l : Launch}  {a1 : Int32} {a2 : Int32} {a3 : Int32} {σ : WD} {r : Int32} (h : f_X7_within a1 a2 a3 σ = some r) : MC l g yX7_within (.code yX7_within cX7_within 3 (some (.boolean))) (rmk 1 1) [.int a1, .int a2, .int a3] σ (some (.int r)) σ := by
  refine MC.of (by decide) (Nat.le_of_ble_eq_true rfl) (fun x C hl hr hq => ?_)
  subst hl
  exact w_X7_within (E := fun z => z = r) C  (fun a he pc lv hn hd => by cases he; exact x_zret C hr hq hn hd) h rfl
set_option maxHeartbeats 4000000 in
set_option maxRecDepth 100000 in
theorem w_X7_has {x : Cx} {g : Gb} {E : Int32 → Prop} (C : CF x g RX7 cX7_has 2 (rmk 1 1))  {a1 : Int32} {a2 : Int32} {σ : WD} (hE : ∀ (a : Int32), E a → ∀ pc lv, narrow .boolean (.int a) = .int a → decode cX7_has pc = .ok (.ireturn, 1) → WW x g 2 0 0 pc lv [.int a] σ) {t : Int32} (h : f_X7_has a1 a2 σ = some t) (ht : E t) : WW x g 2 0 0 0 [(0, .int a1), (1, .int a2)] [] σ := by
  unfold f_X7_has at h
  refine x_iload_n C dX7_has_0 rfl 0 rfl 1 rfl ?_
  refine x_iload_n C dX7_has_1 rfl 1 rfl 2 rfl ?_
  refine x_ishr C dX7_has_2 3 rfl ?_
  refine x_iconst C (v := 1) dX7_has_3 (by decide) 4 rfl ?_
  refine x_iand C dX7_has_4 5 rfl ?_
  refine x_iconst C (v := 1) dX7_has_5 (by decide) 6 rfl ?_
  refine x_icmp_ne C dX7_has_6 13 (by decide) 9 rfl (fun hc => ?_) (fun hc => ?_)
  · have h := iq hc h
    refine x_iconst C (v := 0) dX7_has_13 (by decide) 14 rfl ?_
    cases h
    exact hE _ ht 14 _ rfl dX7_has_14
  · have h := ip hc h
    refine x_iconst C (v := 1) dX7_has_9 (by decide) 10 rfl ?_
    refine x_goto C dX7_has_10 14 (by decide) ?_
    cases h
    exact hE _ ht 14 _ rfl dX7_has_14
set_option maxHeartbeats 4000000 in
set_option maxRecDepth 100000 in
theorem c_X7_has {g : Gb} {l : Launch}  {a1 : Int32} {a2 : Int32} {σ : WD} {r : Int32} (h : f_X7_has a1 a2 σ = some r) : MC l g yX7_has (.code yX7_has cX7_has 2 (some (.boolean))) (rmk 1 1) [.int a1, .int a2] σ (some (.int r)) σ := by
  refine MC.of (by decide) (Nat.le_of_ble_eq_true rfl) (fun x C hl hr hq => ?_)
  subst hl
  exact w_X7_has (E := fun z => z = r) C  (fun a he pc lv hn hd => by cases he; exact x_zret C hr hq hn hd) h rfl
set_option maxHeartbeats 4000000 in
set_option maxRecDepth 100000 in
theorem w_X7_bits_b4 {x : Cx} {g : Gb} {E : (Int32 × Int32) ⊕ (Int32) → Prop} (C : CF x g RX7 cX7_bits 3 (rmk 1 1))  {l0 : Int32} {l1 : Int32} {l2 : Int32} {σ : WD} (hI0 : ∀ s, E (.inl s) → WW x g 3 0 0 4 [(0, .int l0), (1, .int s.1), (2, .int s.2)] [] σ) (hE : ∀ (a : Int32), E (.inr a) → ∀ pc lv, decode cX7_bits pc = .ok (.ireturn, 1) → WW x g 3 0 0 pc lv [.int a] σ) {t : (Int32 × Int32) ⊕ (Int32)} (h : f_X7_bits_b4 l0 l1 l2 σ = some t) (ht : E t) : WW x g 3 0 0 4 [(0, .int l0), (1, .int l1), (2, .int l2)] [] σ := by
  unfold f_X7_bits_b4 at h
  refine x_iload_n C dX7_bits_4 rfl 2 rfl 5 rfl ?_
  refine x_bipush C (v := 12) dX7_bits_5 (by decide) 7 rfl ?_
  refine x_icmp_ge C dX7_bits_7 24 (by decide) 10 rfl (fun hc => ?_) (fun hc => ?_)
  · have h := ip hc h
    refine x_iload_n C dX7_bits_24 rfl 1 rfl 25 rfl ?_
    cases h
    exact hE _ ht 25 _ dX7_bits_25
  · have h := iq hc h
    refine x_iload_n C dX7_bits_10 rfl 1 rfl 11 rfl ?_
    refine x_iload_n C dX7_bits_11 rfl 0 rfl 12 rfl ?_
    refine x_iload_n C dX7_bits_12 rfl 2 rfl 13 rfl ?_
    refine x_ishr C dX7_bits_13 14 rfl ?_
    refine x_iconst C (v := 1) dX7_bits_14 (by decide) 15 rfl ?_
    refine x_iand C dX7_bits_15 16 rfl ?_
    refine x_iadd C dX7_bits_16 17 rfl ?_
    obtain ⟨v17, e17, h⟩ := li_some h
    refine x_te e17 ?_
    refine x_istore_n C [(1, .int v17), (0, .int l0), (2, .int l2)] dX7_bits_17 rfl (by decide) rfl 18 rfl ?_
    refine x_iinc C [(2, .int (l2 + 1)), (1, .int v17), (0, .int l0)] dX7_bits_18 2 rfl rfl (by decide) rfl 21 rfl ?_
    refine x_goto C dX7_bits_21 4 (by decide) ?_
    cases h
    exact x_sub [2, 1, 0] rfl (hI0 (v17, (l2 + 1)) ht)
set_option maxHeartbeats 4000000 in
set_option maxRecDepth 100000 in
theorem w_X7_bits_4 {x : Cx} {g : Gb} {E : Int32 → Prop} (C : CF x g RX7 cX7_bits 3 (rmk 1 1))  {l0 : Int32} {l1 : Int32} {l2 : Int32} {σ : WD} (hE : ∀ (a : Int32), E a → ∀ pc lv, decode cX7_bits pc = .ok (.ireturn, 1) → WW x g 3 0 0 pc lv [.int a] σ) {t : Int32} (h : f_X7_bits_4 l0 l1 l2 σ = some t) (ht : E t) : WW x g 3 0 0 4 [(0, .int l0), (1, .int l1), (2, .int l2)] [] σ := by
  unfold f_X7_bits_4 at h
  exact lp_ind (fun s : Int32 × Int32 => WW x g 3 0 0 4 [(0, .int l0), (1, .int s.1), (2, .int s.2)] [] σ) E h ht (fun s y hb hy => w_X7_bits_b4 (E := Sum.elim (fun s : Int32 × Int32 => WW x g 3 0 0 4 [(0, .int l0), (1, .int s.1), (2, .int s.2)] [] σ) E) C  (fun _ h => h)  hE hb hy)
set_option maxHeartbeats 4000000 in
set_option maxRecDepth 100000 in
theorem w_X7_bits {x : Cx} {g : Gb} {E : Int32 → Prop} (C : CF x g RX7 cX7_bits 3 (rmk 1 1))  {a1 : Int32} {σ : WD} (hE : ∀ (a : Int32), E a → ∀ pc lv, decode cX7_bits pc = .ok (.ireturn, 1) → WW x g 3 0 0 pc lv [.int a] σ) {t : Int32} (h : f_X7_bits a1 σ = some t) (ht : E t) : WW x g 3 0 0 0 [(0, .int a1)] [] σ := by
  unfold f_X7_bits at h
  refine x_iconst C (v := 0) dX7_bits_0 (by decide) 1 rfl ?_
  refine x_istore_n C [(1, .int 0), (0, .int a1)] dX7_bits_1 rfl (by decide) rfl 2 rfl ?_
  refine x_iconst C (v := 0) dX7_bits_2 (by decide) 3 rfl ?_
  refine x_istore_n C [(2, .int 0), (1, .int 0), (0, .int a1)] dX7_bits_3 rfl (by decide) rfl 4 rfl ?_
  exact x_sub [2, 1, 0] rfl (w_X7_bits_4 C  hE h ht)
set_option maxHeartbeats 4000000 in
set_option maxRecDepth 100000 in
theorem c_X7_bits {g : Gb} {l : Launch}  {a1 : Int32} {σ : WD} {r : Int32} (h : f_X7_bits a1 σ = some r) : MC l g yX7_bits (.code yX7_bits cX7_bits 3 (some (.int))) (rmk 1 1) [.int a1] σ (some (.int r)) σ := by
  refine MC.of (by decide) (Nat.le_of_ble_eq_true rfl) (fun x C hl hr hq => ?_)
  subst hl
  exact w_X7_bits (E := fun z => z = r) C  (fun a he pc lv hd => by cases he; exact x_iret C hr hq hd) h rfl
set_option maxHeartbeats 4000000 in
set_option maxRecDepth 100000 in
theorem w_X7_isNode {x : Cx} {g : Gb} {E : Int32 → Prop} (C : CF x g RX7 cX7_isNode 2 (rmk 2 24))  {a1 : Int32} {σ : WD} (hE : ∀ (a : Int32), E a → ∀ pc lv, narrow .boolean (.int a) = .int a → decode cX7_isNode pc = .ok (.ireturn, 1) → WW x g 2 0 0 pc lv [.int a] σ) {t : Int32} (h : f_X7_isNode a1 σ = some t) (ht : E t) : WW x g 2 0 0 0 [(0, .ref (adr g 29)), (1, .int a1)] [] σ := by
  unfold f_X7_isNode at h
  refine x_iload_n C dX7_isNode_0 rfl 1 rfl 1 rfl ?_
  refine x_iconst C (v := 0) dX7_isNode_1 (by decide) 2 rfl ?_
  refine x_aload_n C dX7_isNode_2 rfl 0 rfl 3 rfl ?_
  refine gf_759_29 C dX7_isNode_3 6 rfl ?_
  refine x_iconst C (v := 1) dX7_isNode_6 (by decide) 7 rfl ?_
  refine x_isub C dX7_isNode_7 8 rfl ?_
  obtain ⟨r8, h8, h⟩ := bv_some h
  refine x_callS C [.int a1, .int 0, .int ((σ.1 29 1) - 1)] (c_X7_within  h8) mi_X7_within q_824 rfl ⟨rfl, rfl⟩ ⟨Nat.le_of_ble_eq_true rfl, Nat.le_of_ble_eq_true rfl⟩ ⟨Nat.zero_le _, Nat.zero_le _⟩ _ rfl (Nat.le_of_ble_eq_true rfl) dX7_isNode_8 11 rfl ?_
  obtain ⟨hnb, h⟩ := gb_some h
  cases h
  exact hE _ ht 11 _ hnb dX7_isNode_11
set_option maxHeartbeats 4000000 in
set_option maxRecDepth 100000 in
theorem c_X7_isNode {g : Gb} {l : Launch}  {a1 : Int32} {σ : WD} {r : Int32} (h : f_X7_isNode a1 σ = some r) : MC l g yX7_isNode (.code yX7_isNode cX7_isNode 2 (some (.boolean))) (rmk 2 24) [.ref (adr g 29), .int a1] σ (some (.int r)) σ := by
  refine MC.of (by decide) (Nat.le_of_ble_eq_true rfl) (fun x C hl hr hq => ?_)
  subst hl
  exact w_X7_isNode (E := fun z => z = r) C  (fun a he pc lv hn hd => by cases he; exact x_zret C hr hq hn hd) h rfl
set_option maxHeartbeats 4000000 in
set_option maxRecDepth 100000 in
theorem w_X7_all {x : Cx} {g : Gb} {E : Int32 → Prop} (C : CF x g RX7 cX7_all 1 (rmk 1 1))   {σ : WD} (hE : ∀ (a : Int32), E a → ∀ pc lv, decode cX7_all pc = .ok (.ireturn, 1) → WW x g 1 0 0 pc lv [.int a] σ) {t : Int32} (h : f_X7_all  σ = some t) (ht : E t) : WW x g 1 0 0 0 [(0, .ref (adr g 29))] [] σ := by
  unfold f_X7_all at h
  refine x_iconst C (v := 1) dX7_all_0 (by decide) 1 rfl ?_
  refine x_aload_n C dX7_all_1 rfl 0 rfl 2 rfl ?_
  refine gf_759_29 C dX7_all_2 5 rfl ?_
  refine x_ishl C dX7_all_5 6 rfl ?_
  refine x_iconst C (v := 1) dX7_all_6 (by decide) 7 rfl ?_
  refine x_isub C dX7_all_7 8 rfl ?_
  cases h
  exact hE _ ht 8 _ dX7_all_8
set_option maxHeartbeats 4000000 in
set_option maxRecDepth 100000 in
theorem c_X7_all {g : Gb} {l : Launch}   {σ : WD} {r : Int32} (h : f_X7_all  σ = some r) : MC l g yX7_all (.code yX7_all cX7_all 1 (some (.int))) (rmk 1 1) [.ref (adr g 29)] σ (some (.int r)) σ := by
  refine MC.of (by decide) (Nat.le_of_ble_eq_true rfl) (fun x C hl hr hq => ?_)
  subst hl
  exact w_X7_all (E := fun z => z = r) C  (fun a he pc lv hd => by cases he; exact x_iret C hr hq hd) h rfl
set_option maxHeartbeats 4000000 in
set_option maxRecDepth 100000 in
theorem w_X7_clearAll_28 {x : Cx} {g : Gb} {E : WD → Prop} (C : CF x g RX7 cX7_clearAll 2 (rmk 1 1))   {σ : WD} (hE : ∀ (s2 : WD), E s2 → ∀ pc lv, decode cX7_clearAll pc = .ok (.return_, 1) → WW x g 2 0 0 pc lv [] s2) {t : WD} (h : f_X7_clearAll_28  σ = some t) (ht : E t) : WW x g 2 0 0 28 [(0, .ref (adr g 29))] [] σ := by
  unfold f_X7_clearAll_28 at h
  refine x_aload_n C dX7_clearAll_28 rfl 0 rfl 29 rfl ?_
  refine x_iconst C (v := 0) dX7_clearAll_29 (by decide) 30 rfl ?_
  refine pf_762_29 C dX7_clearAll_30 33 rfl ?_
  obtain ⟨σ30, e30, h⟩ := lt_some h
  refine x_we e30 ?_
  cases h
  exact hE _ ht 33 _ dX7_clearAll_33
set_option maxHeartbeats 4000000 in
set_option maxRecDepth 100000 in
theorem w_X7_clearAll_b2 {x : Cx} {g : Gb} {E : (Int32 × WD) ⊕ (WD) → Prop} (C : CF x g RX7 cX7_clearAll 2 (rmk 1 1))  {l1 : Int32} {σ : WD} (hI0 : ∀ s, E (.inl s) → WW x g 2 0 0 2 [(0, .ref (adr g 29)), (1, .int s.1)] [] s.2) (hE : ∀ (s2 : WD), E (.inr s2) → ∀ pc lv, decode cX7_clearAll pc = .ok (.return_, 1) → WW x g 2 0 0 pc lv [] s2) {t : (Int32 × WD) ⊕ (WD)} (h : f_X7_clearAll_b2 l1 σ = some t) (ht : E t) : WW x g 2 0 0 2 [(0, .ref (adr g 29)), (1, .int l1)] [] σ := by
  unfold f_X7_clearAll_b2 at h
  refine x_iload_n C dX7_clearAll_2 rfl 1 rfl 3 rfl ?_
  refine x_bipush C (v := 12) dX7_clearAll_3 (by decide) 5 rfl ?_
  refine x_icmp_ge C dX7_clearAll_5 28 (by decide) 8 rfl (fun hc => ?_) (fun hc => ?_)
  · have h := ip hc h
    obtain ⟨_, hm0, rfl⟩ := mr_some h
    exact x_sub [0] rfl (w_X7_clearAll_28 (E := fun r => E (.inr r)) C  hE hm0 ht)
  · have h := iq hc h
    refine x_aload_n C dX7_clearAll_8 rfl 0 rfl 9 rfl ?_
    refine gf_760_29 C dX7_clearAll_9 12 rfl ?_
    refine x_iload_n C dX7_clearAll_12 rfl 1 rfl 13 rfl ?_
    refine x_iconst C (v := 0) dX7_clearAll_13 (by decide) 14 rfl ?_
    obtain ⟨hin, h⟩ := gi_some h
    refine x_iast C 30 (gt_30 g _) (st_30 g _) hin dX7_clearAll_14 15 rfl ?_
    obtain ⟨σ14, e14, h⟩ := lt_some h
    refine x_we e14 ?_
    refine x_aload_n C dX7_clearAll_15 rfl 0 rfl 16 rfl ?_
    refine gf_761_29 C dX7_clearAll_16 19 rfl ?_
    refine x_iload_n C dX7_clearAll_19 rfl 1 rfl 20 rfl ?_
    refine x_iconst C (v := -1) dX7_clearAll_20 (by decide) 21 rfl ?_
    obtain ⟨hin, h⟩ := gi_some h
    refine x_iast C 31 (gt_31 g _) (st_31 g _) hin dX7_clearAll_21 22 rfl ?_
    obtain ⟨σ21, e21, h⟩ := lt_some h
    refine x_we e21 ?_
    refine x_iinc C [(1, .int (l1 + 1)), (0, .ref (adr g 29))] dX7_clearAll_22 1 rfl rfl (by decide) rfl 25 rfl ?_
    refine x_goto C dX7_clearAll_25 2 (by decide) ?_
    cases h
    exact x_sub [1, 0] rfl (hI0 ((l1 + 1), σ21) ht)
set_option maxHeartbeats 4000000 in
set_option maxRecDepth 100000 in
theorem w_X7_clearAll_2 {x : Cx} {g : Gb} {E : WD → Prop} (C : CF x g RX7 cX7_clearAll 2 (rmk 1 1))  {l1 : Int32} {σ : WD} (hE : ∀ (s2 : WD), E s2 → ∀ pc lv, decode cX7_clearAll pc = .ok (.return_, 1) → WW x g 2 0 0 pc lv [] s2) {t : WD} (h : f_X7_clearAll_2 l1 σ = some t) (ht : E t) : WW x g 2 0 0 2 [(0, .ref (adr g 29)), (1, .int l1)] [] σ := by
  unfold f_X7_clearAll_2 at h
  exact lp_ind (fun s : Int32 × WD => WW x g 2 0 0 2 [(0, .ref (adr g 29)), (1, .int s.1)] [] s.2) E h ht (fun s y hb hy => w_X7_clearAll_b2 (E := Sum.elim (fun s : Int32 × WD => WW x g 2 0 0 2 [(0, .ref (adr g 29)), (1, .int s.1)] [] s.2) E) C  (fun _ h => h)  hE hb hy)
set_option maxHeartbeats 4000000 in
set_option maxRecDepth 100000 in
theorem w_X7_clearAll {x : Cx} {g : Gb} {E : WD → Prop} (C : CF x g RX7 cX7_clearAll 2 (rmk 1 1))   {σ : WD} (hE : ∀ (s2 : WD), E s2 → ∀ pc lv, decode cX7_clearAll pc = .ok (.return_, 1) → WW x g 2 0 0 pc lv [] s2) {t : WD} (h : f_X7_clearAll  σ = some t) (ht : E t) : WW x g 2 0 0 0 [(0, .ref (adr g 29))] [] σ := by
  unfold f_X7_clearAll at h
  refine x_iconst C (v := 0) dX7_clearAll_0 (by decide) 1 rfl ?_
  refine x_istore_n C [(1, .int 0), (0, .ref (adr g 29))] dX7_clearAll_1 rfl (by decide) rfl 2 rfl ?_
  exact x_sub [1, 0] rfl (w_X7_clearAll_2 C  hE h ht)
set_option maxHeartbeats 4000000 in
set_option maxRecDepth 100000 in
theorem c_X7_clearAll {g : Gb} {l : Launch}   {σ : WD} {σ2 : WD} (h : f_X7_clearAll  σ = some σ2) : MC l g yX7_clearAll (.code yX7_clearAll cX7_clearAll 2 none) (rmk 1 1) [.ref (adr g 29)] σ none σ2 := by
  refine MC.of (by decide) (Nat.le_of_ble_eq_true rfl) (fun x C hl hr hq => ?_)
  subst hl
  exact w_X7_clearAll (E := fun z => z = σ2) C  (fun a he pc lv hd => by cases he; exact x_vret C hr hq hd) h rfl
set_option maxHeartbeats 4000000 in
set_option maxRecDepth 100000 in
theorem w_X7_flip {x : Cx} {g : Gb} {E : WD → Prop} (C : CF x g RX7 cX7_flip 3 (rmk 1 1))  {a1 : Int32} {a2 : Int32} {σ : WD} (hE : ∀ (s2 : WD), E s2 → ∀ pc lv, decode cX7_flip pc = .ok (.return_, 1) → WW x g 3 0 0 pc lv [] s2) {t : WD} (h : f_X7_flip a1 a2 σ = some t) (ht : E t) : WW x g 3 0 0 0 [(0, .ref (adr g 29)), (1, .int a1), (2, .int a2)] [] σ := by
  unfold f_X7_flip at h
  refine x_aload_n C dX7_flip_0 rfl 0 rfl 1 rfl ?_
  refine gf_760_29 C dX7_flip_1 4 rfl ?_
  refine x_iload_n C dX7_flip_4 rfl 1 rfl 5 rfl ?_
  refine x_dup2 C dX7_flip_5 rfl rfl 6 rfl ?_
  obtain ⟨hin, h⟩ := gi_some h
  refine x_iald C 30 (gt_30 g _) hin dX7_flip_6 7 rfl ?_
  refine x_iconst C (v := 1) dX7_flip_7 (by decide) 8 rfl ?_
  refine x_iload_n C dX7_flip_8 rfl 2 rfl 9 rfl ?_
  refine x_ishl C dX7_flip_9 10 rfl ?_
  refine x_ixor C dX7_flip_10 11 rfl ?_
  obtain ⟨hin, h⟩ := gi_some h
  refine x_iast C 30 (gt_30 g _) (st_30 g _) hin dX7_flip_11 12 rfl ?_
  obtain ⟨σ11, e11, h⟩ := lt_some h
  refine x_we e11 ?_
  refine x_aload_n C dX7_flip_12 rfl 0 rfl 13 rfl ?_
  refine gf_760_29 C dX7_flip_13 16 rfl ?_
  refine x_iload_n C dX7_flip_16 rfl 2 rfl 17 rfl ?_
  refine x_dup2 C dX7_flip_17 rfl rfl 18 rfl ?_
  obtain ⟨hin, h⟩ := gi_some h
  refine x_iald C 30 (gt_30 g _) hin dX7_flip_18 19 rfl ?_
  refine x_iconst C (v := 1) dX7_flip_19 (by decide) 20 rfl ?_
  refine x_iload_n C dX7_flip_20 rfl 1 rfl 21 rfl ?_
  refine x_ishl C dX7_flip_21 22 rfl ?_
  refine x_ixor C dX7_flip_22 23 rfl ?_
  obtain ⟨hin, h⟩ := gi_some h
  refine x_iast C 30 (gt_30 g _) (st_30 g _) hin dX7_flip_23 24 rfl ?_
  obtain ⟨σ23, e23, h⟩ := lt_some h
  refine x_we e23 ?_
  cases h
  exact hE _ ht 24 _ dX7_flip_24
set_option maxHeartbeats 4000000 in
set_option maxRecDepth 100000 in
theorem c_X7_flip {g : Gb} {l : Launch}  {a1 : Int32} {a2 : Int32} {σ : WD} {σ2 : WD} (h : f_X7_flip a1 a2 σ = some σ2) : MC l g yX7_flip (.code yX7_flip cX7_flip 3 none) (rmk 1 1) [.ref (adr g 29), .int a1, .int a2] σ none σ2 := by
  refine MC.of (by decide) (Nat.le_of_ble_eq_true rfl) (fun x C hl hr hq => ?_)
  subst hl
  exact w_X7_flip (E := fun z => z = σ2) C  (fun a he pc lv hd => by cases he; exact x_vret C hr hq hd) h rfl
set_option maxHeartbeats 4000000 in
set_option maxRecDepth 100000 in
theorem w_X7_pair {x : Cx} {g : Gb} {E : WD → Prop} (C : CF x g RX7 cX7_pair 3 (rmk 1 1))  {a1 : Int32} {a2 : Int32} {σ : WD} (hE : ∀ (s2 : WD), E s2 → ∀ pc lv, decode cX7_pair pc = .ok (.return_, 1) → WW x g 3 0 0 pc lv [] s2) {t : WD} (h : f_X7_pair a1 a2 σ = some t) (ht : E t) : WW x g 3 0 0 0 [(0, .ref (adr g 29)), (1, .int a1), (2, .int a2)] [] σ := by
  unfold f_X7_pair at h
  refine x_aload_n C dX7_pair_0 rfl 0 rfl 1 rfl ?_
  refine gf_761_29 C dX7_pair_1 4 rfl ?_
  refine x_iload_n C dX7_pair_4 rfl 1 rfl 5 rfl ?_
  refine x_iload_n C dX7_pair_5 rfl 2 rfl 6 rfl ?_
  obtain ⟨hin, h⟩ := gi_some h
  refine x_iast C 31 (gt_31 g _) (st_31 g _) hin dX7_pair_6 7 rfl ?_
  obtain ⟨σ6, e6, h⟩ := lt_some h
  refine x_we e6 ?_
  refine x_aload_n C dX7_pair_7 rfl 0 rfl 8 rfl ?_
  refine gf_761_29 C dX7_pair_8 11 rfl ?_
  refine x_iload_n C dX7_pair_11 rfl 2 rfl 12 rfl ?_
  refine x_iload_n C dX7_pair_12 rfl 1 rfl 13 rfl ?_
  obtain ⟨hin, h⟩ := gi_some h
  refine x_iast C 31 (gt_31 g _) (st_31 g _) hin dX7_pair_13 14 rfl ?_
  obtain ⟨σ13, e13, h⟩ := lt_some h
  refine x_we e13 ?_
  cases h
  exact hE _ ht 14 _ dX7_pair_14
set_option maxHeartbeats 4000000 in
set_option maxRecDepth 100000 in
theorem c_X7_pair {g : Gb} {l : Launch}  {a1 : Int32} {a2 : Int32} {σ : WD} {σ2 : WD} (h : f_X7_pair a1 a2 σ = some σ2) : MC l g yX7_pair (.code yX7_pair cX7_pair 3 none) (rmk 1 1) [.ref (adr g 29), .int a1, .int a2] σ none σ2 := by
  refine MC.of (by decide) (Nat.le_of_ble_eq_true rfl) (fun x C hl hr hq => ?_)
  subst hl
  exact w_X7_pair (E := fun z => z = σ2) C  (fun a he pc lv hd => by cases he; exact x_vret C hr hq hd) h rfl
set_option maxHeartbeats 4000000 in
set_option maxRecDepth 100000 in
theorem w_X7_part {x : Cx} {g : Gb} {E : WD → Prop} (C : CF x g RX7 cX7_part 2 (rmk 1 1))  {a1 : Int32} {σ : WD} (hE : ∀ (s2 : WD), E s2 → ∀ pc lv, decode cX7_part pc = .ok (.return_, 1) → WW x g 2 0 0 pc lv [] s2) {t : WD} (h : f_X7_part a1 σ = some t) (ht : E t) : WW x g 2 0 0 0 [(0, .ref (adr g 29)), (1, .int a1)] [] σ := by
  unfold f_X7_part at h
  refine x_aload_n C dX7_part_0 rfl 0 rfl 1 rfl ?_
  refine gf_761_29 C dX7_part_1 4 rfl ?_
  refine x_aload_n C dX7_part_4 rfl 0 rfl 5 rfl ?_
  refine gf_761_29 C dX7_part_5 8 rfl ?_
  refine x_iload_n C dX7_part_8 rfl 1 rfl 9 rfl ?_
  obtain ⟨hin, h⟩ := gi_some h
  refine x_iald C 31 (gt_31 g _) hin dX7_part_9 10 rfl ?_
  refine x_iconst C (v := -1) dX7_part_10 (by decide) 11 rfl ?_
  obtain ⟨hin, h⟩ := gi_some h
  refine x_iast C 31 (gt_31 g _) (st_31 g _) hin dX7_part_11 12 rfl ?_
  obtain ⟨σ11, e11, h⟩ := lt_some h
  refine x_we e11 ?_
  refine x_aload_n C dX7_part_12 rfl 0 rfl 13 rfl ?_
  refine gf_761_29 C dX7_part_13 16 rfl ?_
  refine x_iload_n C dX7_part_16 rfl 1 rfl 17 rfl ?_
  refine x_iconst C (v := -1) dX7_part_17 (by decide) 18 rfl ?_
  obtain ⟨hin, h⟩ := gi_some h
  refine x_iast C 31 (gt_31 g _) (st_31 g _) hin dX7_part_18 19 rfl ?_
  obtain ⟨σ18, e18, h⟩ := lt_some h
  refine x_we e18 ?_
  cases h
  exact hE _ ht 19 _ dX7_part_19
set_option maxHeartbeats 4000000 in
set_option maxRecDepth 100000 in
theorem c_X7_part {g : Gb} {l : Launch}  {a1 : Int32} {σ : WD} {σ2 : WD} (h : f_X7_part a1 σ = some σ2) : MC l g yX7_part (.code yX7_part cX7_part 2 none) (rmk 1 1) [.ref (adr g 29), .int a1] σ none σ2 := by
  refine MC.of (by decide) (Nat.le_of_ble_eq_true rfl) (fun x C hl hr hq => ?_)
  subst hl
  exact w_X7_part (E := fun z => z = σ2) C  (fun a he pc lv hd => by cases he; exact x_vret C hr hq hd) h rfl
set_option maxHeartbeats 4000000 in
set_option maxRecDepth 100000 in
theorem w_X7_keep_104 {x : Cx} {g : Gb} {E : WD → Prop} (C : CF x g RX7 cX7_keep 2 (rmk 1 1))   {σ : WD} (hE : ∀ (s2 : WD), E s2 → ∀ pc lv, decode cX7_keep pc = .ok (.return_, 1) → WW x g 2 0 0 pc lv [] s2) {t : WD} (h : f_X7_keep_104  σ = some t) (ht : E t) : WW x g 2 0 0 104 [(0, .ref (adr g 29))] [] σ := by
  unfold f_X7_keep_104 at h
  refine x_aload_n C dX7_keep_104 rfl 0 rfl 105 rfl ?_
  refine x_dup C dX7_keep_105 rfl 106 rfl ?_
  refine gf_762_29 C dX7_keep_106 109 rfl ?_
  refine x_iconst C (v := 1) dX7_keep_109 (by decide) 110 rfl ?_
  refine x_iadd C dX7_keep_110 111 rfl ?_
  refine pf_762_29 C dX7_keep_111 114 rfl ?_
  obtain ⟨σ111, e111, h⟩ := lt_some h
  refine x_we e111 ?_
  cases h
  exact hE _ ht 114 _ dX7_keep_114
set_option maxHeartbeats 4000000 in
set_option maxRecDepth 100000 in
theorem w_X7_keep_b49 {x : Cx} {g : Gb} {E : (Int32 × WD) ⊕ (WD) → Prop} (C : CF x g RX7 cX7_keep 2 (rmk 1 1))  {l1 : Int32} {σ : WD} (hI0 : ∀ s, E (.inl s) → WW x g 2 0 0 49 [(0, .ref (adr g 29)), (1, .int s.1)] [] s.2) (hE : ∀ (s2 : WD), E (.inr s2) → ∀ pc lv, decode cX7_keep pc = .ok (.return_, 1) → WW x g 2 0 0 pc lv [] s2) {t : (Int32 × WD) ⊕ (WD)} (h : f_X7_keep_b49 l1 σ = some t) (ht : E t) : WW x g 2 0 0 49 [(0, .ref (adr g 29)), (1, .int l1)] [] σ := by
  unfold f_X7_keep_b49 at h
  refine x_iload_n C dX7_keep_49 rfl 1 rfl 50 rfl ?_
  refine x_bipush C (v := 12) dX7_keep_50 (by decide) 52 rfl ?_
  refine x_icmp_ge C dX7_keep_52 104 (by decide) 55 rfl (fun hc => ?_) (fun hc => ?_)
  · have h := ip hc h
    obtain ⟨_, hm0, rfl⟩ := mr_some h
    exact x_sub [0] rfl (w_X7_keep_104 (E := fun r => E (.inr r)) C  hE hm0 ht)
  · have h := iq hc h
    refine x_aload_n C dX7_keep_55 rfl 0 rfl 56 rfl ?_
    refine gf_763_29 C dX7_keep_56 59 rfl ?_
    refine x_bipush C (v := 24) dX7_keep_59 (by decide) 61 rfl ?_
    refine x_aload_n C dX7_keep_61 rfl 0 rfl 62 rfl ?_
    refine gf_762_29 C dX7_keep_62 65 rfl ?_
    refine x_imul C dX7_keep_65 66 rfl ?_
    refine x_iload_n C dX7_keep_66 rfl 1 rfl 67 rfl ?_
    refine x_iadd C dX7_keep_67 68 rfl ?_
    refine x_aload_n C dX7_keep_68 rfl 0 rfl 69 rfl ?_
    refine gf_760_29 C dX7_keep_69 72 rfl ?_
    refine x_iload_n C dX7_keep_72 rfl 1 rfl 73 rfl ?_
    obtain ⟨hin, h⟩ := gi_some h
    refine x_iald C 30 (gt_30 g _) hin dX7_keep_73 74 rfl ?_
    obtain ⟨hin, h⟩ := gi_some h
    refine x_iast C 32 (gt_32 g _) (st_32 g _) hin dX7_keep_74 75 rfl ?_
    obtain ⟨σ74, e74, h⟩ := lt_some h
    refine x_we e74 ?_
    refine x_aload_n C dX7_keep_75 rfl 0 rfl 76 rfl ?_
    refine gf_763_29 C dX7_keep_76 79 rfl ?_
    refine x_bipush C (v := 24) dX7_keep_79 (by decide) 81 rfl ?_
    refine x_aload_n C dX7_keep_81 rfl 0 rfl 82 rfl ?_
    refine gf_762_29 C dX7_keep_82 85 rfl ?_
    refine x_imul C dX7_keep_85 86 rfl ?_
    refine x_bipush C (v := 12) dX7_keep_86 (by decide) 88 rfl ?_
    refine x_iadd C dX7_keep_88 89 rfl ?_
    refine x_iload_n C dX7_keep_89 rfl 1 rfl 90 rfl ?_
    refine x_iadd C dX7_keep_90 91 rfl ?_
    refine x_aload_n C dX7_keep_91 rfl 0 rfl 92 rfl ?_
    refine gf_761_29 C dX7_keep_92 95 rfl ?_
    refine x_iload_n C dX7_keep_95 rfl 1 rfl 96 rfl ?_
    obtain ⟨hin, h⟩ := gi_some h
    refine x_iald C 31 (gt_31 g _) hin dX7_keep_96 97 rfl ?_
    obtain ⟨hin, h⟩ := gi_some h
    refine x_iast C 32 (gt_32 g _) (st_32 g _) hin dX7_keep_97 98 rfl ?_
    obtain ⟨σ97, e97, h⟩ := lt_some h
    refine x_we e97 ?_
    refine x_iinc C [(1, .int (l1 + 1)), (0, .ref (adr g 29))] dX7_keep_98 1 rfl rfl (by decide) rfl 101 rfl ?_
    refine x_goto C dX7_keep_101 49 (by decide) ?_
    cases h
    exact x_sub [1, 0] rfl (hI0 ((l1 + 1), σ97) ht)
set_option maxHeartbeats 4000000 in
set_option maxRecDepth 100000 in
theorem w_X7_keep_49 {x : Cx} {g : Gb} {E : WD → Prop} (C : CF x g RX7 cX7_keep 2 (rmk 1 1))  {l1 : Int32} {σ : WD} (hE : ∀ (s2 : WD), E s2 → ∀ pc lv, decode cX7_keep pc = .ok (.return_, 1) → WW x g 2 0 0 pc lv [] s2) {t : WD} (h : f_X7_keep_49 l1 σ = some t) (ht : E t) : WW x g 2 0 0 49 [(0, .ref (adr g 29)), (1, .int l1)] [] σ := by
  unfold f_X7_keep_49 at h
  exact lp_ind (fun s : Int32 × WD => WW x g 2 0 0 49 [(0, .ref (adr g 29)), (1, .int s.1)] [] s.2) E h ht (fun s y hb hy => w_X7_keep_b49 (E := Sum.elim (fun s : Int32 × WD => WW x g 2 0 0 49 [(0, .ref (adr g 29)), (1, .int s.1)] [] s.2) E) C  (fun _ h => h)  hE hb hy)
set_option maxHeartbeats 4000000 in
set_option maxRecDepth 100000 in
theorem w_X7_keep_37 {x : Cx} {g : Gb} {E : WD → Prop} (C : CF x g RX7 cX7_keep 2 (rmk 1 1))   {σ : WD} (hE : ∀ (s2 : WD), E s2 → ∀ pc lv, decode cX7_keep pc = .ok (.return_, 1) → WW x g 2 0 0 pc lv [] s2) {t : WD} (h : f_X7_keep_37  σ = some t) (ht : E t) : WW x g 2 0 0 37 [(0, .ref (adr g 29))] [] σ := by
  unfold f_X7_keep_37 at h
  refine x_aload_n C dX7_keep_37 rfl 0 rfl 38 rfl ?_
  refine x_dup C dX7_keep_38 rfl 39 rfl ?_
  refine gf_762_29 C dX7_keep_39 42 rfl ?_
  refine x_iconst C (v := 1) dX7_keep_42 (by decide) 43 rfl ?_
  refine x_isub C dX7_keep_43 44 rfl ?_
  refine pf_762_29 C dX7_keep_44 47 rfl ?_
  obtain ⟨σ44, e44, h⟩ := lt_some h
  refine x_we e44 ?_
  refine x_iconst C (v := 0) dX7_keep_47 (by decide) 48 rfl ?_
  refine x_istore_n C [(1, .int 0), (0, .ref (adr g 29))] dX7_keep_48 rfl (by decide) rfl 49 rfl ?_
  exact x_sub [1, 0] rfl (w_X7_keep_49 C  hE h ht)
set_option maxHeartbeats 4000000 in
set_option maxRecDepth 100000 in
theorem w_X7_keep_b10 {x : Cx} {g : Gb} {E : (Int32 × WD) ⊕ (WD) → Prop} (C : CF x g RX7 cX7_keep 2 (rmk 1 1))  {l1 : Int32} {σ : WD} (hI0 : ∀ s, E (.inl s) → WW x g 2 0 0 10 [(0, .ref (adr g 29)), (1, .int s.1)] [] s.2) (hE : ∀ (s2 : WD), E (.inr s2) → ∀ pc lv, decode cX7_keep pc = .ok (.return_, 1) → WW x g 2 0 0 pc lv [] s2) {t : (Int32 × WD) ⊕ (WD)} (h : f_X7_keep_b10 l1 σ = some t) (ht : E t) : WW x g 2 0 0 10 [(0, .ref (adr g 29)), (1, .int l1)] [] σ := by
  unfold f_X7_keep_b10 at h
  refine x_iload_n C dX7_keep_10 rfl 1 rfl 11 rfl ?_
  refine x_bipush C (v := 72) dX7_keep_11 (by decide) 13 rfl ?_
  refine x_icmp_ge C dX7_keep_13 37 (by decide) 16 rfl (fun hc => ?_) (fun hc => ?_)
  · have h := ip hc h
    obtain ⟨_, hm0, rfl⟩ := mr_some h
    exact x_sub [0] rfl (w_X7_keep_37 (E := fun r => E (.inr r)) C  hE hm0 ht)
  · have h := iq hc h
    refine x_aload_n C dX7_keep_16 rfl 0 rfl 17 rfl ?_
    refine gf_763_29 C dX7_keep_17 20 rfl ?_
    refine x_iload_n C dX7_keep_20 rfl 1 rfl 21 rfl ?_
    refine x_aload_n C dX7_keep_21 rfl 0 rfl 22 rfl ?_
    refine gf_763_29 C dX7_keep_22 25 rfl ?_
    refine x_iload_n C dX7_keep_25 rfl 1 rfl 26 rfl ?_
    refine x_bipush C (v := 24) dX7_keep_26 (by decide) 28 rfl ?_
    refine x_iadd C dX7_keep_28 29 rfl ?_
    obtain ⟨hin, h⟩ := gi_some h
    refine x_iald C 32 (gt_32 g _) hin dX7_keep_29 30 rfl ?_
    obtain ⟨hin, h⟩ := gi_some h
    refine x_iast C 32 (gt_32 g _) (st_32 g _) hin dX7_keep_30 31 rfl ?_
    obtain ⟨σ30, e30, h⟩ := lt_some h
    refine x_we e30 ?_
    refine x_iinc C [(1, .int (l1 + 1)), (0, .ref (adr g 29))] dX7_keep_31 1 rfl rfl (by decide) rfl 34 rfl ?_
    refine x_goto C dX7_keep_34 10 (by decide) ?_
    cases h
    exact x_sub [1, 0] rfl (hI0 ((l1 + 1), σ30) ht)
set_option maxHeartbeats 4000000 in
set_option maxRecDepth 100000 in
theorem w_X7_keep_10 {x : Cx} {g : Gb} {E : WD → Prop} (C : CF x g RX7 cX7_keep 2 (rmk 1 1))  {l1 : Int32} {σ : WD} (hE : ∀ (s2 : WD), E s2 → ∀ pc lv, decode cX7_keep pc = .ok (.return_, 1) → WW x g 2 0 0 pc lv [] s2) {t : WD} (h : f_X7_keep_10 l1 σ = some t) (ht : E t) : WW x g 2 0 0 10 [(0, .ref (adr g 29)), (1, .int l1)] [] σ := by
  unfold f_X7_keep_10 at h
  exact lp_ind (fun s : Int32 × WD => WW x g 2 0 0 10 [(0, .ref (adr g 29)), (1, .int s.1)] [] s.2) E h ht (fun s y hb hy => w_X7_keep_b10 (E := Sum.elim (fun s : Int32 × WD => WW x g 2 0 0 10 [(0, .ref (adr g 29)), (1, .int s.1)] [] s.2) E) C  (fun _ h => h)  hE hb hy)
set_option maxHeartbeats 4000000 in
set_option maxRecDepth 100000 in
theorem w_X7_keep {x : Cx} {g : Gb} {E : WD → Prop} (C : CF x g RX7 cX7_keep 2 (rmk 1 1))   {σ : WD} (hE : ∀ (s2 : WD), E s2 → ∀ pc lv, decode cX7_keep pc = .ok (.return_, 1) → WW x g 2 0 0 pc lv [] s2) {t : WD} (h : f_X7_keep  σ = some t) (ht : E t) : WW x g 2 0 0 0 [(0, .ref (adr g 29))] [] σ := by
  unfold f_X7_keep at h
  refine x_aload_n C dX7_keep_0 rfl 0 rfl 1 rfl ?_
  refine gf_762_29 C dX7_keep_1 4 rfl ?_
  refine x_iconst C (v := 4) dX7_keep_4 (by decide) 5 rfl ?_
  refine x_icmp_ne C dX7_keep_5 47 (by decide) 8 rfl (fun hc => ?_) (fun hc => ?_)
  · have h := iq hc h
    refine x_iconst C (v := 0) dX7_keep_47 (by decide) 48 rfl ?_
    refine x_istore_n C [(1, .int 0), (0, .ref (adr g 29))] dX7_keep_48 rfl (by decide) rfl 49 rfl ?_
    exact x_sub [1, 0] rfl (w_X7_keep_49 C  hE h ht)
  · have h := ip hc h
    refine x_iconst C (v := 0) dX7_keep_8 (by decide) 9 rfl ?_
    refine x_istore_n C [(1, .int 0), (0, .ref (adr g 29))] dX7_keep_9 rfl (by decide) rfl 10 rfl ?_
    exact x_sub [1, 0] rfl (w_X7_keep_10 C  hE h ht)
set_option maxHeartbeats 4000000 in
set_option maxRecDepth 100000 in
theorem c_X7_keep {g : Gb} {l : Launch}   {σ : WD} {σ2 : WD} (h : f_X7_keep  σ = some σ2) : MC l g yX7_keep (.code yX7_keep cX7_keep 2 none) (rmk 1 1) [.ref (adr g 29)] σ none σ2 := by
  refine MC.of (by decide) (Nat.le_of_ble_eq_true rfl) (fun x C hl hr hq => ?_)
  subst hl
  exact w_X7_keep (E := fun z => z = σ2) C  (fun a he pc lv hd => by cases he; exact x_vret C hr hq hd) h rfl
set_option maxHeartbeats 4000000 in
set_option maxRecDepth 100000 in
theorem w_X7_note_46 {x : Cx} {g : Gb} {E : WD → Prop} (C : CF x g RX7 cX7_note 4 (rmk 1 1))  {s0 : Int32} {s1 : Int32} {s2 : Int32} {σ : WD} (hE : ∀ (s2 : WD), E s2 → ∀ pc lv, decode cX7_note pc = .ok (.return_, 1) → WW x g 4 0 0 pc lv [] s2) {t : WD} (h : f_X7_note_46 s0 s1 s2 σ = some t) (ht : E t) : WW x g 4 0 0 46 [] [.int s0, .int s1, .int s2, .ref (adr g 35)] σ := by
  unfold f_X7_note_46 at h
  refine x_iadd C dX7_note_46 47 rfl ?_
  obtain ⟨hin, h⟩ := gi_some h
  refine x_iast C 35 (gt_35 g _) (st_35 g _) hin dX7_note_47 48 rfl ?_
  obtain ⟨σ47, e47, h⟩ := lt_some h
  refine x_we e47 ?_
  cases h
  exact hE _ ht 48 _ dX7_note_48
set_option maxHeartbeats 4000000 in
set_option maxRecDepth 100000 in
theorem w_X7_note_24 {x : Cx} {g : Gb} {E : WD → Prop} (C : CF x g RX7 cX7_note 4 (rmk 1 1))  {l1 : Int32} {l2 : Int32} {l3 : Int32} {σ : WD} (hE : ∀ (s2 : WD), E s2 → ∀ pc lv, decode cX7_note pc = .ok (.return_, 1) → WW x g 4 0 0 pc lv [] s2) {t : WD} (h : f_X7_note_24 l1 l2 l3 σ = some t) (ht : E t) : WW x g 4 0 0 24 [(0, .ref (adr g 29)), (1, .int l1), (2, .int l2), (3, .int l3)] [] σ := by
  unfold f_X7_note_24 at h
  refine x_aload_n C dX7_note_24 rfl 0 rfl 25 rfl ?_
  refine gf_767_29 C dX7_note_25 28 rfl ?_
  refine x_iload_n C dX7_note_28 rfl 1 rfl 29 rfl ?_
  refine x_dup2 C dX7_note_29 rfl rfl 30 rfl ?_
  obtain ⟨hin, h⟩ := gi_some h
  refine x_iald C 35 (gt_35 g _) hin dX7_note_30 31 rfl ?_
  refine x_iload_n C dX7_note_31 rfl 2 rfl 32 rfl ?_
  refine x_aload_n C dX7_note_32 rfl 0 rfl 33 rfl ?_
  refine gf_766_29 C dX7_note_33 36 rfl ?_
  refine x_iload_n C dX7_note_36 rfl 1 rfl 37 rfl ?_
  obtain ⟨hin, h⟩ := gi_some h
  refine x_iald C 34 (gt_34 g _) hin dX7_note_37 38 rfl ?_
  refine x_icmp_ne C dX7_note_38 45 (by decide) 41 rfl (fun hc => ?_) (fun hc => ?_)
  · have h := iq hc h
    refine x_iconst C (v := 0) dX7_note_45 (by decide) 46 rfl ?_
    exact x_sub [] rfl (w_X7_note_46 C  hE h ht)
  · have h := ip hc h
    refine x_iload_n C dX7_note_41 rfl 3 rfl 42 rfl ?_
    refine x_goto C dX7_note_42 46 (by decide) ?_
    exact x_sub [] rfl (w_X7_note_46 C  hE h ht)
set_option maxHeartbeats 4000000 in
set_option maxRecDepth 100000 in
theorem w_X7_note {x : Cx} {g : Gb} {E : WD → Prop} (C : CF x g RX7 cX7_note 4 (rmk 1 1))  {a1 : Int32} {a2 : Int32} {a3 : Int32} {σ : WD} (hE : ∀ (s2 : WD), E s2 → ∀ pc lv, decode cX7_note pc = .ok (.return_, 1) → WW x g 4 0 0 pc lv [] s2) {t : WD} (h : f_X7_note a1 a2 a3 σ = some t) (ht : E t) : WW x g 4 0 0 0 [(0, .ref (adr g 29)), (1, .int a1), (2, .int a2), (3, .int a3)] [] σ := by
  unfold f_X7_note at h
  refine x_iload_n C dX7_note_0 rfl 2 rfl 1 rfl ?_
  refine x_aload_n C dX7_note_1 rfl 0 rfl 2 rfl ?_
  refine gf_766_29 C dX7_note_2 5 rfl ?_
  refine x_iload_n C dX7_note_5 rfl 1 rfl 6 rfl ?_
  obtain ⟨hin, h⟩ := gi_some h
  refine x_iald C 34 (gt_34 g _) hin dX7_note_6 7 rfl ?_
  refine x_icmp_le C dX7_note_7 24 (by decide) 10 rfl (fun hc => ?_) (fun hc => ?_)
  · have h := ip hc h
    exact x_sub [0, 1, 2, 3] rfl (w_X7_note_24 C  hE h ht)
  · have h := iq hc h
    refine x_aload_n C dX7_note_10 rfl 0 rfl 11 rfl ?_
    refine gf_766_29 C dX7_note_11 14 rfl ?_
    refine x_iload_n C dX7_note_14 rfl 1 rfl 15 rfl ?_
    refine x_iload_n C dX7_note_15 rfl 2 rfl 16 rfl ?_
    obtain ⟨hin, h⟩ := gi_some h
    refine x_iast C 34 (gt_34 g _) (st_34 g _) hin dX7_note_16 17 rfl ?_
    obtain ⟨σ16, e16, h⟩ := lt_some h
    refine x_we e16 ?_
    refine x_aload_n C dX7_note_17 rfl 0 rfl 18 rfl ?_
    refine gf_767_29 C dX7_note_18 21 rfl ?_
    refine x_iload_n C dX7_note_21 rfl 1 rfl 22 rfl ?_
    refine x_iconst C (v := 0) dX7_note_22 (by decide) 23 rfl ?_
    obtain ⟨hin, h⟩ := gi_some h
    refine x_iast C 35 (gt_35 g _) (st_35 g _) hin dX7_note_23 24 rfl ?_
    obtain ⟨σ23, e23, h⟩ := lt_some h
    refine x_we e23 ?_
    exact x_sub [0, 1, 2, 3] rfl (w_X7_note_24 C  hE h ht)
set_option maxHeartbeats 4000000 in
set_option maxRecDepth 100000 in
theorem c_X7_note {g : Gb} {l : Launch}  {a1 : Int32} {a2 : Int32} {a3 : Int32} {σ : WD} {σ2 : WD} (h : f_X7_note a1 a2 a3 σ = some σ2) : MC l g yX7_note (.code yX7_note cX7_note 4 none) (rmk 1 1) [.ref (adr g 29), .int a1, .int a2, .int a3] σ none σ2 := by
  refine MC.of (by decide) (Nat.le_of_ble_eq_true rfl) (fun x C hl hr hq => ?_)
  subst hl
  exact w_X7_note (E := fun z => z = σ2) C  (fun a he pc lv hd => by cases he; exact x_vret C hr hq hd) h rfl
set_option maxHeartbeats 4000000 in
set_option maxRecDepth 100000 in
theorem w_X7_laySets_b77 {x : Cx} {g : Gb} {E : (Int32 × WD) ⊕ ((Int32 × WD) ⊕ (WD)) → Prop} (C : CF x g RX7 cX7_laySets 5 (rmk 2 25))  {l1 : Int32} {l2 : Int32} {l3 : Int32} {l4 : Int32} {σ : WD} (hI0 : ∀ s, E (.inl s) → WW x g 5 0 0 77 [(0, .ref (adr g 29)), (1, .int l1), (2, .int l2), (3, .int l3), (4, .int s.1)] [] s.2) (hI1 : ∀ s, E (.inr (.inl s)) → WW x g 5 0 0 16 [(0, .ref (adr g 29)), (1, .int s.1)] [] s.2) (hE : ∀ (s2 : WD), E (.inr (.inr s2)) → ∀ pc lv, decode cX7_laySets pc = .ok (.return_, 1) → WW x g 5 0 0 pc lv [] s2) {t : (Int32 × WD) ⊕ ((Int32 × WD) ⊕ (WD))} (h : f_X7_laySets_b77 l1 l2 l3 l4 σ = some t) (ht : E t) : WW x g 5 0 0 77 [(0, .ref (adr g 29)), (1, .int l1), (2, .int l2), (3, .int l3), (4, .int l4)] [] σ := by
  unfold f_X7_laySets_b77 at h
  refine x_iload C dX7_laySets_77 4 rfl 79 rfl ?_
  refine x_aload_n C dX7_laySets_79 rfl 0 rfl 80 rfl ?_
  refine gf_759_29 C dX7_laySets_80 83 rfl ?_
  refine x_icmp_ge C dX7_laySets_83 141 (by decide) 86 rfl (fun hc => ?_) (fun hc => ?_)
  · have h := ip hc h
    refine x_iinc C [(1, .int (l1 + 1)), (0, .ref (adr g 29)), (2, .int l2), (3, .int l3), (4, .int l4)] dX7_laySets_141 1 rfl rfl (by decide) rfl 144 rfl ?_
    refine x_goto C dX7_laySets_144 16 (by decide) ?_
    cases h
    exact x_sub [1, 0] rfl (hI1 ((l1 + 1), σ) ht)
  · have h := iq hc h
    refine x_iload_n C dX7_laySets_86 rfl 3 rfl 87 rfl ?_
    refine x_aload_n C dX7_laySets_87 rfl 0 rfl 88 rfl ?_
    refine gf_760_29 C dX7_laySets_88 91 rfl ?_
    refine x_iload_n C dX7_laySets_91 rfl 2 rfl 92 rfl ?_
    obtain ⟨hin, h⟩ := gi_some h
    refine x_iald C 30 (gt_30 g _) hin dX7_laySets_92 93 rfl ?_
    refine x_iand C dX7_laySets_93 94 rfl ?_
    refine x_iload C dX7_laySets_94 4 rfl 96 rfl ?_
    obtain ⟨r96, h96, h⟩ := bv_some h
    refine x_callS C [.int (l3 &&& (σ.1 30 (l2 : Int32).toNatClampNeg)), .int l4] (c_X7_has  h96) mi_X7_has q_839 rfl ⟨rfl, rfl⟩ ⟨Nat.le_of_ble_eq_true rfl, Nat.le_of_ble_eq_true rfl⟩ ⟨Nat.zero_le _, Nat.zero_le _⟩ _ rfl (Nat.le_of_ble_eq_true rfl) dX7_laySets_96 99 rfl ?_
    refine x_if_eq C dX7_laySets_99 135 (by decide) 102 rfl (fun hc => ?_) (fun hc => ?_)
    · have h := ip hc h
      refine x_iinc C [(4, .int (l4 + 1)), (0, .ref (adr g 29)), (1, .int l1), (2, .int l2), (3, .int l3)] dX7_laySets_135 4 rfl rfl (by decide) rfl 138 rfl ?_
      refine x_goto C dX7_laySets_138 77 (by decide) ?_
      cases h
      exact x_sub [1, 2, 3, 4, 0] rfl (hI0 ((l4 + 1), σ) ht)
    · have h := iq hc h
      refine x_aload_n C dX7_laySets_102 rfl 0 rfl 103 rfl ?_
      refine x_iload_n C dX7_laySets_103 rfl 1 rfl 104 rfl ?_
      refine x_aload_n C dX7_laySets_104 rfl 0 rfl 105 rfl ?_
      refine gf_766_29 C dX7_laySets_105 108 rfl ?_
      refine x_iload_n C dX7_laySets_108 rfl 3 rfl 109 rfl ?_
      refine x_iconst C (v := 1) dX7_laySets_109 (by decide) 110 rfl ?_
      refine x_iload C dX7_laySets_110 4 rfl 112 rfl ?_
      refine x_ishl C dX7_laySets_112 113 rfl ?_
      refine x_iconst C (v := -1) dX7_laySets_113 (by decide) 114 rfl ?_
      refine x_ixor C dX7_laySets_114 115 rfl ?_
      refine x_iand C dX7_laySets_115 116 rfl ?_
      obtain ⟨hin, h⟩ := gi_some h
      refine x_iald C 34 (gt_34 g _) hin dX7_laySets_116 117 rfl ?_
      refine x_iconst C (v := 1) dX7_laySets_117 (by decide) 118 rfl ?_
      refine x_iadd C dX7_laySets_118 119 rfl ?_
      refine x_aload_n C dX7_laySets_119 rfl 0 rfl 120 rfl ?_
      refine gf_767_29 C dX7_laySets_120 123 rfl ?_
      refine x_iload_n C dX7_laySets_123 rfl 3 rfl 124 rfl ?_
      refine x_iconst C (v := 1) dX7_laySets_124 (by decide) 125 rfl ?_
      refine x_iload C dX7_laySets_125 4 rfl 127 rfl ?_
      refine x_ishl C dX7_laySets_127 128 rfl ?_
      refine x_iconst C (v := -1) dX7_laySets_128 (by decide) 129 rfl ?_
      refine x_ixor C dX7_laySets_129 130 rfl ?_
      refine x_iand C dX7_laySets_130 131 rfl ?_
      obtain ⟨hin, h⟩ := gi_some h
      refine x_iald C 35 (gt_35 g _) hin dX7_laySets_131 132 rfl ?_
      obtain ⟨σ132, h132, h⟩ := bv_some h
      refine x_callV C 29 [.int l1, .int ((σ.1 34 ((l3 &&& (((1 : Int32) <<< (l4 &&& 31)) ^^^ (-1))) : Int32).toNatClampNeg) + 1), .int (σ.1 35 ((l3 &&& (((1 : Int32) <<< (l4 &&& 31)) ^^^ (-1))) : Int32).toNatClampNeg)] (c_X7_note  h132) mi_X7_note (gt_29 g _) rfl q_934 rfl ⟨rfl, rfl⟩ ⟨Nat.le_of_ble_eq_true rfl, Nat.le_of_ble_eq_true rfl⟩ ⟨Nat.zero_le _, Nat.zero_le _⟩ _ rfl (Nat.le_of_ble_eq_true rfl) dX7_laySets_132 135 rfl ?_
      refine x_iinc C [(4, .int (l4 + 1)), (0, .ref (adr g 29)), (1, .int l1), (2, .int l2), (3, .int l3)] dX7_laySets_135 4 rfl rfl (by decide) rfl 138 rfl ?_
      refine x_goto C dX7_laySets_138 77 (by decide) ?_
      cases h
      exact x_sub [1, 2, 3, 4, 0] rfl (hI0 ((l4 + 1), σ132) ht)
set_option maxHeartbeats 4000000 in
set_option maxRecDepth 100000 in
theorem w_X7_laySets_77 {x : Cx} {g : Gb} {E : (Int32 × WD) ⊕ (WD) → Prop} (C : CF x g RX7 cX7_laySets 5 (rmk 2 25))  {l1 : Int32} {l2 : Int32} {l3 : Int32} {l4 : Int32} {σ : WD} (hI0 : ∀ s, E (.inl s) → WW x g 5 0 0 16 [(0, .ref (adr g 29)), (1, .int s.1)] [] s.2) (hE : ∀ (s2 : WD), E (.inr s2) → ∀ pc lv, decode cX7_laySets pc = .ok (.return_, 1) → WW x g 5 0 0 pc lv [] s2) {t : (Int32 × WD) ⊕ (WD)} (h : f_X7_laySets_77 l1 l2 l3 l4 σ = some t) (ht : E t) : WW x g 5 0 0 77 [(0, .ref (adr g 29)), (1, .int l1), (2, .int l2), (3, .int l3), (4, .int l4)] [] σ := by
  unfold f_X7_laySets_77 at h
  exact lp_ind (fun s : Int32 × WD => WW x g 5 0 0 77 [(0, .ref (adr g 29)), (1, .int l1), (2, .int l2), (3, .int l3), (4, .int s.1)] [] s.2) E h ht (fun s y hb hy => w_X7_laySets_b77 (E := Sum.elim (fun s : Int32 × WD => WW x g 5 0 0 77 [(0, .ref (adr g 29)), (1, .int l1), (2, .int l2), (3, .int l3), (4, .int s.1)] [] s.2) E) C  (fun _ h => h) hI0 hE hb hy)
set_option maxHeartbeats 4000000 in
set_option maxRecDepth 100000 in
theorem w_X7_laySets_40 {x : Cx} {g : Gb} {E : (Int32 × WD) ⊕ (WD) → Prop} (C : CF x g RX7 cX7_laySets 5 (rmk 2 25))  {l1 : Int32} {l2 : Int32} {σ : WD} (hI0 : ∀ s, E (.inl s) → WW x g 5 0 0 16 [(0, .ref (adr g 29)), (1, .int s.1)] [] s.2) (hE : ∀ (s2 : WD), E (.inr s2) → ∀ pc lv, decode cX7_laySets pc = .ok (.return_, 1) → WW x g 5 0 0 pc lv [] s2) {t : (Int32 × WD) ⊕ (WD)} (h : f_X7_laySets_40 l1 l2 σ = some t) (ht : E t) : WW x g 5 0 0 40 [(0, .ref (adr g 29)), (1, .int l1), (2, .int l2)] [] σ := by
  unfold f_X7_laySets_40 at h
  refine x_iload_n C dX7_laySets_40 rfl 1 rfl 41 rfl ?_
  refine x_iconst C (v := 1) dX7_laySets_41 (by decide) 42 rfl ?_
  refine x_iload_n C dX7_laySets_42 rfl 2 rfl 43 rfl ?_
  refine x_ishl C dX7_laySets_43 44 rfl ?_
  refine x_iconst C (v := -1) dX7_laySets_44 (by decide) 45 rfl ?_
  refine x_ixor C dX7_laySets_45 46 rfl ?_
  refine x_iand C dX7_laySets_46 47 rfl ?_
  obtain ⟨v47, e47, h⟩ := li_some h
  refine x_te e47 ?_
  refine x_istore_n C [(3, .int v47), (0, .ref (adr g 29)), (1, .int l1), (2, .int l2)] dX7_laySets_47 rfl (by decide) rfl 48 rfl ?_
  refine x_aload_n C dX7_laySets_48 rfl 1 rfl 49 rfl ?_
  refine gf_766_29 C dX7_laySets_49 52 rfl ?_
  refine x_iload_n C dX7_laySets_52 rfl 2 rfl 53 rfl ?_
  refine x_iconst C (v := -1) dX7_laySets_53 (by decide) 54 rfl ?_
  obtain ⟨hin, h⟩ := gi_some h
  refine x_iast C 34 (gt_34 g _) (st_34 g _) hin dX7_laySets_54 55 rfl ?_
  obtain ⟨σ54, e54, h⟩ := lt_some h
  refine x_we e54 ?_
  refine x_aload_n C dX7_laySets_55 rfl 1 rfl 56 rfl ?_
  refine x_iload_n C dX7_laySets_56 rfl 2 rfl 57 rfl ?_
  refine x_aload_n C dX7_laySets_57 rfl 1 rfl 58 rfl ?_
  refine gf_766_29 C dX7_laySets_58 61 rfl ?_
  refine x_iload_n C dX7_laySets_61 rfl 0 rfl 62 rfl ?_
  obtain ⟨hin, h⟩ := gi_some h
  refine x_iald C 34 (gt_34 g _) hin dX7_laySets_62 63 rfl ?_
  refine x_aload_n C dX7_laySets_63 rfl 1 rfl 64 rfl ?_
  refine gf_767_29 C dX7_laySets_64 67 rfl ?_
  refine x_iload_n C dX7_laySets_67 rfl 0 rfl 68 rfl ?_
  obtain ⟨hin, h⟩ := gi_some h
  refine x_iald C 35 (gt_35 g _) hin dX7_laySets_68 69 rfl ?_
  obtain ⟨σ69, h69, h⟩ := bv_some h
  refine x_callV C 29 [.int l1, .int (σ54.1 34 (v47 : Int32).toNatClampNeg), .int (σ54.1 35 (v47 : Int32).toNatClampNeg)] (c_X7_note  h69) mi_X7_note (gt_29 g _) rfl q_934 rfl ⟨rfl, rfl⟩ ⟨Nat.le_of_ble_eq_true rfl, Nat.le_of_ble_eq_true rfl⟩ ⟨Nat.zero_le _, Nat.zero_le _⟩ _ rfl (Nat.le_of_ble_eq_true rfl) dX7_laySets_69 72 rfl ?_
  refine x_iload_n C dX7_laySets_72 rfl 3 rfl 73 rfl ?_
  refine x_iconst C (v := 1) dX7_laySets_73 (by decide) 74 rfl ?_
  refine x_iadd C dX7_laySets_74 75 rfl ?_
  refine x_istore C [(4, .int (l2 + 1)), (3, .int v47), (0, .ref (adr g 29)), (1, .int l1), (2, .int l2)] dX7_laySets_75 (by decide) rfl 77 rfl ?_
  exact x_sub [2, 3, 4, 1, 0] rfl (w_X7_laySets_77 C  hI0 hE h ht)
set_option maxHeartbeats 4000000 in
set_option maxRecDepth 100000 in
theorem w_X7_laySets_b26 {x : Cx} {g : Gb} {E : (Int32) ⊕ ((Int32 × WD) ⊕ (WD)) → Prop} (C : CF x g RX7 cX7_laySets 5 (rmk 2 25))  {l1 : Int32} {l2 : Int32} {σ : WD} (hI0 : ∀ s, E (.inl s) → WW x g 5 0 0 26 [(0, .ref (adr g 29)), (1, .int l1), (2, .int s)] [] σ) (hI1 : ∀ s, E (.inr (.inl s)) → WW x g 5 0 0 16 [(0, .ref (adr g 29)), (1, .int s.1)] [] s.2) (hE : ∀ (s2 : WD), E (.inr (.inr s2)) → ∀ pc lv, decode cX7_laySets pc = .ok (.return_, 1) → WW x g 5 0 0 pc lv [] s2) {t : (Int32) ⊕ ((Int32 × WD) ⊕ (WD))} (h : f_X7_laySets_b26 l1 l2 σ = some t) (ht : E t) : WW x g 5 0 0 26 [(0, .ref (adr g 29)), (1, .int l1), (2, .int l2)] [] σ := by
  unfold f_X7_laySets_b26 at h
  refine x_iload_n C dX7_laySets_26 rfl 1 rfl 27 rfl ?_
  refine x_iload_n C dX7_laySets_27 rfl 2 rfl 28 rfl ?_
  obtain ⟨r28, h28, h⟩ := bv_some h
  refine x_callS C [.int l1, .int l2] (c_X7_has  h28) mi_X7_has q_839 rfl ⟨rfl, rfl⟩ ⟨Nat.le_of_ble_eq_true rfl, Nat.le_of_ble_eq_true rfl⟩ ⟨Nat.zero_le _, Nat.zero_le _⟩ _ rfl (Nat.le_of_ble_eq_true rfl) dX7_laySets_28 31 rfl ?_
  refine x_if_ne C dX7_laySets_31 40 (by decide) 34 rfl (fun hc => ?_) (fun hc => ?_)
  · have h := iq hc h
    obtain ⟨_, hm0, rfl⟩ := mr_some h
    exact x_sub [0, 1, 2] rfl (w_X7_laySets_40 (E := fun r => E (.inr r)) C  hI1 hE hm0 ht)
  · have h := ip hc h
    refine x_iinc C [(2, .int (l2 + 1)), (0, .ref (adr g 29)), (1, .int l1)] dX7_laySets_34 2 rfl rfl (by decide) rfl 37 rfl ?_
    refine x_goto C dX7_laySets_37 26 (by decide) ?_
    cases h
    exact x_sub [1, 2, 0] rfl (hI0 (l2 + 1) ht)
set_option maxHeartbeats 4000000 in
set_option maxRecDepth 100000 in
theorem w_X7_laySets_26 {x : Cx} {g : Gb} {E : (Int32 × WD) ⊕ (WD) → Prop} (C : CF x g RX7 cX7_laySets 5 (rmk 2 25))  {l1 : Int32} {l2 : Int32} {σ : WD} (hI0 : ∀ s, E (.inl s) → WW x g 5 0 0 16 [(0, .ref (adr g 29)), (1, .int s.1)] [] s.2) (hE : ∀ (s2 : WD), E (.inr s2) → ∀ pc lv, decode cX7_laySets pc = .ok (.return_, 1) → WW x g 5 0 0 pc lv [] s2) {t : (Int32 × WD) ⊕ (WD)} (h : f_X7_laySets_26 l1 l2 σ = some t) (ht : E t) : WW x g 5 0 0 26 [(0, .ref (adr g 29)), (1, .int l1), (2, .int l2)] [] σ := by
  unfold f_X7_laySets_26 at h
  exact lp_ind (fun s : Int32 => WW x g 5 0 0 26 [(0, .ref (adr g 29)), (1, .int l1), (2, .int s)] [] σ) E h ht (fun s y hb hy => w_X7_laySets_b26 (E := Sum.elim (fun s : Int32 => WW x g 5 0 0 26 [(0, .ref (adr g 29)), (1, .int l1), (2, .int s)] [] σ) E) C  (fun _ h => h) hI0 hE hb hy)
set_option maxHeartbeats 4000000 in
set_option maxRecDepth 100000 in
theorem w_X7_laySets_b16 {x : Cx} {g : Gb} {E : (Int32 × WD) ⊕ (WD) → Prop} (C : CF x g RX7 cX7_laySets 5 (rmk 2 25))  {l1 : Int32} {σ : WD} (hI0 : ∀ s, E (.inl s) → WW x g 5 0 0 16 [(0, .ref (adr g 29)), (1, .int s.1)] [] s.2) (hE : ∀ (s2 : WD), E (.inr s2) → ∀ pc lv, decode cX7_laySets pc = .ok (.return_, 1) → WW x g 5 0 0 pc lv [] s2) {t : (Int32 × WD) ⊕ (WD)} (h : f_X7_laySets_b16 l1 σ = some t) (ht : E t) : WW x g 5 0 0 16 [(0, .ref (adr g 29)), (1, .int l1)] [] σ := by
  unfold f_X7_laySets_b16 at h
  refine x_iload_n C dX7_laySets_16 rfl 1 rfl 17 rfl ?_
  refine x_aload_n C dX7_laySets_17 rfl 0 rfl 18 rfl ?_
  obtain ⟨r18, h18, h⟩ := bv_some h
  refine x_callV C 29 [] (c_X7_all  h18) mi_X7_all (gt_29 g _) rfl q_930 rfl ⟨rfl, rfl⟩ ⟨Nat.le_of_ble_eq_true rfl, Nat.le_of_ble_eq_true rfl⟩ ⟨Nat.zero_le _, Nat.zero_le _⟩ _ rfl (Nat.le_of_ble_eq_true rfl) dX7_laySets_18 21 rfl ?_
  refine x_icmp_gt C dX7_laySets_21 147 (by decide) 24 rfl (fun hc => ?_) (fun hc => ?_)
  · have h := ip hc h
    cases h
    exact hE _ ht 147 _ dX7_laySets_147
  · have h := iq hc h
    refine x_iconst C (v := 0) dX7_laySets_24 (by decide) 25 rfl ?_
    refine x_istore_n C [(2, .int 0), (0, .ref (adr g 29)), (1, .int l1)] dX7_laySets_25 rfl (by decide) rfl 26 rfl ?_
    exact x_sub [1, 2, 0] rfl (w_X7_laySets_26 C  hI0 hE h ht)
set_option maxHeartbeats 4000000 in
set_option maxRecDepth 100000 in
theorem w_X7_laySets_16 {x : Cx} {g : Gb} {E : WD → Prop} (C : CF x g RX7 cX7_laySets 5 (rmk 2 25))  {l1 : Int32} {σ : WD} (hE : ∀ (s2 : WD), E s2 → ∀ pc lv, decode cX7_laySets pc = .ok (.return_, 1) → WW x g 5 0 0 pc lv [] s2) {t : WD} (h : f_X7_laySets_16 l1 σ = some t) (ht : E t) : WW x g 5 0 0 16 [(0, .ref (adr g 29)), (1, .int l1)] [] σ := by
  unfold f_X7_laySets_16 at h
  exact lp_ind (fun s : Int32 × WD => WW x g 5 0 0 16 [(0, .ref (adr g 29)), (1, .int s.1)] [] s.2) E h ht (fun s y hb hy => w_X7_laySets_b16 (E := Sum.elim (fun s : Int32 × WD => WW x g 5 0 0 16 [(0, .ref (adr g 29)), (1, .int s.1)] [] s.2) E) C  (fun _ h => h)  hE hb hy)
set_option maxHeartbeats 4000000 in
set_option maxRecDepth 100000 in
theorem w_X7_laySets {x : Cx} {g : Gb} {E : WD → Prop} (C : CF x g RX7 cX7_laySets 5 (rmk 2 25))   {σ : WD} (hE : ∀ (s2 : WD), E s2 → ∀ pc lv, decode cX7_laySets pc = .ok (.return_, 1) → WW x g 5 0 0 pc lv [] s2) {t : WD} (h : f_X7_laySets  σ = some t) (ht : E t) : WW x g 5 0 0 0 [(0, .ref (adr g 29))] [] σ := by
  unfold f_X7_laySets at h
  refine x_aload_n C dX7_laySets_0 rfl 0 rfl 1 rfl ?_
  refine gf_766_29 C dX7_laySets_1 4 rfl ?_
  refine x_iconst C (v := 0) dX7_laySets_4 (by decide) 5 rfl ?_
  refine x_iconst C (v := 0) dX7_laySets_5 (by decide) 6 rfl ?_
  obtain ⟨hin, h⟩ := gi_some h
  refine x_iast C 34 (gt_34 g _) (st_34 g _) hin dX7_laySets_6 7 rfl ?_
  obtain ⟨σ6, e6, h⟩ := lt_some h
  refine x_we e6 ?_
  refine x_aload_n C dX7_laySets_7 rfl 0 rfl 8 rfl ?_
  refine gf_767_29 C dX7_laySets_8 11 rfl ?_
  refine x_iconst C (v := 0) dX7_laySets_11 (by decide) 12 rfl ?_
  refine x_iconst C (v := 1) dX7_laySets_12 (by decide) 13 rfl ?_
  obtain ⟨hin, h⟩ := gi_some h
  refine x_iast C 35 (gt_35 g _) (st_35 g _) hin dX7_laySets_13 14 rfl ?_
  obtain ⟨σ13, e13, h⟩ := lt_some h
  refine x_we e13 ?_
  refine x_iconst C (v := 1) dX7_laySets_14 (by decide) 15 rfl ?_
  refine x_istore_n C [(1, .int 1), (0, .ref (adr g 29))] dX7_laySets_15 rfl (by decide) rfl 16 rfl ?_
  exact x_sub [1, 0] rfl (w_X7_laySets_16 C  hE h ht)
set_option maxHeartbeats 4000000 in
set_option maxRecDepth 100000 in
theorem c_X7_laySets {g : Gb} {l : Launch}   {σ : WD} {σ2 : WD} (h : f_X7_laySets  σ = some σ2) : MC l g yX7_laySets (.code yX7_laySets cX7_laySets 5 none) (rmk 2 25) [.ref (adr g 29)] σ none σ2 := by
  refine MC.of (by decide) (Nat.le_of_ble_eq_true rfl) (fun x C hl hr hq => ?_)
  subst hl
  exact w_X7_laySets (E := fun z => z = σ2) C  (fun a he pc lv hd => by cases he; exact x_vret C hr hq hd) h rfl
set_option maxHeartbeats 4000000 in
set_option maxRecDepth 100000 in
theorem w_X7_layFirst_111 {x : Cx} {g : Gb} {E : (Int32 × Int32 × WD) ⊕ (WD) → Prop} (C : CF x g RX7 cX7_layFirst 5 (rmk 2 23))  {l2 : Int32} {l3 : Int32} {l4 : Int32} {s0 : Int32} {s1 : Int32} {σ : WD} (hI0 : ∀ s, E (.inl s) → WW x g 5 0 0 7 [(0, .ref (adr g 29)), (1, .int s.1), (2, .int s.2.1)] [] s.2.2) (hE : ∀ (s2 : WD), E (.inr s2) → ∀ pc lv, decode cX7_layFirst pc = .ok (.return_, 1) → WW x g 5 0 0 pc lv [] s2) {t : (Int32 × Int32 × WD) ⊕ (WD)} (h : f_X7_layFirst_111 l2 l3 l4 s0 s1 σ = some t) (ht : E t) : WW x g 5 0 0 111 [(0, .ref (adr g 29)), (2, .int l2), (3, .int l3), (4, .int l4)] [.int s0, .int s1, .ref (adr g 36)] σ := by
  unfold f_X7_layFirst_111 at h
  obtain ⟨hin, h⟩ := gi_some h
  refine x_iast C 36 (gt_36 g _) (st_36 g _) hin dX7_layFirst_111 112 rfl ?_
  obtain ⟨σ111, e111, h⟩ := lt_some h
  refine x_we e111 ?_
  refine x_iload_n C dX7_layFirst_112 rfl 2 rfl 113 rfl ?_
  refine x_istore_n C [(1, .int l3), (0, .ref (adr g 29)), (2, .int l2), (3, .int l3), (4, .int l4)] dX7_layFirst_113 rfl (by decide) rfl 114 rfl ?_
  refine x_iload C dX7_layFirst_114 4 rfl 116 rfl ?_
  refine x_aload_n C dX7_layFirst_116 rfl 1 rfl 117 rfl ?_
  refine gf_759_29 C dX7_layFirst_117 120 rfl ?_
  refine x_icmp_ge C dX7_layFirst_120 140 (by decide) 123 rfl (fun hc => ?_) (fun hc => ?_)
  · have h := ip hc h
    refine x_iinc C [(2, .int (l2 + 1)), (1, .int l3), (0, .ref (adr g 29)), (3, .int l3), (4, .int l4)] dX7_layFirst_140 2 rfl rfl (by decide) rfl 143 rfl ?_
    refine x_goto C dX7_layFirst_143 7 (by decide) ?_
    cases h
    exact x_sub [2, 1, 0] rfl (hI0 (l3, (l2 + 1), σ111) ht)
  · have h := iq hc h
    refine x_aload_n C dX7_layFirst_123 rfl 1 rfl 124 rfl ?_
    refine gf_768_29 C dX7_layFirst_124 127 rfl ?_
    refine x_iload C dX7_layFirst_127 4 rfl 129 rfl ?_
    refine x_iload_n C dX7_layFirst_129 rfl 2 rfl 130 rfl ?_
    obtain ⟨hin, h⟩ := gi_some h
    refine x_iast C 36 (gt_36 g _) (st_36 g _) hin dX7_layFirst_130 131 rfl ?_
    obtain ⟨σ130, e130, h⟩ := lt_some h
    refine x_we e130 ?_
    refine x_iload_n C dX7_layFirst_131 rfl 0 rfl 132 rfl ?_
    refine x_iconst C (v := 1) dX7_layFirst_132 (by decide) 133 rfl ?_
    refine x_iload C dX7_layFirst_133 4 rfl 135 rfl ?_
    refine x_ishl C dX7_layFirst_135 136 rfl ?_
    refine x_iconst C (v := -1) dX7_layFirst_136 (by decide) 137 rfl ?_
    refine x_ixor C dX7_layFirst_137 138 rfl ?_
    refine x_iand C dX7_layFirst_138 139 rfl ?_
    obtain ⟨v139, e139, h⟩ := li_some h
    refine x_te e139 ?_
    refine x_istore_n C [(1, .int v139), (0, .ref (adr g 29)), (2, .int l2), (3, .int l3), (4, .int l4)] dX7_layFirst_139 rfl (by decide) rfl 140 rfl ?_
    refine x_iinc C [(2, .int (l2 + 1)), (1, .int v139), (0, .ref (adr g 29)), (3, .int l3), (4, .int l4)] dX7_layFirst_140 2 rfl rfl (by decide) rfl 143 rfl ?_
    refine x_goto C dX7_layFirst_143 7 (by decide) ?_
    cases h
    exact x_sub [2, 1, 0] rfl (hI0 (v139, (l2 + 1), σ130) ht)
set_option maxHeartbeats 4000000 in
set_option maxRecDepth 100000 in
theorem w_X7_layFirst_91 {x : Cx} {g : Gb} {E : (Int32 × Int32 × WD) ⊕ (WD) → Prop} (C : CF x g RX7 cX7_layFirst 5 (rmk 2 23))  {l2 : Int32} {l3 : Int32} {l4 : Int32} {σ : WD} (hI0 : ∀ s, E (.inl s) → WW x g 5 0 0 7 [(0, .ref (adr g 29)), (1, .int s.1), (2, .int s.2.1)] [] s.2.2) (hE : ∀ (s2 : WD), E (.inr s2) → ∀ pc lv, decode cX7_layFirst pc = .ok (.return_, 1) → WW x g 5 0 0 pc lv [] s2) {t : (Int32 × Int32 × WD) ⊕ (WD)} (h : f_X7_layFirst_91 l2 l3 l4 σ = some t) (ht : E t) : WW x g 5 0 0 91 [(0, .ref (adr g 29)), (2, .int l2), (3, .int l3), (4, .int l4)] [] σ := by
  unfold f_X7_layFirst_91 at h
  refine x_aload_n C dX7_layFirst_91 rfl 0 rfl 92 rfl ?_
  refine gf_768_29 C dX7_layFirst_92 95 rfl ?_
  refine x_iload_n C dX7_layFirst_95 rfl 1 rfl 96 rfl ?_
  refine x_iload C dX7_layFirst_96 3 rfl 98 rfl ?_
  refine x_aload_n C dX7_layFirst_98 rfl 0 rfl 99 rfl ?_
  refine gf_759_29 C dX7_layFirst_99 102 rfl ?_
  refine x_icmp_ge C dX7_layFirst_102 110 (by decide) 105 rfl (fun hc => ?_) (fun hc => ?_)
  · have h := ip hc h
    refine x_iconst C (v := -1) dX7_layFirst_110 (by decide) 111 rfl ?_
    exact x_sub [0, 1, 2, 3] rfl (w_X7_layFirst_111 C  hI0 hE h ht)
  · have h := iq hc h
    refine x_iload C dX7_layFirst_105 3 rfl 107 rfl ?_
    refine x_goto C dX7_layFirst_107 111 (by decide) ?_
    exact x_sub [0, 1, 2, 3] rfl (w_X7_layFirst_111 C  hI0 hE h ht)
set_option maxHeartbeats 4000000 in
set_option maxRecDepth 100000 in
theorem w_X7_layFirst_b36 {x : Cx} {g : Gb} {E : (Int32) ⊕ ((Int32 × Int32 × WD) ⊕ (WD)) → Prop} (C : CF x g RX7 cX7_layFirst 5 (rmk 2 23))  {l1 : Int32} {l2 : Int32} {l3 : Int32} {l4 : Int32} {σ : WD} (hI0 : ∀ s, E (.inl s) → WW x g 5 0 0 36 [(0, .ref (adr g 29)), (1, .int l1), (2, .int l2), (3, .int l3), (4, .int s)] [] σ) (hI1 : ∀ s, E (.inr (.inl s)) → WW x g 5 0 0 7 [(0, .ref (adr g 29)), (1, .int s.1), (2, .int s.2.1)] [] s.2.2) (hE : ∀ (s2 : WD), E (.inr (.inr s2)) → ∀ pc lv, decode cX7_layFirst pc = .ok (.return_, 1) → WW x g 5 0 0 pc lv [] s2) {t : (Int32) ⊕ ((Int32 × Int32 × WD) ⊕ (WD))} (h : f_X7_layFirst_b36 l1 l2 l3 l4 σ = some t) (ht : E t) : WW x g 5 0 0 36 [(0, .ref (adr g 29)), (1, .int l1), (2, .int l2), (3, .int l3), (4, .int l4)] [] σ := by
  unfold f_X7_layFirst_b36 at h
  refine x_iload C dX7_layFirst_36 4 rfl 38 rfl ?_
  refine x_aload_n C dX7_layFirst_38 rfl 0 rfl 39 rfl ?_
  refine gf_759_29 C dX7_layFirst_39 42 rfl ?_
  refine x_icmp_ge C dX7_layFirst_42 91 (by decide) 45 rfl (fun hc => ?_) (fun hc => ?_)
  · have h := ip hc h
    obtain ⟨_, hm0, rfl⟩ := mr_some h
    exact x_sub [0, 2, 3, 4] rfl (w_X7_layFirst_91 (E := fun r => E (.inr r)) C  hI1 hE hm0 ht)
  · have h := iq hc h
    refine x_iload_n C dX7_layFirst_45 rfl 3 rfl 46 rfl ?_
    refine x_aload_n C dX7_layFirst_46 rfl 0 rfl 47 rfl ?_
    refine gf_760_29 C dX7_layFirst_47 50 rfl ?_
    refine x_iload_n C dX7_layFirst_50 rfl 2 rfl 51 rfl ?_
    obtain ⟨hin, h⟩ := gi_some h
    refine x_iald C 30 (gt_30 g _) hin dX7_layFirst_51 52 rfl ?_
    refine x_iand C dX7_layFirst_52 53 rfl ?_
    refine x_iload C dX7_layFirst_53 4 rfl 55 rfl ?_
    obtain ⟨r55, h55, h⟩ := bv_some h
    refine x_callS C [.int (l3 &&& (σ.1 30 (l2 : Int32).toNatClampNeg)), .int l4] (c_X7_has  h55) mi_X7_has q_839 rfl ⟨rfl, rfl⟩ ⟨Nat.le_of_ble_eq_true rfl, Nat.le_of_ble_eq_true rfl⟩ ⟨Nat.zero_le _, Nat.zero_le _⟩ _ rfl (Nat.le_of_ble_eq_true rfl) dX7_layFirst_55 58 rfl ?_
    refine x_if_eq C dX7_layFirst_58 85 (by decide) 61 rfl (fun hc => ?_) (fun hc => ?_)
    · have h := ip hc h
      refine x_iinc C [(4, .int (l4 + 1)), (0, .ref (adr g 29)), (1, .int l1), (2, .int l2), (3, .int l3)] dX7_layFirst_85 4 rfl rfl (by decide) rfl 88 rfl ?_
      refine x_goto C dX7_layFirst_88 36 (by decide) ?_
      cases h
      exact x_sub [1, 2, 3, 4, 0] rfl (hI0 (l4 + 1) ht)
    · have h := iq hc h
      refine x_aload_n C dX7_layFirst_61 rfl 0 rfl 62 rfl ?_
      refine gf_766_29 C dX7_layFirst_62 65 rfl ?_
      refine x_iload_n C dX7_layFirst_65 rfl 3 rfl 66 rfl ?_
      refine x_iconst C (v := 1) dX7_layFirst_66 (by decide) 67 rfl ?_
      refine x_iload C dX7_layFirst_67 4 rfl 69 rfl ?_
      refine x_ishl C dX7_layFirst_69 70 rfl ?_
      refine x_iconst C (v := -1) dX7_layFirst_70 (by decide) 71 rfl ?_
      refine x_ixor C dX7_layFirst_71 72 rfl ?_
      refine x_iand C dX7_layFirst_72 73 rfl ?_
      obtain ⟨hin, h⟩ := gi_some h
      refine x_iald C 34 (gt_34 g _) hin dX7_layFirst_73 74 rfl ?_
      refine x_iconst C (v := 1) dX7_layFirst_74 (by decide) 75 rfl ?_
      refine x_iadd C dX7_layFirst_75 76 rfl ?_
      refine x_aload_n C dX7_layFirst_76 rfl 0 rfl 77 rfl ?_
      refine gf_766_29 C dX7_layFirst_77 80 rfl ?_
      refine x_iload_n C dX7_layFirst_80 rfl 1 rfl 81 rfl ?_
      obtain ⟨hin, h⟩ := gi_some h
      refine x_iald C 34 (gt_34 g _) hin dX7_layFirst_81 82 rfl ?_
      refine x_icmp_eq C dX7_layFirst_82 91 (by decide) 85 rfl (fun hc => ?_) (fun hc => ?_)
      · have h := ip hc h
        obtain ⟨_, hm0, rfl⟩ := mr_some h
        exact x_sub [0, 2, 3, 4] rfl (w_X7_layFirst_91 (E := fun r => E (.inr r)) C  hI1 hE hm0 ht)
      · have h := iq hc h
        refine x_iinc C [(4, .int (l4 + 1)), (0, .ref (adr g 29)), (1, .int l1), (2, .int l2), (3, .int l3)] dX7_layFirst_85 4 rfl rfl (by decide) rfl 88 rfl ?_
        refine x_goto C dX7_layFirst_88 36 (by decide) ?_
        cases h
        exact x_sub [1, 2, 3, 4, 0] rfl (hI0 (l4 + 1) ht)
set_option maxHeartbeats 4000000 in
set_option maxRecDepth 100000 in
theorem w_X7_layFirst_36 {x : Cx} {g : Gb} {E : (Int32 × Int32 × WD) ⊕ (WD) → Prop} (C : CF x g RX7 cX7_layFirst 5 (rmk 2 23))  {l1 : Int32} {l2 : Int32} {l3 : Int32} {l4 : Int32} {σ : WD} (hI0 : ∀ s, E (.inl s) → WW x g 5 0 0 7 [(0, .ref (adr g 29)), (1, .int s.1), (2, .int s.2.1)] [] s.2.2) (hE : ∀ (s2 : WD), E (.inr s2) → ∀ pc lv, decode cX7_layFirst pc = .ok (.return_, 1) → WW x g 5 0 0 pc lv [] s2) {t : (Int32 × Int32 × WD) ⊕ (WD)} (h : f_X7_layFirst_36 l1 l2 l3 l4 σ = some t) (ht : E t) : WW x g 5 0 0 36 [(0, .ref (adr g 29)), (1, .int l1), (2, .int l2), (3, .int l3), (4, .int l4)] [] σ := by
  unfold f_X7_layFirst_36 at h
  exact lp_ind (fun s : Int32 => WW x g 5 0 0 36 [(0, .ref (adr g 29)), (1, .int l1), (2, .int l2), (3, .int l3), (4, .int s)] [] σ) E h ht (fun s y hb hy => w_X7_layFirst_b36 (E := Sum.elim (fun s : Int32 => WW x g 5 0 0 36 [(0, .ref (adr g 29)), (1, .int l1), (2, .int l2), (3, .int l3), (4, .int s)] [] σ) E) C  (fun _ h => h) hI0 hE hb hy)
set_option maxHeartbeats 4000000 in
set_option maxRecDepth 100000 in
theorem w_X7_layFirst_b7 {x : Cx} {g : Gb} {E : (Int32 × Int32 × WD) ⊕ (WD) → Prop} (C : CF x g RX7 cX7_layFirst 5 (rmk 2 23))  {l1 : Int32} {l2 : Int32} {σ : WD} (hI0 : ∀ s, E (.inl s) → WW x g 5 0 0 7 [(0, .ref (adr g 29)), (1, .int s.1), (2, .int s.2.1)] [] s.2.2) (hE : ∀ (s2 : WD), E (.inr s2) → ∀ pc lv, decode cX7_layFirst pc = .ok (.return_, 1) → WW x g 5 0 0 pc lv [] s2) {t : (Int32 × Int32 × WD) ⊕ (WD)} (h : f_X7_layFirst_b7 l1 l2 σ = some t) (ht : E t) : WW x g 5 0 0 7 [(0, .ref (adr g 29)), (1, .int l1), (2, .int l2)] [] σ := by
  unfold f_X7_layFirst_b7 at h
  refine x_iload_n C dX7_layFirst_7 rfl 2 rfl 8 rfl ?_
  refine x_aload_n C dX7_layFirst_8 rfl 0 rfl 9 rfl ?_
  refine gf_759_29 C dX7_layFirst_9 12 rfl ?_
  refine x_icmp_ge C dX7_layFirst_12 146 (by decide) 15 rfl (fun hc => ?_) (fun hc => ?_)
  · have h := ip hc h
    cases h
    exact hE _ ht 146 _ dX7_layFirst_146
  · have h := iq hc h
    refine x_iload_n C dX7_layFirst_15 rfl 1 rfl 16 rfl ?_
    refine x_iload_n C dX7_layFirst_16 rfl 2 rfl 17 rfl ?_
    obtain ⟨r17, h17, h⟩ := bv_some h
    refine x_callS C [.int l1, .int l2] (c_X7_has  h17) mi_X7_has q_839 rfl ⟨rfl, rfl⟩ ⟨Nat.le_of_ble_eq_true rfl, Nat.le_of_ble_eq_true rfl⟩ ⟨Nat.zero_le _, Nat.zero_le _⟩ _ rfl (Nat.le_of_ble_eq_true rfl) dX7_layFirst_17 20 rfl ?_
    refine x_if_eq C dX7_layFirst_20 140 (by decide) 23 rfl (fun hc => ?_) (fun hc => ?_)
    · have h := ip hc h
      refine x_iinc C [(2, .int (l2 + 1)), (0, .ref (adr g 29)), (1, .int l1)] dX7_layFirst_140 2 rfl rfl (by decide) rfl 143 rfl ?_
      refine x_goto C dX7_layFirst_143 7 (by decide) ?_
      cases h
      exact x_sub [1, 2, 0] rfl (hI0 (l1, (l2 + 1), σ) ht)
    · have h := iq hc h
      refine x_iload_n C dX7_layFirst_23 rfl 1 rfl 24 rfl ?_
      refine x_iconst C (v := 1) dX7_layFirst_24 (by decide) 25 rfl ?_
      refine x_iload_n C dX7_layFirst_25 rfl 2 rfl 26 rfl ?_
      refine x_ishl C dX7_layFirst_26 27 rfl ?_
      refine x_iconst C (v := -1) dX7_layFirst_27 (by decide) 28 rfl ?_
      refine x_ixor C dX7_layFirst_28 29 rfl ?_
      refine x_iand C dX7_layFirst_29 30 rfl ?_
      obtain ⟨v30, e30, h⟩ := li_some h
      refine x_te e30 ?_
      refine x_istore_n C [(3, .int v30), (0, .ref (adr g 29)), (1, .int l1), (2, .int l2)] dX7_layFirst_30 rfl (by decide) rfl 31 rfl ?_
      refine x_iload_n C dX7_layFirst_31 rfl 3 rfl 32 rfl ?_
      refine x_iconst C (v := 1) dX7_layFirst_32 (by decide) 33 rfl ?_
      refine x_iadd C dX7_layFirst_33 34 rfl ?_
      refine x_istore C [(4, .int (l2 + 1)), (3, .int v30), (0, .ref (adr g 29)), (1, .int l1), (2, .int l2)] dX7_layFirst_34 (by decide) rfl 36 rfl ?_
      exact x_sub [2, 3, 4, 1, 0] rfl (w_X7_layFirst_36 C  hI0 hE h ht)
set_option maxHeartbeats 4000000 in
set_option maxRecDepth 100000 in
theorem w_X7_layFirst_7 {x : Cx} {g : Gb} {E : WD → Prop} (C : CF x g RX7 cX7_layFirst 5 (rmk 2 23))  {l1 : Int32} {l2 : Int32} {σ : WD} (hE : ∀ (s2 : WD), E s2 → ∀ pc lv, decode cX7_layFirst pc = .ok (.return_, 1) → WW x g 5 0 0 pc lv [] s2) {t : WD} (h : f_X7_layFirst_7 l1 l2 σ = some t) (ht : E t) : WW x g 5 0 0 7 [(0, .ref (adr g 29)), (1, .int l1), (2, .int l2)] [] σ := by
  unfold f_X7_layFirst_7 at h
  exact lp_ind (fun s : Int32 × Int32 × WD => WW x g 5 0 0 7 [(0, .ref (adr g 29)), (1, .int s.1), (2, .int s.2.1)] [] s.2.2) E h ht (fun s y hb hy => w_X7_layFirst_b7 (E := Sum.elim (fun s : Int32 × Int32 × WD => WW x g 5 0 0 7 [(0, .ref (adr g 29)), (1, .int s.1), (2, .int s.2.1)] [] s.2.2) E) C  (fun _ h => h)  hE hb hy)
set_option maxHeartbeats 4000000 in
set_option maxRecDepth 100000 in
theorem w_X7_layFirst {x : Cx} {g : Gb} {E : WD → Prop} (C : CF x g RX7 cX7_layFirst 5 (rmk 2 23))   {σ : WD} (hE : ∀ (s2 : WD), E s2 → ∀ pc lv, decode cX7_layFirst pc = .ok (.return_, 1) → WW x g 5 0 0 pc lv [] s2) {t : WD} (h : f_X7_layFirst  σ = some t) (ht : E t) : WW x g 5 0 0 0 [(0, .ref (adr g 29))] [] σ := by
  unfold f_X7_layFirst at h
  refine x_aload_n C dX7_layFirst_0 rfl 0 rfl 1 rfl ?_
  obtain ⟨r1, h1, h⟩ := bv_some h
  refine x_callV C 29 [] (c_X7_all  h1) mi_X7_all (gt_29 g _) rfl q_930 rfl ⟨rfl, rfl⟩ ⟨Nat.le_of_ble_eq_true rfl, Nat.le_of_ble_eq_true rfl⟩ ⟨Nat.zero_le _, Nat.zero_le _⟩ _ rfl (Nat.le_of_ble_eq_true rfl) dX7_layFirst_1 4 rfl ?_
  refine x_istore_n C [(1, .int r1), (0, .ref (adr g 29))] dX7_layFirst_4 rfl (by decide) rfl 5 rfl ?_
  refine x_iconst C (v := 0) dX7_layFirst_5 (by decide) 6 rfl ?_
  refine x_istore_n C [(2, .int 0), (1, .int r1), (0, .ref (adr g 29))] dX7_layFirst_6 rfl (by decide) rfl 7 rfl ?_
  exact x_sub [2, 1, 0] rfl (w_X7_layFirst_7 C  hE h ht)
set_option maxHeartbeats 4000000 in
set_option maxRecDepth 100000 in
theorem c_X7_layFirst {g : Gb} {l : Launch}   {σ : WD} {σ2 : WD} (h : f_X7_layFirst  σ = some σ2) : MC l g yX7_layFirst (.code yX7_layFirst cX7_layFirst 5 none) (rmk 2 23) [.ref (adr g 29)] σ none σ2 := by
  refine MC.of (by decide) (Nat.le_of_ble_eq_true rfl) (fun x C hl hr hq => ?_)
  subst hl
  exact w_X7_layFirst (E := fun z => z = σ2) C  (fun a he pc lv hd => by cases he; exact x_vret C hr hq hd) h rfl
set_option maxHeartbeats 4000000 in
set_option maxRecDepth 100000 in
theorem w_X7_exposing {x : Cx} {g : Gb} {E : Int32 → Prop} (C : CF x g RX7 cX7_exposing 3 (rmk 2 22))  {a1 : Int32} {σ : WD} (hE : ∀ (a : Int32), E a → ∀ pc lv, decode cX7_exposing pc = .ok (.ireturn, 1) → WW x g 3 0 0 pc lv [.int a] σ) {t : Int32} (h : f_X7_exposing a1 σ = some t) (ht : E t) : WW x g 3 0 0 0 [(0, .ref (adr g 29)), (1, .int a1)] [] σ := by
  unfold f_X7_exposing at h
  refine x_aload_n C dX7_exposing_0 rfl 0 rfl 1 rfl ?_
  obtain ⟨r1, h1, h⟩ := bv_some h
  refine x_callV C 29 [] (c_X7_all  h1) mi_X7_all (gt_29 g _) rfl q_930 rfl ⟨rfl, rfl⟩ ⟨Nat.le_of_ble_eq_true rfl, Nat.le_of_ble_eq_true rfl⟩ ⟨Nat.zero_le _, Nat.zero_le _⟩ _ rfl (Nat.le_of_ble_eq_true rfl) dX7_exposing_1 4 rfl ?_
  refine x_iconst C (v := 1) dX7_exposing_4 (by decide) 5 rfl ?_
  refine x_iload_n C dX7_exposing_5 rfl 1 rfl 6 rfl ?_
  refine x_ishl C dX7_exposing_6 7 rfl ?_
  refine x_iconst C (v := -1) dX7_exposing_7 (by decide) 8 rfl ?_
  refine x_ixor C dX7_exposing_8 9 rfl ?_
  refine x_iand C dX7_exposing_9 10 rfl ?_
  obtain ⟨v10, e10, h⟩ := li_some h
  refine x_te e10 ?_
  refine x_istore_n C [(2, .int v10), (0, .ref (adr g 29)), (1, .int a1)] dX7_exposing_10 rfl (by decide) rfl 11 rfl ?_
  refine x_aload_n C dX7_exposing_11 rfl 1 rfl 12 rfl ?_
  refine gf_766_29 C dX7_exposing_12 15 rfl ?_
  refine x_iload_n C dX7_exposing_15 rfl 0 rfl 16 rfl ?_
  obtain ⟨hin, h⟩ := gi_some h
  refine x_iald C 34 (gt_34 g _) hin dX7_exposing_16 17 rfl ?_
  refine x_aload_n C dX7_exposing_17 rfl 1 rfl 18 rfl ?_
  refine gf_766_29 C dX7_exposing_18 21 rfl ?_
  refine x_aload_n C dX7_exposing_21 rfl 1 rfl 22 rfl ?_
  obtain ⟨r22, h22, h⟩ := bv_some h
  refine x_callV C 29 [] (c_X7_all  h22) mi_X7_all (gt_29 g _) rfl q_930 rfl ⟨rfl, rfl⟩ ⟨Nat.le_of_ble_eq_true rfl, Nat.le_of_ble_eq_true rfl⟩ ⟨Nat.zero_le _, Nat.zero_le _⟩ _ rfl (Nat.le_of_ble_eq_true rfl) dX7_exposing_22 25 rfl ?_
  obtain ⟨hin, h⟩ := gi_some h
  refine x_iald C 34 (gt_34 g _) hin dX7_exposing_25 26 rfl ?_
  refine x_icmp_ne C dX7_exposing_26 38 (by decide) 29 rfl (fun hc => ?_) (fun hc => ?_)
  · have h := iq hc h
    refine x_iconst C (v := 0) dX7_exposing_38 (by decide) 39 rfl ?_
    cases h
    exact hE _ ht 39 _ dX7_exposing_39
  · have h := ip hc h
    refine x_aload_n C dX7_exposing_29 rfl 1 rfl 30 rfl ?_
    refine gf_767_29 C dX7_exposing_30 33 rfl ?_
    refine x_iload_n C dX7_exposing_33 rfl 0 rfl 34 rfl ?_
    obtain ⟨hin, h⟩ := gi_some h
    refine x_iald C 35 (gt_35 g _) hin dX7_exposing_34 35 rfl ?_
    refine x_goto C dX7_exposing_35 39 (by decide) ?_
    cases h
    exact hE _ ht 39 _ dX7_exposing_39
set_option maxHeartbeats 4000000 in
set_option maxRecDepth 100000 in
theorem c_X7_exposing {g : Gb} {l : Launch}  {a1 : Int32} {σ : WD} {r : Int32} (h : f_X7_exposing a1 σ = some r) : MC l g yX7_exposing (.code yX7_exposing cX7_exposing 3 (some (.int))) (rmk 2 22) [.ref (adr g 29), .int a1] σ (some (.int r)) σ := by
  refine MC.of (by decide) (Nat.le_of_ble_eq_true rfl) (fun x C hl hr hq => ?_)
  subst hl
  exact w_X7_exposing (E := fun z => z = r) C  (fun a he pc lv hd => by cases he; exact x_iret C hr hq hd) h rfl
set_option maxHeartbeats 4000000 in
set_option maxRecDepth 100000 in
theorem w_X7_using_23 {x : Cx} {g : Gb} {E : Int32 → Prop} (C : CF x g RX7 cX7_using 5 (rmk 2 23))  {l1 : Int32} {l2 : Int32} {s0 : Int32} {σ : WD} (hE : ∀ (a : Int32), E a → ∀ pc lv, decode cX7_using pc = .ok (.ireturn, 1) → WW x g 5 0 0 pc lv [.int a] σ) {t : Int32} (h : f_X7_using_23 l1 l2 s0 σ = some t) (ht : E t) : WW x g 5 0 0 23 [(0, .ref (adr g 29)), (1, .int l1), (2, .int l2)] [.int s0] σ := by
  unfold f_X7_using_23 at h
  refine x_istore_n C [(3, .int s0), (0, .ref (adr g 29)), (1, .int l1), (2, .int l2)] dX7_using_23 rfl (by decide) rfl 24 rfl ?_
  refine x_aload_n C dX7_using_24 rfl 1 rfl 25 rfl ?_
  obtain ⟨r25, h25, h⟩ := bv_some h
  refine x_callV C 29 [] (c_X7_all  h25) mi_X7_all (gt_29 g _) rfl q_930 rfl ⟨rfl, rfl⟩ ⟨Nat.le_of_ble_eq_true rfl, Nat.le_of_ble_eq_true rfl⟩ ⟨Nat.zero_le _, Nat.zero_le _⟩ _ rfl (Nat.le_of_ble_eq_true rfl) dX7_using_25 28 rfl ?_
  refine x_iconst C (v := 1) dX7_using_28 (by decide) 29 rfl ?_
  refine x_iload_n C dX7_using_29 rfl 2 rfl 30 rfl ?_
  refine x_ishl C dX7_using_30 31 rfl ?_
  refine x_iconst C (v := -1) dX7_using_31 (by decide) 32 rfl ?_
  refine x_ixor C dX7_using_32 33 rfl ?_
  refine x_iand C dX7_using_33 34 rfl ?_
  refine x_iconst C (v := 1) dX7_using_34 (by decide) 35 rfl ?_
  refine x_iload_n C dX7_using_35 rfl 3 rfl 36 rfl ?_
  refine x_ishl C dX7_using_36 37 rfl ?_
  refine x_iconst C (v := -1) dX7_using_37 (by decide) 38 rfl ?_
  refine x_ixor C dX7_using_38 39 rfl ?_
  refine x_iand C dX7_using_39 40 rfl ?_
  obtain ⟨v40, e40, h⟩ := li_some h
  refine x_te e40 ?_
  refine x_istore C [(4, .int v40), (3, .int s0), (0, .ref (adr g 29)), (1, .int l1), (2, .int l2)] dX7_using_40 (by decide) rfl 42 rfl ?_
  refine x_iload_n C dX7_using_42 rfl 1 rfl 43 rfl ?_
  refine x_if_eq C dX7_using_43 77 (by decide) 46 rfl (fun hc => ?_) (fun hc => ?_)
  · have h := ip hc h
    refine x_iconst C (v := 0) dX7_using_77 (by decide) 78 rfl ?_
    cases h
    exact hE _ ht 78 _ dX7_using_78
  · have h := iq hc h
    refine x_aload_n C dX7_using_46 rfl 2 rfl 47 rfl ?_
    refine gf_766_29 C dX7_using_47 50 rfl ?_
    refine x_iload C dX7_using_50 0 rfl 52 rfl ?_
    obtain ⟨hin, h⟩ := gi_some h
    refine x_iald C 34 (gt_34 g _) hin dX7_using_52 53 rfl ?_
    refine x_iconst C (v := 1) dX7_using_53 (by decide) 54 rfl ?_
    refine x_iadd C dX7_using_54 55 rfl ?_
    refine x_aload_n C dX7_using_55 rfl 2 rfl 56 rfl ?_
    refine gf_766_29 C dX7_using_56 59 rfl ?_
    refine x_aload_n C dX7_using_59 rfl 2 rfl 60 rfl ?_
    obtain ⟨r60, h60, h⟩ := bv_some h
    refine x_callV C 29 [] (c_X7_all  h60) mi_X7_all (gt_29 g _) rfl q_930 rfl ⟨rfl, rfl⟩ ⟨Nat.le_of_ble_eq_true rfl, Nat.le_of_ble_eq_true rfl⟩ ⟨Nat.zero_le _, Nat.zero_le _⟩ _ rfl (Nat.le_of_ble_eq_true rfl) dX7_using_60 63 rfl ?_
    obtain ⟨hin, h⟩ := gi_some h
    refine x_iald C 34 (gt_34 g _) hin dX7_using_63 64 rfl ?_
    refine x_icmp_ne C dX7_using_64 77 (by decide) 67 rfl (fun hc => ?_) (fun hc => ?_)
    · have h := iq hc h
      refine x_iconst C (v := 0) dX7_using_77 (by decide) 78 rfl ?_
      cases h
      exact hE _ ht 78 _ dX7_using_78
    · have h := ip hc h
      refine x_aload_n C dX7_using_67 rfl 2 rfl 68 rfl ?_
      refine gf_767_29 C dX7_using_68 71 rfl ?_
      refine x_iload C dX7_using_71 0 rfl 73 rfl ?_
      obtain ⟨hin, h⟩ := gi_some h
      refine x_iald C 35 (gt_35 g _) hin dX7_using_73 74 rfl ?_
      refine x_goto C dX7_using_74 78 (by decide) ?_
      cases h
      exact hE _ ht 78 _ dX7_using_78
set_option maxHeartbeats 4000000 in
set_option maxRecDepth 100000 in
theorem w_X7_using_22 {x : Cx} {g : Gb} {E : Int32 → Prop} (C : CF x g RX7 cX7_using 5 (rmk 2 23))  {l1 : Int32} {l2 : Int32} {σ : WD} (hE : ∀ (a : Int32), E a → ∀ pc lv, decode cX7_using pc = .ok (.ireturn, 1) → WW x g 5 0 0 pc lv [.int a] σ) {t : Int32} (h : f_X7_using_22 l1 l2 σ = some t) (ht : E t) : WW x g 5 0 0 22 [(0, .ref (adr g 29)), (1, .int l1), (2, .int l2)] [] σ := by
  unfold f_X7_using_22 at h
  refine x_iconst C (v := 0) dX7_using_22 (by decide) 23 rfl ?_
  exact x_sub [0, 1, 2] rfl (w_X7_using_23 C  hE h ht)
set_option maxHeartbeats 4000000 in
set_option maxRecDepth 100000 in
theorem w_X7_using {x : Cx} {g : Gb} {E : Int32 → Prop} (C : CF x g RX7 cX7_using 5 (rmk 2 23))  {a1 : Int32} {a2 : Int32} {σ : WD} (hE : ∀ (a : Int32), E a → ∀ pc lv, decode cX7_using pc = .ok (.ireturn, 1) → WW x g 5 0 0 pc lv [.int a] σ) {t : Int32} (h : f_X7_using a1 a2 σ = some t) (ht : E t) : WW x g 5 0 0 0 [(0, .ref (adr g 29)), (1, .int a1), (2, .int a2)] [] σ := by
  unfold f_X7_using at h
  refine x_iload_n C dX7_using_0 rfl 1 rfl 1 rfl ?_
  refine x_iload_n C dX7_using_1 rfl 2 rfl 2 rfl ?_
  refine x_icmp_eq C dX7_using_2 22 (by decide) 5 rfl (fun hc => ?_) (fun hc => ?_)
  · have h := ip hc h
    exact x_sub [0, 1, 2] rfl (w_X7_using_22 C  hE h ht)
  · have h := iq hc h
    refine x_aload_n C dX7_using_5 rfl 0 rfl 6 rfl ?_
    refine gf_760_29 C dX7_using_6 9 rfl ?_
    refine x_iload_n C dX7_using_9 rfl 1 rfl 10 rfl ?_
    obtain ⟨hin, h⟩ := gi_some h
    refine x_iald C 30 (gt_30 g _) hin dX7_using_10 11 rfl ?_
    refine x_iload_n C dX7_using_11 rfl 2 rfl 12 rfl ?_
    obtain ⟨r12, h12, h⟩ := bv_some h
    refine x_callS C [.int (σ.1 30 (a1 : Int32).toNatClampNeg), .int a2] (c_X7_has  h12) mi_X7_has q_839 rfl ⟨rfl, rfl⟩ ⟨Nat.le_of_ble_eq_true rfl, Nat.le_of_ble_eq_true rfl⟩ ⟨Nat.zero_le _, Nat.zero_le _⟩ _ rfl (Nat.le_of_ble_eq_true rfl) dX7_using_12 15 rfl ?_
    refine x_if_eq C dX7_using_15 22 (by decide) 18 rfl (fun hc => ?_) (fun hc => ?_)
    · have h := ip hc h
      exact x_sub [0, 1, 2] rfl (w_X7_using_22 C  hE h ht)
    · have h := iq hc h
      refine x_iconst C (v := 1) dX7_using_18 (by decide) 19 rfl ?_
      refine x_goto C dX7_using_19 23 (by decide) ?_
      exact x_sub [0, 1, 2] rfl (w_X7_using_23 C  hE h ht)
set_option maxHeartbeats 4000000 in
set_option maxRecDepth 100000 in
theorem c_X7_using {g : Gb} {l : Launch}  {a1 : Int32} {a2 : Int32} {σ : WD} {r : Int32} (h : f_X7_using a1 a2 σ = some r) : MC l g yX7_using (.code yX7_using cX7_using 5 (some (.int))) (rmk 2 23) [.ref (adr g 29), .int a1, .int a2] σ (some (.int r)) σ := by
  refine MC.of (by decide) (Nat.le_of_ble_eq_true rfl) (fun x C hl hr hq => ?_)
  subst hl
  exact w_X7_using (E := fun z => z = r) C  (fun a he pc lv hd => by cases he; exact x_iret C hr hq hd) h rfl
set_option maxHeartbeats 4000000 in
set_option maxRecDepth 100000 in
theorem w_X7_partOf_59 {x : Cx} {g : Gb} {E : Int32 → Prop} (C : CF x g RX7 cX7_partOf 4 (rmk 3 45))  {l2 : Int32} {σ : WD} (hE : ∀ (a : Int32), E a → ∀ pc lv, decode cX7_partOf pc = .ok (.ireturn, 1) → WW x g 4 0 0 pc lv [.int a] σ) {t : Int32} (h : f_X7_partOf_59 l2 σ = some t) (ht : E t) : WW x g 4 0 0 59 [(2, .int l2)] [] σ := by
  unfold f_X7_partOf_59 at h
  refine x_iload_n C dX7_partOf_59 rfl 0 rfl 60 rfl ?_
  refine x_if_eq C dX7_partOf_60 67 (by decide) 63 rfl (fun hc => ?_) (fun hc => ?_)
  · have h := ip hc h
    refine x_iconst C (v := 2) dX7_partOf_67 (by decide) 68 rfl ?_
    cases h
    exact hE _ ht 68 _ dX7_partOf_68
  · have h := iq hc h
    refine x_iconst C (v := 1) dX7_partOf_63 (by decide) 64 rfl ?_
    refine x_goto C dX7_partOf_64 68 (by decide) ?_
    cases h
    exact hE _ ht 68 _ dX7_partOf_68
set_option maxHeartbeats 4000000 in
set_option maxRecDepth 100000 in
theorem w_X7_partOf_b14 {x : Cx} {g : Gb} {E : (Int32 × Int32) ⊕ (Int32) → Prop} (C : CF x g RX7 cX7_partOf 4 (rmk 3 45))  {l1 : Int32} {l2 : Int32} {l3 : Int32} {σ : WD} (hI0 : ∀ s, E (.inl s) → WW x g 4 0 0 14 [(0, .ref (adr g 29)), (1, .int l1), (2, .int s.1), (3, .int s.2)] [] σ) (hE : ∀ (a : Int32), E (.inr a) → ∀ pc lv, decode cX7_partOf pc = .ok (.ireturn, 1) → WW x g 4 0 0 pc lv [.int a] σ) {t : (Int32 × Int32) ⊕ (Int32)} (h : f_X7_partOf_b14 l1 l2 l3 σ = some t) (ht : E t) : WW x g 4 0 0 14 [(0, .ref (adr g 29)), (1, .int l1), (2, .int l2), (3, .int l3)] [] σ := by
  unfold f_X7_partOf_b14 at h
  refine x_iload_n C dX7_partOf_14 rfl 3 rfl 15 rfl ?_
  refine x_aload_n C dX7_partOf_15 rfl 0 rfl 16 rfl ?_
  refine gf_759_29 C dX7_partOf_16 19 rfl ?_
  refine x_icmp_ge C dX7_partOf_19 59 (by decide) 22 rfl (fun hc => ?_) (fun hc => ?_)
  · have h := ip hc h
    obtain ⟨_, hm0, rfl⟩ := mr_some h
    exact x_sub [2] rfl (w_X7_partOf_59 (E := fun r => E (.inr r)) C  hE hm0 ht)
  · have h := iq hc h
    refine x_iload_n C dX7_partOf_22 rfl 2 rfl 23 rfl ?_
    refine x_if_ne C dX7_partOf_23 47 (by decide) 26 rfl (fun hc => ?_) (fun hc => ?_)
    · have h := iq hc h
      refine x_iconst C (v := 1) dX7_partOf_47 (by decide) 48 rfl ?_
      refine x_goto C dX7_partOf_48 52 (by decide) ?_
      refine x_istore_n C [(2, .int 1), (0, .ref (adr g 29)), (1, .int l1), (3, .int l3)] dX7_partOf_52 rfl (by decide) rfl 53 rfl ?_
      refine x_iinc C [(3, .int (l3 + 1)), (2, .int 1), (0, .ref (adr g 29)), (1, .int l1)] dX7_partOf_53 3 rfl rfl (by decide) rfl 56 rfl ?_
      refine x_goto C dX7_partOf_56 14 (by decide) ?_
      cases h
      exact x_sub [2, 3, 1, 0] rfl (hI0 (1, (l3 + 1)) ht)
    · have h := ip hc h
      refine x_aload_n C dX7_partOf_26 rfl 0 rfl 27 rfl ?_
      refine gf_760_29 C dX7_partOf_27 30 rfl ?_
      refine x_iload_n C dX7_partOf_30 rfl 1 rfl 31 rfl ?_
      obtain ⟨hin, h⟩ := gi_some h
      refine x_iald C 30 (gt_30 g _) hin dX7_partOf_31 32 rfl ?_
      refine x_iload_n C dX7_partOf_32 rfl 3 rfl 33 rfl ?_
      obtain ⟨r33, h33, h⟩ := bv_some h
      refine x_callS C [.int (σ.1 30 (l1 : Int32).toNatClampNeg), .int l3] (c_X7_has  h33) mi_X7_has q_839 rfl ⟨rfl, rfl⟩ ⟨Nat.le_of_ble_eq_true rfl, Nat.le_of_ble_eq_true rfl⟩ ⟨Nat.zero_le _, Nat.zero_le _⟩ _ rfl (Nat.le_of_ble_eq_true rfl) dX7_partOf_33 36 rfl ?_
      refine x_if_eq C dX7_partOf_36 51 (by decide) 39 rfl (fun hc => ?_) (fun hc => ?_)
      · have h := ip hc h
        refine x_iconst C (v := 0) dX7_partOf_51 (by decide) 52 rfl ?_
        refine x_istore_n C [(2, .int 0), (0, .ref (adr g 29)), (1, .int l1), (3, .int l3)] dX7_partOf_52 rfl (by decide) rfl 53 rfl ?_
        refine x_iinc C [(3, .int (l3 + 1)), (2, .int 0), (0, .ref (adr g 29)), (1, .int l1)] dX7_partOf_53 3 rfl rfl (by decide) rfl 56 rfl ?_
        refine x_goto C dX7_partOf_56 14 (by decide) ?_
        cases h
        exact x_sub [2, 3, 1, 0] rfl (hI0 (0, (l3 + 1)) ht)
      · have h := iq hc h
        refine x_aload_n C dX7_partOf_39 rfl 0 rfl 40 rfl ?_
        refine x_iload_n C dX7_partOf_40 rfl 3 rfl 41 rfl ?_
        obtain ⟨r41, h41, h⟩ := bv_some h
        refine x_callV C 29 [.int l3] (c_X7_exposing  h41) mi_X7_exposing (gt_29 g _) rfl q_1017 rfl ⟨rfl, rfl⟩ ⟨Nat.le_of_ble_eq_true rfl, Nat.le_of_ble_eq_true rfl⟩ ⟨Nat.zero_le _, Nat.zero_le _⟩ _ rfl (Nat.le_of_ble_eq_true rfl) dX7_partOf_41 44 rfl ?_
        refine x_if_le C dX7_partOf_44 51 (by decide) 47 rfl (fun hc => ?_) (fun hc => ?_)
        · have h := ip hc h
          refine x_iconst C (v := 0) dX7_partOf_51 (by decide) 52 rfl ?_
          refine x_istore_n C [(2, .int 0), (0, .ref (adr g 29)), (1, .int l1), (3, .int l3)] dX7_partOf_52 rfl (by decide) rfl 53 rfl ?_
          refine x_iinc C [(3, .int (l3 + 1)), (2, .int 0), (0, .ref (adr g 29)), (1, .int l1)] dX7_partOf_53 3 rfl rfl (by decide) rfl 56 rfl ?_
          refine x_goto C dX7_partOf_56 14 (by decide) ?_
          cases h
          exact x_sub [2, 3, 1, 0] rfl (hI0 (0, (l3 + 1)) ht)
        · have h := iq hc h
          refine x_iconst C (v := 1) dX7_partOf_47 (by decide) 48 rfl ?_
          refine x_goto C dX7_partOf_48 52 (by decide) ?_
          refine x_istore_n C [(2, .int 1), (0, .ref (adr g 29)), (1, .int l1), (3, .int l3)] dX7_partOf_52 rfl (by decide) rfl 53 rfl ?_
          refine x_iinc C [(3, .int (l3 + 1)), (2, .int 1), (0, .ref (adr g 29)), (1, .int l1)] dX7_partOf_53 3 rfl rfl (by decide) rfl 56 rfl ?_
          refine x_goto C dX7_partOf_56 14 (by decide) ?_
          cases h
          exact x_sub [2, 3, 1, 0] rfl (hI0 (1, (l3 + 1)) ht)
set_option maxHeartbeats 4000000 in
set_option maxRecDepth 100000 in
theorem w_X7_partOf_14 {x : Cx} {g : Gb} {E : Int32 → Prop} (C : CF x g RX7 cX7_partOf 4 (rmk 3 45))  {l1 : Int32} {l2 : Int32} {l3 : Int32} {σ : WD} (hE : ∀ (a : Int32), E a → ∀ pc lv, decode cX7_partOf pc = .ok (.ireturn, 1) → WW x g 4 0 0 pc lv [.int a] σ) {t : Int32} (h : f_X7_partOf_14 l1 l2 l3 σ = some t) (ht : E t) : WW x g 4 0 0 14 [(0, .ref (adr g 29)), (1, .int l1), (2, .int l2), (3, .int l3)] [] σ := by
  unfold f_X7_partOf_14 at h
  exact lp_ind (fun s : Int32 × Int32 => WW x g 4 0 0 14 [(0, .ref (adr g 29)), (1, .int l1), (2, .int s.1), (3, .int s.2)] [] σ) E h ht (fun s y hb hy => w_X7_partOf_b14 (E := Sum.elim (fun s : Int32 × Int32 => WW x g 4 0 0 14 [(0, .ref (adr g 29)), (1, .int l1), (2, .int s.1), (3, .int s.2)] [] σ) E) C  (fun _ h => h)  hE hb hy)
set_option maxHeartbeats 4000000 in
set_option maxRecDepth 100000 in
theorem w_X7_partOf {x : Cx} {g : Gb} {E : Int32 → Prop} (C : CF x g RX7 cX7_partOf 4 (rmk 3 45))  {a1 : Int32} {σ : WD} (hE : ∀ (a : Int32), E a → ∀ pc lv, decode cX7_partOf pc = .ok (.ireturn, 1) → WW x g 4 0 0 pc lv [.int a] σ) {t : Int32} (h : f_X7_partOf a1 σ = some t) (ht : E t) : WW x g 4 0 0 0 [(0, .ref (adr g 29)), (1, .int a1)] [] σ := by
  unfold f_X7_partOf at h
  refine x_aload_n C dX7_partOf_0 rfl 0 rfl 1 rfl ?_
  refine x_iload_n C dX7_partOf_1 rfl 1 rfl 2 rfl ?_
  obtain ⟨r2, h2, h⟩ := bv_some h
  refine x_callV C 29 [.int a1] (c_X7_exposing  h2) mi_X7_exposing (gt_29 g _) rfl q_1017 rfl ⟨rfl, rfl⟩ ⟨Nat.le_of_ble_eq_true rfl, Nat.le_of_ble_eq_true rfl⟩ ⟨Nat.zero_le _, Nat.zero_le _⟩ _ rfl (Nat.le_of_ble_eq_true rfl) dX7_partOf_2 5 rfl ?_
  refine x_if_le C dX7_partOf_5 10 (by decide) 8 rfl (fun hc => ?_) (fun hc => ?_)
  · have h := ip hc h
    refine x_iconst C (v := 0) dX7_partOf_10 (by decide) 11 rfl ?_
    refine x_istore_n C [(2, .int 0), (0, .ref (adr g 29)), (1, .int a1)] dX7_partOf_11 rfl (by decide) rfl 12 rfl ?_
    refine x_iconst C (v := 0) dX7_partOf_12 (by decide) 13 rfl ?_
    refine x_istore_n C [(3, .int 0), (2, .int 0), (0, .ref (adr g 29)), (1, .int a1)] dX7_partOf_13 rfl (by decide) rfl 14 rfl ?_
    exact x_sub [2, 3, 1, 0] rfl (w_X7_partOf_14 C  hE h ht)
  · have h := iq hc h
    refine x_iconst C (v := 0) dX7_partOf_8 (by decide) 9 rfl ?_
    cases h
    exact hE _ ht 9 _ dX7_partOf_9
set_option maxHeartbeats 4000000 in
set_option maxRecDepth 100000 in
theorem c_X7_partOf {g : Gb} {l : Launch}  {a1 : Int32} {σ : WD} {r : Int32} (h : f_X7_partOf a1 σ = some r) : MC l g yX7_partOf (.code yX7_partOf cX7_partOf 4 (some (.int))) (rmk 3 45) [.ref (adr g 29), .int a1] σ (some (.int r)) σ := by
  refine MC.of (by decide) (Nat.le_of_ble_eq_true rfl) (fun x C hl hr hq => ?_)
  subst hl
  exact w_X7_partOf (E := fun z => z = r) C  (fun a he pc lv hd => by cases he; exact x_iret C hr hq hd) h rfl
set_option maxHeartbeats 4000000 in
set_option maxRecDepth 100000 in
theorem w_X7_isCritical_b4 {x : Cx} {g : Gb} {E : (Int32 × Int32) ⊕ (Int32) → Prop} (C : CF x g RX7 cX7_isCritical 3 (rmk 2 22))  {l1 : Int32} {l2 : Int32} {σ : WD} (hI0 : ∀ s, E (.inl s) → WW x g 3 0 0 4 [(0, .ref (adr g 29)), (1, .int s.1), (2, .int s.2)] [] σ) (hE : ∀ (a : Int32), E (.inr a) → ∀ pc lv, narrow .boolean (.int a) = .int a → decode cX7_isCritical pc = .ok (.ireturn, 1) → WW x g 3 0 0 pc lv [.int a] σ) {t : (Int32 × Int32) ⊕ (Int32)} (h : f_X7_isCritical_b4 l1 l2 σ = some t) (ht : E t) : WW x g 3 0 0 4 [(0, .ref (adr g 29)), (1, .int l1), (2, .int l2)] [] σ := by
  unfold f_X7_isCritical_b4 at h
  refine x_iload_n C dX7_isCritical_4 rfl 2 rfl 5 rfl ?_
  refine x_aload_n C dX7_isCritical_5 rfl 0 rfl 6 rfl ?_
  refine gf_759_29 C dX7_isCritical_6 9 rfl ?_
  refine x_icmp_ge C dX7_isCritical_9 54 (by decide) 12 rfl (fun hc => ?_) (fun hc => ?_)
  · have h := ip hc h
    refine x_iload_n C dX7_isCritical_54 rfl 1 rfl 55 rfl ?_
    obtain ⟨hnb, h⟩ := gb_some h
    cases h
    exact hE _ ht 55 _ hnb dX7_isCritical_55
  · have h := iq hc h
    refine x_iload_n C dX7_isCritical_12 rfl 1 rfl 13 rfl ?_
    refine x_if_eq C dX7_isCritical_13 46 (by decide) 16 rfl (fun hc => ?_) (fun hc => ?_)
    · have h := ip hc h
      refine x_iconst C (v := 0) dX7_isCritical_46 (by decide) 47 rfl ?_
      refine x_istore_n C [(1, .int 0), (0, .ref (adr g 29)), (2, .int l2)] dX7_isCritical_47 rfl (by decide) rfl 48 rfl ?_
      refine x_iinc C [(2, .int (l2 + 1)), (1, .int 0), (0, .ref (adr g 29))] dX7_isCritical_48 2 rfl rfl (by decide) rfl 51 rfl ?_
      refine x_goto C dX7_isCritical_51 4 (by decide) ?_
      cases h
      exact x_sub [2, 1, 0] rfl (hI0 (0, (l2 + 1)) ht)
    · have h := iq hc h
      refine x_iconst C (v := 2) dX7_isCritical_16 (by decide) 17 rfl ?_
      refine x_aload_n C dX7_isCritical_17 rfl 0 rfl 18 rfl ?_
      refine gf_766_29 C dX7_isCritical_18 21 rfl ?_
      refine x_aload_n C dX7_isCritical_21 rfl 0 rfl 22 rfl ?_
      obtain ⟨r22, h22, h⟩ := bv_some h
      refine x_callV C 29 [] (c_X7_all  h22) mi_X7_all (gt_29 g _) rfl q_930 rfl ⟨rfl, rfl⟩ ⟨Nat.le_of_ble_eq_true rfl, Nat.le_of_ble_eq_true rfl⟩ ⟨Nat.zero_le _, Nat.zero_le _⟩ _ rfl (Nat.le_of_ble_eq_true rfl) dX7_isCritical_22 25 rfl ?_
      refine x_iconst C (v := 1) dX7_isCritical_25 (by decide) 26 rfl ?_
      refine x_iload_n C dX7_isCritical_26 rfl 2 rfl 27 rfl ?_
      refine x_ishl C dX7_isCritical_27 28 rfl ?_
      refine x_iconst C (v := -1) dX7_isCritical_28 (by decide) 29 rfl ?_
      refine x_ixor C dX7_isCritical_29 30 rfl ?_
      refine x_iand C dX7_isCritical_30 31 rfl ?_
      obtain ⟨hin, h⟩ := gi_some h
      refine x_iald C 34 (gt_34 g _) hin dX7_isCritical_31 32 rfl ?_
      refine x_imul C dX7_isCritical_32 33 rfl ?_
      refine x_aload_n C dX7_isCritical_33 rfl 0 rfl 34 rfl ?_
      refine gf_759_29 C dX7_isCritical_34 37 rfl ?_
      refine x_iconst C (v := 1) dX7_isCritical_37 (by decide) 38 rfl ?_
      refine x_isub C dX7_isCritical_38 39 rfl ?_
      refine x_icmp_ne C dX7_isCritical_39 46 (by decide) 42 rfl (fun hc => ?_) (fun hc => ?_)
      · have h := iq hc h
        refine x_iconst C (v := 0) dX7_isCritical_46 (by decide) 47 rfl ?_
        refine x_istore_n C [(1, .int 0), (0, .ref (adr g 29)), (2, .int l2)] dX7_isCritical_47 rfl (by decide) rfl 48 rfl ?_
        refine x_iinc C [(2, .int (l2 + 1)), (1, .int 0), (0, .ref (adr g 29))] dX7_isCritical_48 2 rfl rfl (by decide) rfl 51 rfl ?_
        refine x_goto C dX7_isCritical_51 4 (by decide) ?_
        cases h
        exact x_sub [2, 1, 0] rfl (hI0 (0, (l2 + 1)) ht)
      · have h := ip hc h
        refine x_iconst C (v := 1) dX7_isCritical_42 (by decide) 43 rfl ?_
        refine x_goto C dX7_isCritical_43 47 (by decide) ?_
        refine x_istore_n C [(1, .int 1), (0, .ref (adr g 29)), (2, .int l2)] dX7_isCritical_47 rfl (by decide) rfl 48 rfl ?_
        refine x_iinc C [(2, .int (l2 + 1)), (1, .int 1), (0, .ref (adr g 29))] dX7_isCritical_48 2 rfl rfl (by decide) rfl 51 rfl ?_
        refine x_goto C dX7_isCritical_51 4 (by decide) ?_
        cases h
        exact x_sub [2, 1, 0] rfl (hI0 (1, (l2 + 1)) ht)
set_option maxHeartbeats 4000000 in
set_option maxRecDepth 100000 in
theorem w_X7_isCritical_4 {x : Cx} {g : Gb} {E : Int32 → Prop} (C : CF x g RX7 cX7_isCritical 3 (rmk 2 22))  {l1 : Int32} {l2 : Int32} {σ : WD} (hE : ∀ (a : Int32), E a → ∀ pc lv, narrow .boolean (.int a) = .int a → decode cX7_isCritical pc = .ok (.ireturn, 1) → WW x g 3 0 0 pc lv [.int a] σ) {t : Int32} (h : f_X7_isCritical_4 l1 l2 σ = some t) (ht : E t) : WW x g 3 0 0 4 [(0, .ref (adr g 29)), (1, .int l1), (2, .int l2)] [] σ := by
  unfold f_X7_isCritical_4 at h
  exact lp_ind (fun s : Int32 × Int32 => WW x g 3 0 0 4 [(0, .ref (adr g 29)), (1, .int s.1), (2, .int s.2)] [] σ) E h ht (fun s y hb hy => w_X7_isCritical_b4 (E := Sum.elim (fun s : Int32 × Int32 => WW x g 3 0 0 4 [(0, .ref (adr g 29)), (1, .int s.1), (2, .int s.2)] [] σ) E) C  (fun _ h => h)  hE hb hy)
set_option maxHeartbeats 4000000 in
set_option maxRecDepth 100000 in
theorem w_X7_isCritical {x : Cx} {g : Gb} {E : Int32 → Prop} (C : CF x g RX7 cX7_isCritical 3 (rmk 2 22))   {σ : WD} (hE : ∀ (a : Int32), E a → ∀ pc lv, narrow .boolean (.int a) = .int a → decode cX7_isCritical pc = .ok (.ireturn, 1) → WW x g 3 0 0 pc lv [.int a] σ) {t : Int32} (h : f_X7_isCritical  σ = some t) (ht : E t) : WW x g 3 0 0 0 [(0, .ref (adr g 29))] [] σ := by
  unfold f_X7_isCritical at h
  refine x_iconst C (v := 1) dX7_isCritical_0 (by decide) 1 rfl ?_
  refine x_istore_n C [(1, .int 1), (0, .ref (adr g 29))] dX7_isCritical_1 rfl (by decide) rfl 2 rfl ?_
  refine x_iconst C (v := 0) dX7_isCritical_2 (by decide) 3 rfl ?_
  refine x_istore_n C [(2, .int 0), (1, .int 1), (0, .ref (adr g 29))] dX7_isCritical_3 rfl (by decide) rfl 4 rfl ?_
  exact x_sub [2, 1, 0] rfl (w_X7_isCritical_4 C  hE h ht)
set_option maxHeartbeats 4000000 in
set_option maxRecDepth 100000 in
theorem c_X7_isCritical {g : Gb} {l : Launch}   {σ : WD} {r : Int32} (h : f_X7_isCritical  σ = some r) : MC l g yX7_isCritical (.code yX7_isCritical cX7_isCritical 3 (some (.boolean))) (rmk 2 22) [.ref (adr g 29)] σ (some (.int r)) σ := by
  refine MC.of (by decide) (Nat.le_of_ble_eq_true rfl) (fun x C hl hr hq => ?_)
  subst hl
  exact w_X7_isCritical (E := fun z => z = r) C  (fun a he pc lv hn hd => by cases he; exact x_zret C hr hq hn hd) h rfl
set_option maxHeartbeats 4000000 in
set_option maxRecDepth 100000 in
theorem w_X7_componentOf_51 {x : Cx} {g : Gb} {E : (Int32 × Int32) ⊕ ((Int32 × Int32) ⊕ (Int32)) → Prop} (C : CF x g RX7 cX7_componentOf 6 (rmk 2 23))  {l2 : Int32} {l4 : Int32} {l5 : Int32} {s0 : Int32} {s1 : Int32} {σ : WD} (hI0 : ∀ s, E (.inl s) → WW x g 6 0 0 19 [(0, .ref (adr g 29)), (2, .int l2), (3, .int s.1), (4, .int l4), (5, .int s.2)] [] σ) (hI1 : ∀ s, E (.inr (.inl s)) → WW x g 6 0 0 7 [(0, .ref (adr g 29)), (2, .int l2), (3, .int s.1), (4, .int s.2)] [] σ) (hE : ∀ (a : Int32), E (.inr (.inr a)) → ∀ pc lv, decode cX7_componentOf pc = .ok (.ireturn, 1) → WW x g 6 0 0 pc lv [.int a] σ) {t : (Int32 × Int32) ⊕ ((Int32 × Int32) ⊕ (Int32))} (h : f_X7_componentOf_51 l2 l4 l5 s0 s1 σ = some t) (ht : E t) : WW x g 6 0 0 51 [(0, .ref (adr g 29)), (2, .int l2), (4, .int l4), (5, .int l5)] [.int s0, .int s1] σ := by
  unfold f_X7_componentOf_51 at h
  refine x_ior C dX7_componentOf_51 52 rfl ?_
  refine x_istore_n C [(3, .int (s1 ||| s0)), (0, .ref (adr g 29)), (2, .int l2), (4, .int l4), (5, .int l5)] dX7_componentOf_52 rfl (by decide) rfl 53 rfl ?_
  refine x_iinc C [(5, .int (l5 + 1)), (3, .int (s1 ||| s0)), (0, .ref (adr g 29)), (2, .int l2), (4, .int l4)] dX7_componentOf_53 4 rfl rfl (by decide) rfl 56 rfl ?_
  refine x_goto C dX7_componentOf_56 19 (by decide) ?_
  cases h
  exact x_sub [2, 3, 1, 4, 0] rfl (hI0 ((s1 ||| s0), (l5 + 1)) ht)
set_option maxHeartbeats 4000000 in
set_option maxRecDepth 100000 in
theorem w_X7_componentOf_b19 {x : Cx} {g : Gb} {E : (Int32 × Int32) ⊕ ((Int32 × Int32) ⊕ (Int32)) → Prop} (C : CF x g RX7 cX7_componentOf 6 (rmk 2 23))  {l2 : Int32} {l3 : Int32} {l4 : Int32} {l5 : Int32} {σ : WD} (hI0 : ∀ s, E (.inl s) → WW x g 6 0 0 19 [(0, .ref (adr g 29)), (2, .int l2), (3, .int s.1), (4, .int l4), (5, .int s.2)] [] σ) (hI1 : ∀ s, E (.inr (.inl s)) → WW x g 6 0 0 7 [(0, .ref (adr g 29)), (2, .int l2), (3, .int s.1), (4, .int s.2)] [] σ) (hE : ∀ (a : Int32), E (.inr (.inr a)) → ∀ pc lv, decode cX7_componentOf pc = .ok (.ireturn, 1) → WW x g 6 0 0 pc lv [.int a] σ) {t : (Int32 × Int32) ⊕ ((Int32 × Int32) ⊕ (Int32))} (h : f_X7_componentOf_b19 l2 l3 l4 l5 σ = some t) (ht : E t) : WW x g 6 0 0 19 [(0, .ref (adr g 29)), (2, .int l2), (3, .int l3), (4, .int l4), (5, .int l5)] [] σ := by
  unfold f_X7_componentOf_b19 at h
  refine x_iload C dX7_componentOf_19 4 rfl 21 rfl ?_
  refine x_aload_n C dX7_componentOf_21 rfl 0 rfl 22 rfl ?_
  refine gf_759_29 C dX7_componentOf_22 25 rfl ?_
  refine x_icmp_ge C dX7_componentOf_25 59 (by decide) 28 rfl (fun hc => ?_) (fun hc => ?_)
  · have h := ip hc h
    refine x_goto C dX7_componentOf_59 7 (by decide) ?_
    cases h
    exact x_sub [0, 1, 2, 3] rfl (hI1 (l3, l4) ht)
  · have h := iq hc h
    refine x_iload_n C dX7_componentOf_28 rfl 2 rfl 29 rfl ?_
    refine x_iload_n C dX7_componentOf_29 rfl 2 rfl 30 rfl ?_
    refine x_iload C dX7_componentOf_30 4 rfl 32 rfl ?_
    obtain ⟨r32, h32, h⟩ := bv_some h
    refine x_callS C [.int l3, .int l5] (c_X7_has  h32) mi_X7_has q_839 rfl ⟨rfl, rfl⟩ ⟨Nat.le_of_ble_eq_true rfl, Nat.le_of_ble_eq_true rfl⟩ ⟨Nat.zero_le _, Nat.zero_le _⟩ _ rfl (Nat.le_of_ble_eq_true rfl) dX7_componentOf_32 35 rfl ?_
    refine x_if_eq C dX7_componentOf_35 50 (by decide) 38 rfl (fun hc => ?_) (fun hc => ?_)
    · have h := ip hc h
      refine x_iconst C (v := 0) dX7_componentOf_50 (by decide) 51 rfl ?_
      exact x_sub [0, 1, 3, 4] rfl (w_X7_componentOf_51 C  hI0 hI1 hE h ht)
    · have h := iq hc h
      refine x_aload_n C dX7_componentOf_38 rfl 0 rfl 39 rfl ?_
      refine gf_760_29 C dX7_componentOf_39 42 rfl ?_
      refine x_iload C dX7_componentOf_42 4 rfl 44 rfl ?_
      obtain ⟨hin, h⟩ := gi_some h
      refine x_iald C 30 (gt_30 g _) hin dX7_componentOf_44 45 rfl ?_
      refine x_iload_n C dX7_componentOf_45 rfl 1 rfl 46 rfl ?_
      refine x_iand C dX7_componentOf_46 47 rfl ?_
      refine x_goto C dX7_componentOf_47 51 (by decide) ?_
      exact x_sub [0, 1, 3, 4] rfl (w_X7_componentOf_51 C  hI0 hI1 hE h ht)
set_option maxHeartbeats 4000000 in
set_option maxRecDepth 100000 in
theorem w_X7_componentOf_19 {x : Cx} {g : Gb} {E : (Int32 × Int32) ⊕ (Int32) → Prop} (C : CF x g RX7 cX7_componentOf 6 (rmk 2 23))  {l2 : Int32} {l3 : Int32} {l4 : Int32} {l5 : Int32} {σ : WD} (hI0 : ∀ s, E (.inl s) → WW x g 6 0 0 7 [(0, .ref (adr g 29)), (2, .int l2), (3, .int s.1), (4, .int s.2)] [] σ) (hE : ∀ (a : Int32), E (.inr a) → ∀ pc lv, decode cX7_componentOf pc = .ok (.ireturn, 1) → WW x g 6 0 0 pc lv [.int a] σ) {t : (Int32 × Int32) ⊕ (Int32)} (h : f_X7_componentOf_19 l2 l3 l4 l5 σ = some t) (ht : E t) : WW x g 6 0 0 19 [(0, .ref (adr g 29)), (2, .int l2), (3, .int l3), (4, .int l4), (5, .int l5)] [] σ := by
  unfold f_X7_componentOf_19 at h
  exact lp_ind (fun s : Int32 × Int32 => WW x g 6 0 0 19 [(0, .ref (adr g 29)), (2, .int l2), (3, .int s.1), (4, .int l4), (5, .int s.2)] [] σ) E h ht (fun s y hb hy => w_X7_componentOf_b19 (E := Sum.elim (fun s : Int32 × Int32 => WW x g 6 0 0 19 [(0, .ref (adr g 29)), (2, .int l2), (3, .int s.1), (4, .int l4), (5, .int s.2)] [] σ) E) C  (fun _ h => h) hI0 hE hb hy)
set_option maxHeartbeats 4000000 in
set_option maxRecDepth 100000 in
theorem w_X7_componentOf_b7 {x : Cx} {g : Gb} {E : (Int32 × Int32) ⊕ (Int32) → Prop} (C : CF x g RX7 cX7_componentOf 6 (rmk 2 23))  {l2 : Int32} {l3 : Int32} {l4 : Int32} {σ : WD} (hI0 : ∀ s, E (.inl s) → WW x g 6 0 0 7 [(0, .ref (adr g 29)), (2, .int l2), (3, .int s.1), (4, .int s.2)] [] σ) (hE : ∀ (a : Int32), E (.inr a) → ∀ pc lv, decode cX7_componentOf pc = .ok (.ireturn, 1) → WW x g 6 0 0 pc lv [.int a] σ) {t : (Int32 × Int32) ⊕ (Int32)} (h : f_X7_componentOf_b7 l2 l3 l4 σ = some t) (ht : E t) : WW x g 6 0 0 7 [(0, .ref (adr g 29)), (2, .int l2), (3, .int l3), (4, .int l4)] [] σ := by
  unfold f_X7_componentOf_b7 at h
  refine x_iload_n C dX7_componentOf_7 rfl 2 rfl 8 rfl ?_
  refine x_iload C dX7_componentOf_8 3 rfl 10 rfl ?_
  refine x_icmp_eq C dX7_componentOf_10 62 (by decide) 13 rfl (fun hc => ?_) (fun hc => ?_)
  · have h := ip hc h
    refine x_iload_n C dX7_componentOf_62 rfl 2 rfl 63 rfl ?_
    cases h
    exact hE _ ht 63 _ dX7_componentOf_63
  · have h := iq hc h
    refine x_iload_n C dX7_componentOf_13 rfl 2 rfl 14 rfl ?_
    refine x_istore C [(4, .int l3), (0, .ref (adr g 29)), (2, .int l2), (3, .int l3)] dX7_componentOf_14 (by decide) rfl 16 rfl ?_
    refine x_iconst C (v := 0) dX7_componentOf_16 (by decide) 17 rfl ?_
    refine x_istore C [(5, .int 0), (4, .int l3), (0, .ref (adr g 29)), (2, .int l2), (3, .int l3)] dX7_componentOf_17 (by decide) rfl 19 rfl ?_
    exact x_sub [2, 3, 4, 1, 0] rfl (w_X7_componentOf_19 C  hI0 hE h ht)
set_option maxHeartbeats 4000000 in
set_option maxRecDepth 100000 in
theorem w_X7_componentOf_7 {x : Cx} {g : Gb} {E : Int32 → Prop} (C : CF x g RX7 cX7_componentOf 6 (rmk 2 23))  {l2 : Int32} {l3 : Int32} {l4 : Int32} {σ : WD} (hE : ∀ (a : Int32), E a → ∀ pc lv, decode cX7_componentOf pc = .ok (.ireturn, 1) → WW x g 6 0 0 pc lv [.int a] σ) {t : Int32} (h : f_X7_componentOf_7 l2 l3 l4 σ = some t) (ht : E t) : WW x g 6 0 0 7 [(0, .ref (adr g 29)), (2, .int l2), (3, .int l3), (4, .int l4)] [] σ := by
  unfold f_X7_componentOf_7 at h
  exact lp_ind (fun s : Int32 × Int32 => WW x g 6 0 0 7 [(0, .ref (adr g 29)), (2, .int l2), (3, .int s.1), (4, .int s.2)] [] σ) E h ht (fun s y hb hy => w_X7_componentOf_b7 (E := Sum.elim (fun s : Int32 × Int32 => WW x g 6 0 0 7 [(0, .ref (adr g 29)), (2, .int l2), (3, .int s.1), (4, .int s.2)] [] σ) E) C  (fun _ h => h)  hE hb hy)
set_option maxHeartbeats 4000000 in
set_option maxRecDepth 100000 in
theorem w_X7_componentOf {x : Cx} {g : Gb} {E : Int32 → Prop} (C : CF x g RX7 cX7_componentOf 6 (rmk 2 23))  {a1 : Int32} {a2 : Int32} {σ : WD} (hE : ∀ (a : Int32), E a → ∀ pc lv, decode cX7_componentOf pc = .ok (.ireturn, 1) → WW x g 6 0 0 pc lv [.int a] σ) {t : Int32} (h : f_X7_componentOf a1 a2 σ = some t) (ht : E t) : WW x g 6 0 0 0 [(0, .ref (adr g 29)), (1, .int a1), (2, .int a2)] [] σ := by
  unfold f_X7_componentOf at h
  refine x_iconst C (v := 1) dX7_componentOf_0 (by decide) 1 rfl ?_
  refine x_iload_n C dX7_componentOf_1 rfl 1 rfl 2 rfl ?_
  refine x_ishl C dX7_componentOf_2 3 rfl ?_
  obtain ⟨v3, e3, h⟩ := li_some h
  refine x_te e3 ?_
  refine x_istore_n C [(3, .int v3), (0, .ref (adr g 29)), (1, .int a1), (2, .int a2)] dX7_componentOf_3 rfl (by decide) rfl 4 rfl ?_
  refine x_iconst C (v := 0) dX7_componentOf_4 (by decide) 5 rfl ?_
  refine x_istore C [(4, .int 0), (3, .int v3), (0, .ref (adr g 29)), (1, .int a1), (2, .int a2)] dX7_componentOf_5 (by decide) rfl 7 rfl ?_
  exact x_sub [2, 4, 1, 0] rfl (w_X7_componentOf_7 C  hE h ht)
set_option maxHeartbeats 4000000 in
set_option maxRecDepth 100000 in
theorem c_X7_componentOf {g : Gb} {l : Launch}  {a1 : Int32} {a2 : Int32} {σ : WD} {r : Int32} (h : f_X7_componentOf a1 a2 σ = some r) : MC l g yX7_componentOf (.code yX7_componentOf cX7_componentOf 6 (some (.int))) (rmk 2 23) [.ref (adr g 29), .int a1, .int a2] σ (some (.int r)) σ := by
  refine MC.of (by decide) (Nat.le_of_ble_eq_true rfl) (fun x C hl hr hq => ?_)
  subst hl
  exact w_X7_componentOf (E := fun z => z = r) C  (fun a he pc lv hd => by cases he; exact x_iret C hr hq hd) h rfl
set_option maxHeartbeats 4000000 in
set_option maxRecDepth 100000 in
theorem w_X7_componentsOf_b8 {x : Cx} {g : Gb} {E : (Int32 × Int32 × Int32) ⊕ (Int32) → Prop} (C : CF x g RX7 cX7_componentsOf 7 (rmk 3 49))  {l1 : Int32} {l2 : Int32} {l3 : Int32} {l4 : Int32} {l5 : Int32} {σ : WD} (hI0 : ∀ s, E (.inl s) → WW x g 7 0 0 8 [(0, .ref (adr g 29)), (1, .int l1), (2, .int l2), (3, .int s.1), (4, .int s.2.1), (5, .int s.2.2)] [] σ) (hE : ∀ (a : Int32), E (.inr a) → ∀ pc lv, decode cX7_componentsOf pc = .ok (.ireturn, 1) → WW x g 7 0 0 pc lv [.int a] σ) {t : (Int32 × Int32 × Int32) ⊕ (Int32)} (h : f_X7_componentsOf_b8 l1 l2 l3 l4 l5 σ = some t) (ht : E t) : WW x g 7 0 0 8 [(0, .ref (adr g 29)), (1, .int l1), (2, .int l2), (3, .int l3), (4, .int l4), (5, .int l5)] [] σ := by
  unfold f_X7_componentsOf_b8 at h
  refine x_iload C dX7_componentsOf_8 5 rfl 10 rfl ?_
  refine x_aload_n C dX7_componentsOf_10 rfl 0 rfl 11 rfl ?_
  refine gf_759_29 C dX7_componentsOf_11 14 rfl ?_
  refine x_icmp_ge C dX7_componentsOf_14 73 (by decide) 17 rfl (fun hc => ?_) (fun hc => ?_)
  · have h := ip hc h
    refine x_iload C dX7_componentsOf_73 4 rfl 75 rfl ?_
    cases h
    exact hE _ ht 75 _ dX7_componentsOf_75
  · have h := iq hc h
    refine x_iload_n C dX7_componentsOf_17 rfl 3 rfl 18 rfl ?_
    refine x_iload C dX7_componentsOf_18 5 rfl 20 rfl ?_
    obtain ⟨r20, h20, h⟩ := bv_some h
    refine x_callS C [.int l3, .int l5] (c_X7_has  h20) mi_X7_has q_839 rfl ⟨rfl, rfl⟩ ⟨Nat.le_of_ble_eq_true rfl, Nat.le_of_ble_eq_true rfl⟩ ⟨Nat.zero_le _, Nat.zero_le _⟩ _ rfl (Nat.le_of_ble_eq_true rfl) dX7_componentsOf_20 23 rfl ?_
    refine x_if_eq C dX7_componentsOf_23 67 (by decide) 26 rfl (fun hc => ?_) (fun hc => ?_)
    · have h := ip hc h
      refine x_iinc C [(5, .int (l5 + 1)), (0, .ref (adr g 29)), (1, .int l1), (2, .int l2), (3, .int l3), (4, .int l4)] dX7_componentsOf_67 5 rfl rfl (by decide) rfl 70 rfl ?_
      refine x_goto C dX7_componentsOf_70 8 (by decide) ?_
      cases h
      exact x_sub [1, 2, 3, 4, 5, 0] rfl (hI0 (l3, l4, (l5 + 1)) ht)
    · have h := iq hc h
      refine x_aload_n C dX7_componentsOf_26 rfl 0 rfl 27 rfl ?_
      refine x_iload C dX7_componentsOf_27 5 rfl 29 rfl ?_
      refine x_iload_n C dX7_componentsOf_29 rfl 1 rfl 30 rfl ?_
      obtain ⟨r30, h30, h⟩ := bv_some h
      refine x_callV C 29 [.int l5, .int l1] (c_X7_componentOf  h30) mi_X7_componentOf (gt_29 g _) rfl q_993 rfl ⟨rfl, rfl⟩ ⟨Nat.le_of_ble_eq_true rfl, Nat.le_of_ble_eq_true rfl⟩ ⟨Nat.zero_le _, Nat.zero_le _⟩ _ rfl (Nat.le_of_ble_eq_true rfl) dX7_componentsOf_30 33 rfl ?_
      refine x_istore C [(6, .int r30), (0, .ref (adr g 29)), (1, .int l1), (2, .int l2), (3, .int l3), (4, .int l4), (5, .int l5)] dX7_componentsOf_33 (by decide) rfl 35 rfl ?_
      refine x_iload_n C dX7_componentsOf_35 rfl 4 rfl 36 rfl ?_
      refine x_iload C dX7_componentsOf_36 0 rfl 38 rfl ?_
      refine x_iconst C (v := -1) dX7_componentsOf_38 (by decide) 39 rfl ?_
      refine x_ixor C dX7_componentsOf_39 40 rfl ?_
      refine x_iand C dX7_componentsOf_40 41 rfl ?_
      obtain ⟨v41, e41, h⟩ := li_some h
      refine x_te e41 ?_
      refine x_istore_n C [(3, .int v41), (6, .int r30), (0, .ref (adr g 29)), (1, .int l1), (2, .int l2), (4, .int l4), (5, .int l5)] dX7_componentsOf_41 rfl (by decide) rfl 42 rfl ?_
      refine x_iload C dX7_componentsOf_42 5 rfl 44 rfl ?_
      refine x_iload_n C dX7_componentsOf_44 rfl 4 rfl 45 rfl ?_
      refine x_if_eq C dX7_componentsOf_45 59 (by decide) 48 rfl (fun hc => ?_) (fun hc => ?_)
      · have h := ip hc h
        refine x_iconst C (v := 1) dX7_componentsOf_59 (by decide) 60 rfl ?_
        refine x_goto C dX7_componentsOf_60 64 (by decide) ?_
        refine x_iadd C dX7_componentsOf_64 65 rfl ?_
        refine x_istore C [(4, .int (l4 + 1)), (3, .int v41), (6, .int r30), (0, .ref (adr g 29)), (1, .int l1), (2, .int l2), (5, .int l5)] dX7_componentsOf_65 (by decide) rfl 67 rfl ?_
        refine x_iinc C [(5, .int (l5 + 1)), (4, .int (l4 + 1)), (3, .int v41), (6, .int r30), (0, .ref (adr g 29)), (1, .int l1), (2, .int l2)] dX7_componentsOf_67 6 rfl rfl (by decide) rfl 70 rfl ?_
        refine x_goto C dX7_componentsOf_70 8 (by decide) ?_
        cases h
        exact x_sub [4, 5, 6, 2, 1, 0] rfl (hI0 (v41, (l4 + 1), (l5 + 1)) ht)
      · have h := iq hc h
        refine x_iload C dX7_componentsOf_48 1 rfl 50 rfl ?_
        obtain ⟨r50, h50, h⟩ := bv_some h
        refine x_callS C [.int r30] (c_X7_bits  h50) mi_X7_bits q_986 rfl ⟨rfl, rfl⟩ ⟨Nat.le_of_ble_eq_true rfl, Nat.le_of_ble_eq_true rfl⟩ ⟨Nat.zero_le _, Nat.zero_le _⟩ _ rfl (Nat.le_of_ble_eq_true rfl) dX7_componentsOf_50 53 rfl ?_
        refine x_iconst C (v := 2) dX7_componentsOf_53 (by decide) 54 rfl ?_
        obtain ⟨hz, h⟩ := gz_some h
        refine x_irem C dX7_componentsOf_54 hz 55 rfl ?_
        refine x_iconst C (v := 1) dX7_componentsOf_55 (by decide) 56 rfl ?_
        refine x_icmp_ne C dX7_componentsOf_56 63 (by decide) 59 rfl (fun hc => ?_) (fun hc => ?_)
        · have h := iq hc h
          refine x_iconst C (v := 0) dX7_componentsOf_63 (by decide) 64 rfl ?_
          refine x_iadd C dX7_componentsOf_64 65 rfl ?_
          refine x_istore C [(4, .int (l4 + 0)), (3, .int v41), (6, .int r30), (0, .ref (adr g 29)), (1, .int l1), (2, .int l2), (5, .int l5)] dX7_componentsOf_65 (by decide) rfl 67 rfl ?_
          refine x_iinc C [(5, .int (l5 + 1)), (4, .int (l4 + 0)), (3, .int v41), (6, .int r30), (0, .ref (adr g 29)), (1, .int l1), (2, .int l2)] dX7_componentsOf_67 6 rfl rfl (by decide) rfl 70 rfl ?_
          refine x_goto C dX7_componentsOf_70 8 (by decide) ?_
          cases h
          exact x_sub [4, 5, 6, 2, 1, 0] rfl (hI0 (v41, (l4 + 0), (l5 + 1)) ht)
        · have h := ip hc h
          refine x_iconst C (v := 1) dX7_componentsOf_59 (by decide) 60 rfl ?_
          refine x_goto C dX7_componentsOf_60 64 (by decide) ?_
          refine x_iadd C dX7_componentsOf_64 65 rfl ?_
          refine x_istore C [(4, .int (l4 + 1)), (3, .int v41), (6, .int r30), (0, .ref (adr g 29)), (1, .int l1), (2, .int l2), (5, .int l5)] dX7_componentsOf_65 (by decide) rfl 67 rfl ?_
          refine x_iinc C [(5, .int (l5 + 1)), (4, .int (l4 + 1)), (3, .int v41), (6, .int r30), (0, .ref (adr g 29)), (1, .int l1), (2, .int l2)] dX7_componentsOf_67 6 rfl rfl (by decide) rfl 70 rfl ?_
          refine x_goto C dX7_componentsOf_70 8 (by decide) ?_
          cases h
          exact x_sub [4, 5, 6, 2, 1, 0] rfl (hI0 (v41, (l4 + 1), (l5 + 1)) ht)
set_option maxHeartbeats 4000000 in
set_option maxRecDepth 100000 in
theorem w_X7_componentsOf_8 {x : Cx} {g : Gb} {E : Int32 → Prop} (C : CF x g RX7 cX7_componentsOf 7 (rmk 3 49))  {l1 : Int32} {l2 : Int32} {l3 : Int32} {l4 : Int32} {l5 : Int32} {σ : WD} (hE : ∀ (a : Int32), E a → ∀ pc lv, decode cX7_componentsOf pc = .ok (.ireturn, 1) → WW x g 7 0 0 pc lv [.int a] σ) {t : Int32} (h : f_X7_componentsOf_8 l1 l2 l3 l4 l5 σ = some t) (ht : E t) : WW x g 7 0 0 8 [(0, .ref (adr g 29)), (1, .int l1), (2, .int l2), (3, .int l3), (4, .int l4), (5, .int l5)] [] σ := by
  unfold f_X7_componentsOf_8 at h
  exact lp_ind (fun s : Int32 × Int32 × Int32 => WW x g 7 0 0 8 [(0, .ref (adr g 29)), (1, .int l1), (2, .int l2), (3, .int s.1), (4, .int s.2.1), (5, .int s.2.2)] [] σ) E h ht (fun s y hb hy => w_X7_componentsOf_b8 (E := Sum.elim (fun s : Int32 × Int32 × Int32 => WW x g 7 0 0 8 [(0, .ref (adr g 29)), (1, .int l1), (2, .int l2), (3, .int s.1), (4, .int s.2.1), (5, .int s.2.2)] [] σ) E) C  (fun _ h => h)  hE hb hy)
set_option maxHeartbeats 4000000 in
set_option maxRecDepth 100000 in
theorem w_X7_componentsOf {x : Cx} {g : Gb} {E : Int32 → Prop} (C : CF x g RX7 cX7_componentsOf 7 (rmk 3 49))  {a1 : Int32} {a2 : Int32} {σ : WD} (hE : ∀ (a : Int32), E a → ∀ pc lv, decode cX7_componentsOf pc = .ok (.ireturn, 1) → WW x g 7 0 0 pc lv [.int a] σ) {t : Int32} (h : f_X7_componentsOf a1 a2 σ = some t) (ht : E t) : WW x g 7 0 0 0 [(0, .ref (adr g 29)), (1, .int a1), (2, .int a2)] [] σ := by
  unfold f_X7_componentsOf at h
  refine x_iload_n C dX7_componentsOf_0 rfl 1 rfl 1 rfl ?_
  refine x_istore_n C [(3, .int a1), (0, .ref (adr g 29)), (1, .int a1), (2, .int a2)] dX7_componentsOf_1 rfl (by decide) rfl 2 rfl ?_
  refine x_iconst C (v := 0) dX7_componentsOf_2 (by decide) 3 rfl ?_
  refine x_istore C [(4, .int 0), (3, .int a1), (0, .ref (adr g 29)), (1, .int a1), (2, .int a2)] dX7_componentsOf_3 (by decide) rfl 5 rfl ?_
  refine x_iconst C (v := 0) dX7_componentsOf_5 (by decide) 6 rfl ?_
  refine x_istore C [(5, .int 0), (4, .int 0), (3, .int a1), (0, .ref (adr g 29)), (1, .int a1), (2, .int a2)] dX7_componentsOf_6 (by decide) rfl 8 rfl ?_
  exact x_sub [3, 4, 5, 2, 1, 0] rfl (w_X7_componentsOf_8 C  hE h ht)
set_option maxHeartbeats 4000000 in
set_option maxRecDepth 100000 in
theorem c_X7_componentsOf {g : Gb} {l : Launch}  {a1 : Int32} {a2 : Int32} {σ : WD} {r : Int32} (h : f_X7_componentsOf a1 a2 σ = some r) : MC l g yX7_componentsOf (.code yX7_componentsOf cX7_componentsOf 7 (some (.int))) (rmk 3 49) [.ref (adr g 29), .int a1, .int a2] σ (some (.int r)) σ := by
  refine MC.of (by decide) (Nat.le_of_ble_eq_true rfl) (fun x C hl hr hq => ?_)
  subst hl
  exact w_X7_componentsOf (E := fun z => z = r) C  (fun a he pc lv hd => by cases he; exact x_iret C hr hq hd) h rfl
set_option maxHeartbeats 4000000 in
set_option maxRecDepth 100000 in
theorem w_X7_lowest_b12 {x : Cx} {g : Gb} {E : (Int32) ⊕ (Int32) → Prop} (C : CF x g RX7 cX7_lowest 4 (rmk 3 49))  {l2 : Int32} {l3 : Int32} {σ : WD} (hI0 : ∀ s, E (.inl s) → WW x g 4 0 0 12 [(2, .int l2), (3, .int s)] [] σ) (hE : ∀ (a : Int32), E (.inr a) → ∀ pc lv, decode cX7_lowest pc = .ok (.ireturn, 1) → WW x g 4 0 0 pc lv [.int a] σ) {t : (Int32) ⊕ (Int32)} (h : f_X7_lowest_b12 l2 l3 σ = some t) (ht : E t) : WW x g 4 0 0 12 [(2, .int l2), (3, .int l3)] [] σ := by
  unfold f_X7_lowest_b12 at h
  refine x_iload_n C dX7_lowest_12 rfl 0 rfl 13 rfl ?_
  refine x_iload_n C dX7_lowest_13 rfl 1 rfl 14 rfl ?_
  obtain ⟨r14, h14, h⟩ := bv_some h
  refine x_callS C [.int l2, .int l3] (c_X7_has  h14) mi_X7_has q_839 rfl ⟨rfl, rfl⟩ ⟨Nat.le_of_ble_eq_true rfl, Nat.le_of_ble_eq_true rfl⟩ ⟨Nat.zero_le _, Nat.zero_le _⟩ _ rfl (Nat.le_of_ble_eq_true rfl) dX7_lowest_14 17 rfl ?_
  refine x_if_ne C dX7_lowest_17 26 (by decide) 20 rfl (fun hc => ?_) (fun hc => ?_)
  · have h := iq hc h
    refine x_iload_n C dX7_lowest_26 rfl 1 rfl 27 rfl ?_
    cases h
    exact hE _ ht 27 _ dX7_lowest_27
  · have h := ip hc h
    refine x_iinc C [(3, .int (l3 + 1)), (2, .int l2)] dX7_lowest_20 1 rfl rfl (by decide) rfl 23 rfl ?_
    refine x_goto C dX7_lowest_23 12 (by decide) ?_
    cases h
    exact x_sub [1, 0] rfl (hI0 (l3 + 1) ht)
set_option maxHeartbeats 4000000 in
set_option maxRecDepth 100000 in
theorem w_X7_lowest_12 {x : Cx} {g : Gb} {E : Int32 → Prop} (C : CF x g RX7 cX7_lowest 4 (rmk 3 49))  {l2 : Int32} {l3 : Int32} {σ : WD} (hE : ∀ (a : Int32), E a → ∀ pc lv, decode cX7_lowest pc = .ok (.ireturn, 1) → WW x g 4 0 0 pc lv [.int a] σ) {t : Int32} (h : f_X7_lowest_12 l2 l3 σ = some t) (ht : E t) : WW x g 4 0 0 12 [(2, .int l2), (3, .int l3)] [] σ := by
  unfold f_X7_lowest_12 at h
  exact lp_ind (fun s : Int32 => WW x g 4 0 0 12 [(2, .int l2), (3, .int s)] [] σ) E h ht (fun s y hb hy => w_X7_lowest_b12 (E := Sum.elim (fun s : Int32 => WW x g 4 0 0 12 [(2, .int l2), (3, .int s)] [] σ) E) C  (fun _ h => h)  hE hb hy)
set_option maxHeartbeats 4000000 in
set_option maxRecDepth 100000 in
theorem w_X7_lowest {x : Cx} {g : Gb} {E : Int32 → Prop} (C : CF x g RX7 cX7_lowest 4 (rmk 3 49))  {a1 : Int32} {σ : WD} (hE : ∀ (a : Int32), E a → ∀ pc lv, decode cX7_lowest pc = .ok (.ireturn, 1) → WW x g 4 0 0 pc lv [.int a] σ) {t : Int32} (h : f_X7_lowest a1 σ = some t) (ht : E t) : WW x g 4 0 0 0 [(0, .ref (adr g 29)), (1, .int a1)] [] σ := by
  unfold f_X7_lowest at h
  refine x_aload_n C dX7_lowest_0 rfl 0 rfl 1 rfl ?_
  refine x_iload_n C dX7_lowest_1 rfl 1 rfl 2 rfl ?_
  refine x_aload_n C dX7_lowest_2 rfl 0 rfl 3 rfl ?_
  obtain ⟨r3, h3, h⟩ := bv_some h
  refine x_callV C 29 [] (c_X7_all  h3) mi_X7_all (gt_29 g _) rfl q_930 rfl ⟨rfl, rfl⟩ ⟨Nat.le_of_ble_eq_true rfl, Nat.le_of_ble_eq_true rfl⟩ ⟨Nat.zero_le _, Nat.zero_le _⟩ _ rfl (Nat.le_of_ble_eq_true rfl) dX7_lowest_3 6 rfl ?_
  obtain ⟨r6, h6, h⟩ := bv_some h
  refine x_callV C 29 [.int a1, .int r3] (c_X7_componentOf  h6) mi_X7_componentOf (gt_29 g _) rfl q_993 rfl ⟨rfl, rfl⟩ ⟨Nat.le_of_ble_eq_true rfl, Nat.le_of_ble_eq_true rfl⟩ ⟨Nat.zero_le _, Nat.zero_le _⟩ _ rfl (Nat.le_of_ble_eq_true rfl) dX7_lowest_6 9 rfl ?_
  refine x_istore_n C [(2, .int r6), (0, .ref (adr g 29)), (1, .int a1)] dX7_lowest_9 rfl (by decide) rfl 10 rfl ?_
  refine x_iconst C (v := 0) dX7_lowest_10 (by decide) 11 rfl ?_
  refine x_istore_n C [(3, .int 0), (2, .int r6), (0, .ref (adr g 29)), (1, .int a1)] dX7_lowest_11 rfl (by decide) rfl 12 rfl ?_
  exact x_sub [1, 0] rfl (w_X7_lowest_12 C  hE h ht)
set_option maxHeartbeats 4000000 in
set_option maxRecDepth 100000 in
theorem c_X7_lowest {g : Gb} {l : Launch}  {a1 : Int32} {σ : WD} {r : Int32} (h : f_X7_lowest a1 σ = some r) : MC l g yX7_lowest (.code yX7_lowest cX7_lowest 4 (some (.int))) (rmk 3 49) [.ref (adr g 29), .int a1] σ (some (.int r)) σ := by
  refine MC.of (by decide) (Nat.le_of_ble_eq_true rfl) (fun x C hl hr hq => ?_)
  subst hl
  exact w_X7_lowest (E := fun z => z = r) C  (fun a he pc lv hd => by cases he; exact x_iret C hr hq hd) h rfl
set_option maxHeartbeats 4000000 in
set_option maxRecDepth 100000 in
theorem w_X7_proofNow_88 {x : Cx} {g : Gb} {E : (Int32 × Int32 × Int32) ⊕ (Int32) → Prop} (C : CF x g RX7 cX7_proofNow 6 (rmk 4 76))  {l1 : Int32} {l2 : Int32} {l4 : Int32} {l5 : Int32} {s0 : Int32} {σ : WD} (hI0 : ∀ s, E (.inl s) → WW x g 6 0 0 25 [(0, .ref (adr g 29)), (1, .int l1), (2, .int s.1), (3, .int s.2.1), (4, .int s.2.2)] [] σ) (hE : ∀ (a : Int32), E (.inr a) → ∀ pc lv, decode cX7_proofNow pc = .ok (.ireturn, 1) → WW x g 6 0 0 pc lv [.int a] σ) {t : (Int32 × Int32 × Int32) ⊕ (Int32)} (h : f_X7_proofNow_88 l1 l2 l4 l5 s0 σ = some t) (ht : E t) : WW x g 6 0 0 88 [(0, .ref (adr g 29)), (1, .int l1), (2, .int l2), (4, .int l4), (5, .int l5)] [.int s0] σ := by
  unfold f_X7_proofNow_88 at h
  refine x_istore_n C [(3, .int s0), (0, .ref (adr g 29)), (1, .int l1), (2, .int l2), (4, .int l4), (5, .int l5)] dX7_proofNow_88 rfl (by decide) rfl 89 rfl ?_
  refine x_iload C dX7_proofNow_89 5 rfl 91 rfl ?_
  refine x_if_eq C dX7_proofNow_91 99 (by decide) 94 rfl (fun hc => ?_) (fun hc => ?_)
  · have h := ip hc h
    refine x_iload_n C dX7_proofNow_99 rfl 3 rfl 100 rfl ?_
    refine x_istore_n C [(2, .int l2), (3, .int s0), (0, .ref (adr g 29)), (1, .int l1), (4, .int l4), (5, .int l5)] dX7_proofNow_100 rfl (by decide) rfl 101 rfl ?_
    refine x_iinc C [(4, .int (l4 + 1)), (2, .int l2), (3, .int s0), (0, .ref (adr g 29)), (1, .int l1), (5, .int l5)] dX7_proofNow_101 4 rfl rfl (by decide) rfl 104 rfl ?_
    refine x_goto C dX7_proofNow_104 25 (by decide) ?_
    cases h
    exact x_sub [3, 4, 1, 2, 0] rfl (hI0 (l2, s0, (l4 + 1)) ht)
  · have h := iq hc h
    refine x_iload C dX7_proofNow_94 4 rfl 96 rfl ?_
    refine x_goto C dX7_proofNow_96 100 (by decide) ?_
    refine x_istore_n C [(2, .int l4), (3, .int s0), (0, .ref (adr g 29)), (1, .int l1), (4, .int l4), (5, .int l5)] dX7_proofNow_100 rfl (by decide) rfl 101 rfl ?_
    refine x_iinc C [(4, .int (l4 + 1)), (2, .int l4), (3, .int s0), (0, .ref (adr g 29)), (1, .int l1), (5, .int l5)] dX7_proofNow_101 4 rfl rfl (by decide) rfl 104 rfl ?_
    refine x_goto C dX7_proofNow_104 25 (by decide) ?_
    cases h
    exact x_sub [3, 4, 1, 2, 0] rfl (hI0 (l4, s0, (l4 + 1)) ht)
set_option maxHeartbeats 4000000 in
set_option maxRecDepth 100000 in
theorem w_X7_proofNow_72 {x : Cx} {g : Gb} {E : (Int32 × Int32 × Int32) ⊕ (Int32) → Prop} (C : CF x g RX7 cX7_proofNow 6 (rmk 4 76))  {l1 : Int32} {l2 : Int32} {l3 : Int32} {l4 : Int32} {s0 : Int32} {σ : WD} (hI0 : ∀ s, E (.inl s) → WW x g 6 0 0 25 [(0, .ref (adr g 29)), (1, .int l1), (2, .int s.1), (3, .int s.2.1), (4, .int s.2.2)] [] σ) (hE : ∀ (a : Int32), E (.inr a) → ∀ pc lv, decode cX7_proofNow pc = .ok (.ireturn, 1) → WW x g 6 0 0 pc lv [.int a] σ) {t : (Int32 × Int32 × Int32) ⊕ (Int32)} (h : f_X7_proofNow_72 l1 l2 l3 l4 s0 σ = some t) (ht : E t) : WW x g 6 0 0 72 [(0, .ref (adr g 29)), (1, .int l1), (2, .int l2), (3, .int l3), (4, .int l4)] [.int s0] σ := by
  unfold f_X7_proofNow_72 at h
  refine x_istore C [(5, .int s0), (0, .ref (adr g 29)), (1, .int l1), (2, .int l2), (3, .int l3), (4, .int l4)] dX7_proofNow_72 (by decide) rfl 74 rfl ?_
  refine x_iload C dX7_proofNow_74 0 rfl 76 rfl ?_
  refine x_if_eq C dX7_proofNow_76 87 (by decide) 79 rfl (fun hc => ?_) (fun hc => ?_)
  · have h := ip hc h
    refine x_iload_n C dX7_proofNow_87 rfl 4 rfl 88 rfl ?_
    exact x_sub [1, 2, 3, 5, 0] rfl (w_X7_proofNow_88 C  hI0 hE h ht)
  · have h := iq hc h
    refine x_iload C dX7_proofNow_79 5 rfl 81 rfl ?_
    obtain ⟨r81, h81, h⟩ := bv_some h
    refine x_callS C [.int l4] (c_X7_bits  h81) mi_X7_bits q_986 rfl ⟨rfl, rfl⟩ ⟨Nat.le_of_ble_eq_true rfl, Nat.le_of_ble_eq_true rfl⟩ ⟨Nat.zero_le _, Nat.zero_le _⟩ _ rfl (Nat.le_of_ble_eq_true rfl) dX7_proofNow_81 84 rfl ?_
    refine x_goto C dX7_proofNow_84 88 (by decide) ?_
    exact x_sub [1, 2, 3, 5, 0] rfl (w_X7_proofNow_88 C  hI0 hE h ht)
set_option maxHeartbeats 4000000 in
set_option maxRecDepth 100000 in
theorem w_X7_proofNow_71 {x : Cx} {g : Gb} {E : (Int32 × Int32 × Int32) ⊕ (Int32) → Prop} (C : CF x g RX7 cX7_proofNow 6 (rmk 4 76))  {l1 : Int32} {l2 : Int32} {l3 : Int32} {l4 : Int32} {σ : WD} (hI0 : ∀ s, E (.inl s) → WW x g 6 0 0 25 [(0, .ref (adr g 29)), (1, .int l1), (2, .int s.1), (3, .int s.2.1), (4, .int s.2.2)] [] σ) (hE : ∀ (a : Int32), E (.inr a) → ∀ pc lv, decode cX7_proofNow pc = .ok (.ireturn, 1) → WW x g 6 0 0 pc lv [.int a] σ) {t : (Int32 × Int32 × Int32) ⊕ (Int32)} (h : f_X7_proofNow_71 l1 l2 l3 l4 σ = some t) (ht : E t) : WW x g 6 0 0 71 [(0, .ref (adr g 29)), (1, .int l1), (2, .int l2), (3, .int l3), (4, .int l4)] [] σ := by
  unfold f_X7_proofNow_71 at h
  refine x_iconst C (v := 0) dX7_proofNow_71 (by decide) 72 rfl ?_
  exact x_sub [0, 1, 2, 3, 4] rfl (w_X7_proofNow_72 C  hI0 hE h ht)
set_option maxHeartbeats 4000000 in
set_option maxRecDepth 100000 in
theorem w_X7_proofNow_b25 {x : Cx} {g : Gb} {E : (Int32 × Int32 × Int32) ⊕ (Int32) → Prop} (C : CF x g RX7 cX7_proofNow 6 (rmk 4 76))  {l1 : Int32} {l2 : Int32} {l3 : Int32} {l4 : Int32} {σ : WD} (hI0 : ∀ s, E (.inl s) → WW x g 6 0 0 25 [(0, .ref (adr g 29)), (1, .int l1), (2, .int s.1), (3, .int s.2.1), (4, .int s.2.2)] [] σ) (hE : ∀ (a : Int32), E (.inr a) → ∀ pc lv, decode cX7_proofNow pc = .ok (.ireturn, 1) → WW x g 6 0 0 pc lv [.int a] σ) {t : (Int32 × Int32 × Int32) ⊕ (Int32)} (h : f_X7_proofNow_b25 l1 l2 l3 l4 σ = some t) (ht : E t) : WW x g 6 0 0 25 [(0, .ref (adr g 29)), (1, .int l1), (2, .int l2), (3, .int l3), (4, .int l4)] [] σ := by
  unfold f_X7_proofNow_b25 at h
  refine x_iload C dX7_proofNow_25 4 rfl 27 rfl ?_
  refine x_aload_n C dX7_proofNow_27 rfl 0 rfl 28 rfl ?_
  obtain ⟨r28, h28, h⟩ := bv_some h
  refine x_callV C 29 [] (c_X7_all  h28) mi_X7_all (gt_29 g _) rfl q_930 rfl ⟨rfl, rfl⟩ ⟨Nat.le_of_ble_eq_true rfl, Nat.le_of_ble_eq_true rfl⟩ ⟨Nat.zero_le _, Nat.zero_le _⟩ _ rfl (Nat.le_of_ble_eq_true rfl) dX7_proofNow_28 31 rfl ?_
  refine x_icmp_gt C dX7_proofNow_31 107 (by decide) 34 rfl (fun hc => ?_) (fun hc => ?_)
  · have h := ip hc h
    refine x_iload_n C dX7_proofNow_107 rfl 2 rfl 108 rfl ?_
    cases h
    exact hE _ ht 108 _ dX7_proofNow_108
  · have h := iq hc h
    refine x_iload C dX7_proofNow_34 4 rfl 36 rfl ?_
    obtain ⟨r36, h36, h⟩ := bv_some h
    refine x_callS C [.int l4] (c_X7_bits  h36) mi_X7_bits q_986 rfl ⟨rfl, rfl⟩ ⟨Nat.le_of_ble_eq_true rfl, Nat.le_of_ble_eq_true rfl⟩ ⟨Nat.zero_le _, Nat.zero_le _⟩ _ rfl (Nat.le_of_ble_eq_true rfl) dX7_proofNow_36 39 rfl ?_
    refine x_iload_n C dX7_proofNow_39 rfl 3 rfl 40 rfl ?_
    refine x_icmp_ge C dX7_proofNow_40 71 (by decide) 43 rfl (fun hc => ?_) (fun hc => ?_)
    · have h := ip hc h
      exact x_sub [0, 1, 2, 3, 4] rfl (w_X7_proofNow_71 C  hI0 hE h ht)
    · have h := iq hc h
      refine x_aload_n C dX7_proofNow_43 rfl 0 rfl 44 rfl ?_
      refine x_aload_n C dX7_proofNow_44 rfl 0 rfl 45 rfl ?_
      obtain ⟨r45, h45, h⟩ := bv_some h
      refine x_callV C 29 [] (c_X7_all  h45) mi_X7_all (gt_29 g _) rfl q_930 rfl ⟨rfl, rfl⟩ ⟨Nat.le_of_ble_eq_true rfl, Nat.le_of_ble_eq_true rfl⟩ ⟨Nat.zero_le _, Nat.zero_le _⟩ _ rfl (Nat.le_of_ble_eq_true rfl) dX7_proofNow_45 48 rfl ?_
      refine x_iload C dX7_proofNow_48 4 rfl 50 rfl ?_
      refine x_iconst C (v := -1) dX7_proofNow_50 (by decide) 51 rfl ?_
      refine x_ixor C dX7_proofNow_51 52 rfl ?_
      refine x_iand C dX7_proofNow_52 53 rfl ?_
      refine x_iconst C (v := 1) dX7_proofNow_53 (by decide) 54 rfl ?_
      obtain ⟨r54, h54, h⟩ := bv_some h
      refine x_callV C 29 [.int (r45 &&& (l4 ^^^ (-1))), .int 1] (c_X7_componentsOf  h54) mi_X7_componentsOf (gt_29 g _) rfl q_989 rfl ⟨rfl, rfl⟩ ⟨Nat.le_of_ble_eq_true rfl, Nat.le_of_ble_eq_true rfl⟩ ⟨Nat.zero_le _, Nat.zero_le _⟩ _ rfl (Nat.le_of_ble_eq_true rfl) dX7_proofNow_54 57 rfl ?_
      refine x_iload C dX7_proofNow_57 4 rfl 59 rfl ?_
      obtain ⟨r59, h59, h⟩ := bv_some h
      refine x_callS C [.int l4] (c_X7_bits  h59) mi_X7_bits q_986 rfl ⟨rfl, rfl⟩ ⟨Nat.le_of_ble_eq_true rfl, Nat.le_of_ble_eq_true rfl⟩ ⟨Nat.zero_le _, Nat.zero_le _⟩ _ rfl (Nat.le_of_ble_eq_true rfl) dX7_proofNow_59 62 rfl ?_
      refine x_iload_n C dX7_proofNow_62 rfl 1 rfl 63 rfl ?_
      refine x_iadd C dX7_proofNow_63 64 rfl ?_
      refine x_icmp_ne C dX7_proofNow_64 71 (by decide) 67 rfl (fun hc => ?_) (fun hc => ?_)
      · have h := iq hc h
        exact x_sub [0, 1, 2, 3, 4] rfl (w_X7_proofNow_71 C  hI0 hE h ht)
      · have h := ip hc h
        refine x_iconst C (v := 1) dX7_proofNow_67 (by decide) 68 rfl ?_
        refine x_goto C dX7_proofNow_68 72 (by decide) ?_
        exact x_sub [0, 1, 2, 3, 4] rfl (w_X7_proofNow_72 C  hI0 hE h ht)
set_option maxHeartbeats 4000000 in
set_option maxRecDepth 100000 in
theorem w_X7_proofNow_25 {x : Cx} {g : Gb} {E : Int32 → Prop} (C : CF x g RX7 cX7_proofNow 6 (rmk 4 76))  {l1 : Int32} {l2 : Int32} {l3 : Int32} {l4 : Int32} {σ : WD} (hE : ∀ (a : Int32), E a → ∀ pc lv, decode cX7_proofNow pc = .ok (.ireturn, 1) → WW x g 6 0 0 pc lv [.int a] σ) {t : Int32} (h : f_X7_proofNow_25 l1 l2 l3 l4 σ = some t) (ht : E t) : WW x g 6 0 0 25 [(0, .ref (adr g 29)), (1, .int l1), (2, .int l2), (3, .int l3), (4, .int l4)] [] σ := by
  unfold f_X7_proofNow_25 at h
  exact lp_ind (fun s : Int32 × Int32 × Int32 => WW x g 6 0 0 25 [(0, .ref (adr g 29)), (1, .int l1), (2, .int s.1), (3, .int s.2.1), (4, .int s.2.2)] [] σ) E h ht (fun s y hb hy => w_X7_proofNow_b25 (E := Sum.elim (fun s : Int32 × Int32 × Int32 => WW x g 6 0 0 25 [(0, .ref (adr g 29)), (1, .int l1), (2, .int s.1), (3, .int s.2.1), (4, .int s.2.2)] [] σ) E) C  (fun _ h => h)  hE hb hy)
set_option maxHeartbeats 4000000 in
set_option maxRecDepth 100000 in
theorem w_X7_proofNow {x : Cx} {g : Gb} {E : Int32 → Prop} (C : CF x g RX7 cX7_proofNow 6 (rmk 4 76))   {σ : WD} (hE : ∀ (a : Int32), E a → ∀ pc lv, decode cX7_proofNow pc = .ok (.ireturn, 1) → WW x g 6 0 0 pc lv [.int a] σ) {t : Int32} (h : f_X7_proofNow  σ = some t) (ht : E t) : WW x g 6 0 0 0 [(0, .ref (adr g 29))] [] σ := by
  unfold f_X7_proofNow at h
  refine x_aload_n C dX7_proofNow_0 rfl 0 rfl 1 rfl ?_
  refine gf_759_29 C dX7_proofNow_1 4 rfl ?_
  refine x_iconst C (v := 2) dX7_proofNow_4 (by decide) 5 rfl ?_
  refine x_aload_n C dX7_proofNow_5 rfl 0 rfl 6 rfl ?_
  refine gf_766_29 C dX7_proofNow_6 9 rfl ?_
  refine x_aload_n C dX7_proofNow_9 rfl 0 rfl 10 rfl ?_
  obtain ⟨r10, h10, h⟩ := bv_some h
  refine x_callV C 29 [] (c_X7_all  h10) mi_X7_all (gt_29 g _) rfl q_930 rfl ⟨rfl, rfl⟩ ⟨Nat.le_of_ble_eq_true rfl, Nat.le_of_ble_eq_true rfl⟩ ⟨Nat.zero_le _, Nat.zero_le _⟩ _ rfl (Nat.le_of_ble_eq_true rfl) dX7_proofNow_10 13 rfl ?_
  obtain ⟨hin, h⟩ := gi_some h
  refine x_iald C 34 (gt_34 g _) hin dX7_proofNow_13 14 rfl ?_
  refine x_imul C dX7_proofNow_14 15 rfl ?_
  refine x_isub C dX7_proofNow_15 16 rfl ?_
  obtain ⟨v16, e16, h⟩ := li_some h
  refine x_te e16 ?_
  refine x_istore_n C [(1, .int v16), (0, .ref (adr g 29))] dX7_proofNow_16 rfl (by decide) rfl 17 rfl ?_
  refine x_iconst C (v := -1) dX7_proofNow_17 (by decide) 18 rfl ?_
  refine x_istore_n C [(2, .int (-1)), (1, .int v16), (0, .ref (adr g 29))] dX7_proofNow_18 rfl (by decide) rfl 19 rfl ?_
  refine x_bipush C (v := 13) dX7_proofNow_19 (by decide) 21 rfl ?_
  refine x_istore_n C [(3, .int 13), (2, .int (-1)), (1, .int v16), (0, .ref (adr g 29))] dX7_proofNow_21 rfl (by decide) rfl 22 rfl ?_
  refine x_iconst C (v := 0) dX7_proofNow_22 (by decide) 23 rfl ?_
  refine x_istore C [(4, .int 0), (3, .int 13), (2, .int (-1)), (1, .int v16), (0, .ref (adr g 29))] dX7_proofNow_23 (by decide) rfl 25 rfl ?_
  exact x_sub [4, 3, 2, 1, 0] rfl (w_X7_proofNow_25 C  hE h ht)
set_option maxHeartbeats 4000000 in
set_option maxRecDepth 100000 in
theorem c_X7_proofNow {g : Gb} {l : Launch}   {σ : WD} {r : Int32} (h : f_X7_proofNow  σ = some r) : MC l g yX7_proofNow (.code yX7_proofNow cX7_proofNow 6 (some (.int))) (rmk 4 76) [.ref (adr g 29)] σ (some (.int r)) σ := by
  refine MC.of (by decide) (Nat.le_of_ble_eq_true rfl) (fun x C hl hr hq => ?_)
  subst hl
  exact w_X7_proofNow (E := fun z => z = r) C  (fun a he pc lv hd => by cases he; exact x_iret C hr hq hd) h rfl
set_option maxHeartbeats 4000000 in
set_option maxRecDepth 100000 in
theorem w_X7_step_41 {x : Cx} {g : Gb} {E : Int32 → Prop} (C : CF x g RX7 cX7_step 5 (rmk 2 23))  {l4 : Int32} {σ : WD} (hE : ∀ (a : Int32), E a → ∀ pc lv, decode cX7_step pc = .ok (.ireturn, 1) → WW x g 5 0 0 pc lv [.int a] σ) {t : Int32} (h : f_X7_step_41 l4 σ = some t) (ht : E t) : WW x g 5 0 0 41 [(0, .ref (adr g 29)), (4, .int l4)] [] σ := by
  unfold f_X7_step_41 at h
  refine x_iload C dX7_step_41 1 rfl 43 rfl ?_
  refine x_aload_n C dX7_step_43 rfl 0 rfl 44 rfl ?_
  refine gf_759_29 C dX7_step_44 47 rfl ?_
  refine x_icmp_ge C dX7_step_47 55 (by decide) 50 rfl (fun hc => ?_) (fun hc => ?_)
  · have h := ip hc h
    refine x_iconst C (v := -1) dX7_step_55 (by decide) 56 rfl ?_
    cases h
    exact hE _ ht 56 _ dX7_step_56
  · have h := iq hc h
    refine x_iload C dX7_step_50 1 rfl 52 rfl ?_
    refine x_goto C dX7_step_52 56 (by decide) ?_
    cases h
    exact hE _ ht 56 _ dX7_step_56
set_option maxHeartbeats 4000000 in
set_option maxRecDepth 100000 in
theorem w_X7_step_b3 {x : Cx} {g : Gb} {E : (Int32) ⊕ (Int32) → Prop} (C : CF x g RX7 cX7_step 5 (rmk 2 23))  {l1 : Int32} {l2 : Int32} {l4 : Int32} {σ : WD} (hI0 : ∀ s, E (.inl s) → WW x g 5 0 0 3 [(0, .ref (adr g 29)), (1, .int l1), (2, .int l2), (4, .int s)] [] σ) (hE : ∀ (a : Int32), E (.inr a) → ∀ pc lv, decode cX7_step pc = .ok (.ireturn, 1) → WW x g 5 0 0 pc lv [.int a] σ) {t : (Int32) ⊕ (Int32)} (h : f_X7_step_b3 l1 l2 l4 σ = some t) (ht : E t) : WW x g 5 0 0 3 [(0, .ref (adr g 29)), (1, .int l1), (2, .int l2), (4, .int l4)] [] σ := by
  unfold f_X7_step_b3 at h
  refine x_iload C dX7_step_3 3 rfl 5 rfl ?_
  refine x_aload_n C dX7_step_5 rfl 0 rfl 6 rfl ?_
  refine gf_759_29 C dX7_step_6 9 rfl ?_
  refine x_icmp_ge C dX7_step_9 41 (by decide) 12 rfl (fun hc => ?_) (fun hc => ?_)
  · have h := ip hc h
    obtain ⟨_, hm0, rfl⟩ := mr_some h
    exact x_sub [0, 3] rfl (w_X7_step_41 (E := fun r => E (.inr r)) C  hE hm0 ht)
  · have h := iq hc h
    refine x_aload_n C dX7_step_12 rfl 0 rfl 13 rfl ?_
    refine gf_760_29 C dX7_step_13 16 rfl ?_
    refine x_iload_n C dX7_step_16 rfl 1 rfl 17 rfl ?_
    obtain ⟨hin, h⟩ := gi_some h
    refine x_iald C 30 (gt_30 g _) hin dX7_step_17 18 rfl ?_
    refine x_iload C dX7_step_18 3 rfl 20 rfl ?_
    obtain ⟨r20, h20, h⟩ := bv_some h
    refine x_callS C [.int (σ.1 30 (l1 : Int32).toNatClampNeg), .int l4] (c_X7_has  h20) mi_X7_has q_839 rfl ⟨rfl, rfl⟩ ⟨Nat.le_of_ble_eq_true rfl, Nat.le_of_ble_eq_true rfl⟩ ⟨Nat.zero_le _, Nat.zero_le _⟩ _ rfl (Nat.le_of_ble_eq_true rfl) dX7_step_20 23 rfl ?_
    refine x_if_eq C dX7_step_23 35 (by decide) 26 rfl (fun hc => ?_) (fun hc => ?_)
    · have h := ip hc h
      refine x_iinc C [(4, .int (l4 + 1)), (0, .ref (adr g 29)), (1, .int l1), (2, .int l2)] dX7_step_35 3 rfl rfl (by decide) rfl 38 rfl ?_
      refine x_goto C dX7_step_38 3 (by decide) ?_
      cases h
      exact x_sub [1, 2, 3, 0] rfl (hI0 (l4 + 1) ht)
    · have h := iq hc h
      refine x_iload_n C dX7_step_26 rfl 2 rfl 27 rfl ?_
      refine x_iload C dX7_step_27 3 rfl 29 rfl ?_
      obtain ⟨r29, h29, h⟩ := bv_some h
      refine x_callS C [.int l2, .int l4] (c_X7_has  h29) mi_X7_has q_839 rfl ⟨rfl, rfl⟩ ⟨Nat.le_of_ble_eq_true rfl, Nat.le_of_ble_eq_true rfl⟩ ⟨Nat.zero_le _, Nat.zero_le _⟩ _ rfl (Nat.le_of_ble_eq_true rfl) dX7_step_29 32 rfl ?_
      refine x_if_eq C dX7_step_32 41 (by decide) 35 rfl (fun hc => ?_) (fun hc => ?_)
      · have h := ip hc h
        obtain ⟨_, hm0, rfl⟩ := mr_some h
        exact x_sub [0, 3] rfl (w_X7_step_41 (E := fun r => E (.inr r)) C  hE hm0 ht)
      · have h := iq hc h
        refine x_iinc C [(4, .int (l4 + 1)), (0, .ref (adr g 29)), (1, .int l1), (2, .int l2)] dX7_step_35 3 rfl rfl (by decide) rfl 38 rfl ?_
        refine x_goto C dX7_step_38 3 (by decide) ?_
        cases h
        exact x_sub [1, 2, 3, 0] rfl (hI0 (l4 + 1) ht)
set_option maxHeartbeats 4000000 in
set_option maxRecDepth 100000 in
theorem w_X7_step_3 {x : Cx} {g : Gb} {E : Int32 → Prop} (C : CF x g RX7 cX7_step 5 (rmk 2 23))  {l1 : Int32} {l2 : Int32} {l4 : Int32} {σ : WD} (hE : ∀ (a : Int32), E a → ∀ pc lv, decode cX7_step pc = .ok (.ireturn, 1) → WW x g 5 0 0 pc lv [.int a] σ) {t : Int32} (h : f_X7_step_3 l1 l2 l4 σ = some t) (ht : E t) : WW x g 5 0 0 3 [(0, .ref (adr g 29)), (1, .int l1), (2, .int l2), (4, .int l4)] [] σ := by
  unfold f_X7_step_3 at h
  exact lp_ind (fun s : Int32 => WW x g 5 0 0 3 [(0, .ref (adr g 29)), (1, .int l1), (2, .int l2), (4, .int s)] [] σ) E h ht (fun s y hb hy => w_X7_step_b3 (E := Sum.elim (fun s : Int32 => WW x g 5 0 0 3 [(0, .ref (adr g 29)), (1, .int l1), (2, .int l2), (4, .int s)] [] σ) E) C  (fun _ h => h)  hE hb hy)
set_option maxHeartbeats 4000000 in
set_option maxRecDepth 100000 in
theorem w_X7_step {x : Cx} {g : Gb} {E : Int32 → Prop} (C : CF x g RX7 cX7_step 5 (rmk 2 23))  {a1 : Int32} {a2 : Int32} {a3 : Int32} {σ : WD} (hE : ∀ (a : Int32), E a → ∀ pc lv, decode cX7_step pc = .ok (.ireturn, 1) → WW x g 5 0 0 pc lv [.int a] σ) {t : Int32} (h : f_X7_step a1 a2 a3 σ = some t) (ht : E t) : WW x g 5 0 0 0 [(0, .ref (adr g 29)), (1, .int a1), (2, .int a2), (3, .int a3)] [] σ := by
  unfold f_X7_step at h
  refine x_iload_n C dX7_step_0 rfl 3 rfl 1 rfl ?_
  refine x_istore C [(4, .int a3), (0, .ref (adr g 29)), (1, .int a1), (2, .int a2), (3, .int a3)] dX7_step_1 (by decide) rfl 3 rfl ?_
  exact x_sub [1, 2, 3, 0] rfl (w_X7_step_3 C  hE h ht)
set_option maxHeartbeats 4000000 in
set_option maxRecDepth 100000 in
theorem c_X7_step {g : Gb} {l : Launch}  {a1 : Int32} {a2 : Int32} {a3 : Int32} {σ : WD} {r : Int32} (h : f_X7_step a1 a2 a3 σ = some r) : MC l g yX7_step (.code yX7_step cX7_step 5 (some (.int))) (rmk 2 23) [.ref (adr g 29), .int a1, .int a2, .int a3] σ (some (.int r)) σ := by
  refine MC.of (by decide) (Nat.le_of_ble_eq_true rfl) (fun x C hl hr hq => ?_)
  subst hl
  exact w_X7_step (E := fun z => z = r) C  (fun a he pc lv hd => by cases he; exact x_iret C hr hq hd) h rfl
set_option maxHeartbeats 4000000 in
set_option maxRecDepth 100000 in
theorem w_X7_goThrough_170 {x : Cx} {g : Gb} {E : (Int32 × Int32 × WD) ⊕ (Int32 × WD) → Prop} (C : CF x g RX7 cX7_goThrough 6 (rmk 3 48))  {l2 : Int32} {l3 : Int32} {l4 : Int32} {l5 : Int32} {σ : WD} (hI0 : ∀ s, E (.inl s) → WW x g 6 0 0 33 [(0, .ref (adr g 29)), (2, .int l2), (3, .int s.1), (4, .int s.2.1)] [] s.2.2) (hE : ∀ (a : Int32) (s2 : WD), E (.inr (a, s2)) → ∀ pc lv, narrow .boolean (.int a) = .int a → decode cX7_goThrough pc = .ok (.ireturn, 1) → WW x g 6 0 0 pc lv [.int a] s2) {t : (Int32 × Int32 × WD) ⊕ (Int32 × WD)} (h : f_X7_goThrough_170 l2 l3 l4 l5 σ = some t) (ht : E t) : WW x g 6 0 0 170 [(0, .ref (adr g 29)), (2, .int l2), (3, .int l3), (4, .int l4), (5, .int l5)] [] σ := by
  unfold f_X7_goThrough_170 at h
  refine x_aload_n C dX7_goThrough_170 rfl 0 rfl 171 rfl ?_
  refine gf_761_29 C dX7_goThrough_171 174 rfl ?_
  refine x_iload C dX7_goThrough_174 4 rfl 176 rfl ?_
  obtain ⟨hin, h⟩ := gi_some h
  refine x_iald C 31 (gt_31 g _) hin dX7_goThrough_176 177 rfl ?_
  refine x_iconst C (v := -1) dX7_goThrough_177 (by decide) 178 rfl ?_
  refine x_icmp_eq C dX7_goThrough_178 243 (by decide) 181 rfl (fun hc => ?_) (fun hc => ?_)
  · have h := ip hc h
    refine x_goto C dX7_goThrough_243 33 (by decide) ?_
    cases h
    exact x_sub [0, 1, 2, 3] rfl (hI0 (l3, l4, σ) ht)
  · have h := iq hc h
    refine x_aload_n C dX7_goThrough_181 rfl 0 rfl 182 rfl ?_
    refine gf_769_29 C dX7_goThrough_182 185 rfl ?_
    refine x_iload_n C dX7_goThrough_185 rfl 2 rfl 186 rfl ?_
    refine x_iconst C (v := 2) dX7_goThrough_186 (by decide) 187 rfl ?_
    refine x_iadd C dX7_goThrough_187 188 rfl ?_
    refine x_aload_n C dX7_goThrough_188 rfl 0 rfl 189 rfl ?_
    refine gf_761_29 C dX7_goThrough_189 192 rfl ?_
    refine x_iload C dX7_goThrough_192 4 rfl 194 rfl ?_
    obtain ⟨hin, h⟩ := gi_some h
    refine x_iald C 31 (gt_31 g _) hin dX7_goThrough_194 195 rfl ?_
    obtain ⟨hin, h⟩ := gi_some h
    refine x_iast C 37 (gt_37 g _) (st_37 g _) hin dX7_goThrough_195 196 rfl ?_
    obtain ⟨σ195, e195, h⟩ := lt_some h
    refine x_we e195 ?_
    refine x_aload_n C dX7_goThrough_196 rfl 0 rfl 197 rfl ?_
    refine x_dup C dX7_goThrough_197 rfl 198 rfl ?_
    refine gf_772_29 C dX7_goThrough_198 201 rfl ?_
    refine x_iconst C (v := 1) dX7_goThrough_201 (by decide) 202 rfl ?_
    refine x_aload_n C dX7_goThrough_202 rfl 0 rfl 203 rfl ?_
    refine gf_761_29 C dX7_goThrough_203 206 rfl ?_
    refine x_iload C dX7_goThrough_206 4 rfl 208 rfl ?_
    obtain ⟨hin, h⟩ := gi_some h
    refine x_iald C 31 (gt_31 g _) hin dX7_goThrough_208 209 rfl ?_
    refine x_ishl C dX7_goThrough_209 210 rfl ?_
    refine x_ior C dX7_goThrough_210 211 rfl ?_
    refine pf_772_29 C dX7_goThrough_211 214 rfl ?_
    obtain ⟨σ211, e211, h⟩ := lt_some h
    refine x_we e211 ?_
    refine x_iload C dX7_goThrough_214 3 rfl 216 rfl ?_
    refine x_iconst C (v := 1) dX7_goThrough_216 (by decide) 217 rfl ?_
    refine x_iload C dX7_goThrough_217 4 rfl 219 rfl ?_
    refine x_ishl C dX7_goThrough_219 220 rfl ?_
    refine x_iconst C (v := 1) dX7_goThrough_220 (by decide) 221 rfl ?_
    refine x_aload_n C dX7_goThrough_221 rfl 0 rfl 222 rfl ?_
    refine gf_761_29 C dX7_goThrough_222 225 rfl ?_
    refine x_iload C dX7_goThrough_225 4 rfl 227 rfl ?_
    obtain ⟨hin, h⟩ := gi_some h
    refine x_iald C 31 (gt_31 g _) hin dX7_goThrough_227 228 rfl ?_
    refine x_ishl C dX7_goThrough_228 229 rfl ?_
    refine x_ior C dX7_goThrough_229 230 rfl ?_
    refine x_ior C dX7_goThrough_230 231 rfl ?_
    obtain ⟨v231, e231, h⟩ := li_some h
    refine x_te e231 ?_
    refine x_istore C [(4, .int v231), (0, .ref (adr g 29)), (2, .int l2), (3, .int l3), (5, .int l5)] dX7_goThrough_231 (by decide) rfl 233 rfl ?_
    refine x_iinc C [(3, .int (l3 + 2)), (4, .int v231), (0, .ref (adr g 29)), (2, .int l2), (5, .int l5)] dX7_goThrough_233 3 rfl rfl (by decide) rfl 236 rfl ?_
    refine x_aload_n C dX7_goThrough_236 rfl 2 rfl 237 rfl ?_
    refine gf_770_29 C dX7_goThrough_237 240 rfl ?_
    refine x_iload_n C dX7_goThrough_240 rfl 0 rfl 241 rfl ?_
    refine x_iconst C (v := 0) dX7_goThrough_241 (by decide) 242 rfl ?_
    obtain ⟨hin, h⟩ := gi_some h
    refine x_iast C 38 (gt_38 g _) (st_38 g _) hin dX7_goThrough_242 243 rfl ?_
    obtain ⟨σ242, e242, h⟩ := lt_some h
    refine x_we e242 ?_
    refine x_goto C dX7_goThrough_243 33 (by decide) ?_
    cases h
    exact x_sub [2, 3, 0, 1] rfl (hI0 ((l3 + 2), v231, σ242) ht)
set_option maxHeartbeats 4000000 in
set_option maxRecDepth 100000 in
theorem w_X7_goThrough_108 {x : Cx} {g : Gb} {E : (Int32 × Int32 × WD) ⊕ (Int32 × WD) → Prop} (C : CF x g RX7 cX7_goThrough 6 (rmk 3 48))  {l2 : Int32} {l3 : Int32} {s0 : Int32} {s1 : Int32} {σ : WD} (hI0 : ∀ s, E (.inl s) → WW x g 6 0 0 33 [(0, .ref (adr g 29)), (2, .int l2), (3, .int s.1), (4, .int s.2.1)] [] s.2.2) (hE : ∀ (a : Int32) (s2 : WD), E (.inr (a, s2)) → ∀ pc lv, narrow .boolean (.int a) = .int a → decode cX7_goThrough pc = .ok (.ireturn, 1) → WW x g 6 0 0 pc lv [.int a] s2) {t : (Int32 × Int32 × WD) ⊕ (Int32 × WD)} (h : f_X7_goThrough_108 l2 l3 s0 s1 σ = some t) (ht : E t) : WW x g 6 0 0 108 [(0, .ref (adr g 29)), (2, .int l2), (3, .int l3)] [.int s0, .int s1] σ := by
  unfold f_X7_goThrough_108 at h
  refine x_iand C dX7_goThrough_108 109 rfl ?_
  refine x_istore C [(4, .int (s1 &&& s0)), (0, .ref (adr g 29)), (2, .int l2), (3, .int l3)] dX7_goThrough_109 (by decide) rfl 111 rfl ?_
  refine x_iinc C [(3, .int (l3 + (-2))), (4, .int (s1 &&& s0)), (0, .ref (adr g 29)), (2, .int l2)] dX7_goThrough_111 3 rfl rfl (by decide) rfl 114 rfl ?_
  refine x_goto C dX7_goThrough_114 243 (by decide) ?_
  refine x_goto C dX7_goThrough_243 33 (by decide) ?_
  cases h
  exact x_sub [2, 3, 0, 1] rfl (hI0 ((l3 + (-2)), (s1 &&& s0), σ) ht)
set_option maxHeartbeats 4000000 in
set_option maxRecDepth 100000 in
theorem w_X7_goThrough_66 {x : Cx} {g : Gb} {E : (Int32 × Int32 × WD) ⊕ (Int32 × WD) → Prop} (C : CF x g RX7 cX7_goThrough 6 (rmk 3 48))  {l2 : Int32} {l3 : Int32} {l4 : Int32} {s0 : Int32} {σ : WD} (hI0 : ∀ s, E (.inl s) → WW x g 6 0 0 33 [(0, .ref (adr g 29)), (2, .int l2), (3, .int s.1), (4, .int s.2.1)] [] s.2.2) (hE : ∀ (a : Int32) (s2 : WD), E (.inr (a, s2)) → ∀ pc lv, narrow .boolean (.int a) = .int a → decode cX7_goThrough pc = .ok (.ireturn, 1) → WW x g 6 0 0 pc lv [.int a] s2) {t : (Int32 × Int32 × WD) ⊕ (Int32 × WD)} (h : f_X7_goThrough_66 l2 l3 l4 s0 σ = some t) (ht : E t) : WW x g 6 0 0 66 [(0, .ref (adr g 29)), (2, .int l2), (3, .int l3), (4, .int l4)] [.int s0] σ := by
  unfold f_X7_goThrough_66 at h
  refine x_istore C [(5, .int s0), (0, .ref (adr g 29)), (2, .int l2), (3, .int l3), (4, .int l4)] dX7_goThrough_66 (by decide) rfl 68 rfl ?_
  refine x_iload C dX7_goThrough_68 0 rfl 70 rfl ?_
  refine x_iconst C (v := -1) dX7_goThrough_70 (by decide) 71 rfl ?_
  refine x_icmp_ne C dX7_goThrough_71 117 (by decide) 74 rfl (fun hc => ?_) (fun hc => ?_)
  · have h := iq hc h
    refine x_aload_n C dX7_goThrough_117 rfl 1 rfl 118 rfl ?_
    refine gf_770_29 C dX7_goThrough_118 121 rfl ?_
    refine x_iload_n C dX7_goThrough_121 rfl 3 rfl 122 rfl ?_
    refine x_iload C dX7_goThrough_122 0 rfl 124 rfl ?_
    refine x_iconst C (v := 1) dX7_goThrough_124 (by decide) 125 rfl ?_
    refine x_iadd C dX7_goThrough_125 126 rfl ?_
    obtain ⟨hin, h⟩ := gi_some h
    refine x_iast C 38 (gt_38 g _) (st_38 g _) hin dX7_goThrough_126 127 rfl ?_
    obtain ⟨σ126, e126, h⟩ := lt_some h
    refine x_we e126 ?_
    refine x_aload_n C dX7_goThrough_127 rfl 1 rfl 128 rfl ?_
    refine x_dup C dX7_goThrough_128 rfl 129 rfl ?_
    refine gf_771_29 C dX7_goThrough_129 132 rfl ?_
    refine x_iconst C (v := 1) dX7_goThrough_132 (by decide) 133 rfl ?_
    refine x_iload C dX7_goThrough_133 0 rfl 135 rfl ?_
    refine x_ishl C dX7_goThrough_135 136 rfl ?_
    refine x_ior C dX7_goThrough_136 137 rfl ?_
    refine pf_771_29 C dX7_goThrough_137 140 rfl ?_
    obtain ⟨σ137, e137, h⟩ := lt_some h
    refine x_we e137 ?_
    refine x_aload_n C dX7_goThrough_140 rfl 1 rfl 141 rfl ?_
    refine gf_769_29 C dX7_goThrough_141 144 rfl ?_
    refine x_iload_n C dX7_goThrough_144 rfl 3 rfl 145 rfl ?_
    refine x_iconst C (v := 1) dX7_goThrough_145 (by decide) 146 rfl ?_
    refine x_iadd C dX7_goThrough_146 147 rfl ?_
    refine x_iload C dX7_goThrough_147 0 rfl 149 rfl ?_
    obtain ⟨hin, h⟩ := gi_some h
    refine x_iast C 37 (gt_37 g _) (st_37 g _) hin dX7_goThrough_149 150 rfl ?_
    obtain ⟨σ149, e149, h⟩ := lt_some h
    refine x_we e149 ?_
    refine x_aload_n C dX7_goThrough_150 rfl 1 rfl 151 rfl ?_
    refine gf_761_29 C dX7_goThrough_151 154 rfl ?_
    refine x_iload C dX7_goThrough_154 0 rfl 156 rfl ?_
    obtain ⟨hin, h⟩ := gi_some h
    refine x_iald C 31 (gt_31 g _) hin dX7_goThrough_156 157 rfl ?_
    refine x_iconst C (v := -1) dX7_goThrough_157 (by decide) 158 rfl ?_
    refine x_icmp_ne C dX7_goThrough_158 170 (by decide) 161 rfl (fun hc => ?_) (fun hc => ?_)
    · have h := iq hc h
      exact x_sub [1, 2, 3, 4, 0] rfl (w_X7_goThrough_170 C  hI0 hE h ht)
    · have h := ip hc h
      refine x_iload_n C dX7_goThrough_161 rfl 3 rfl 162 rfl ?_
      refine x_iconst C (v := 1) dX7_goThrough_162 (by decide) 163 rfl ?_
      refine x_iadd C dX7_goThrough_163 164 rfl ?_
      refine x_iload_n C dX7_goThrough_164 rfl 2 rfl 165 rfl ?_
      refine x_icmp_ne C dX7_goThrough_165 170 (by decide) 168 rfl (fun hc => ?_) (fun hc => ?_)
      · have h := iq hc h
        exact x_sub [1, 2, 3, 4, 0] rfl (w_X7_goThrough_170 C  hI0 hE h ht)
      · have h := ip hc h
        refine x_iconst C (v := 1) dX7_goThrough_168 (by decide) 169 rfl ?_
        cases h
        exact hE _ _ ht 169 _ rfl dX7_goThrough_169
  · have h := ip hc h
    refine x_iload C dX7_goThrough_74 4 rfl 76 rfl ?_
    refine x_iload_n C dX7_goThrough_76 rfl 3 rfl 77 rfl ?_
    refine x_if_le C dX7_goThrough_77 106 (by decide) 80 rfl (fun hc => ?_) (fun hc => ?_)
    · have h := ip hc h
      refine x_iload C dX7_goThrough_106 4 rfl 108 rfl ?_
      exact x_sub [1, 2, 3] rfl (w_X7_goThrough_108 C  hI0 hE h ht)
    · have h := iq hc h
      refine x_iconst C (v := 1) dX7_goThrough_80 (by decide) 81 rfl ?_
      refine x_aload_n C dX7_goThrough_81 rfl 1 rfl 82 rfl ?_
      refine gf_769_29 C dX7_goThrough_82 85 rfl ?_
      refine x_iload_n C dX7_goThrough_85 rfl 3 rfl 86 rfl ?_
      obtain ⟨hin, h⟩ := gi_some h
      refine x_iald C 37 (gt_37 g _) hin dX7_goThrough_86 87 rfl ?_
      refine x_ishl C dX7_goThrough_87 88 rfl ?_
      refine x_iconst C (v := -1) dX7_goThrough_88 (by decide) 89 rfl ?_
      refine x_ixor C dX7_goThrough_89 90 rfl ?_
      refine x_iconst C (v := 1) dX7_goThrough_90 (by decide) 91 rfl ?_
      refine x_aload_n C dX7_goThrough_91 rfl 1 rfl 92 rfl ?_
      refine gf_769_29 C dX7_goThrough_92 95 rfl ?_
      refine x_iload_n C dX7_goThrough_95 rfl 3 rfl 96 rfl ?_
      refine x_iconst C (v := 1) dX7_goThrough_96 (by decide) 97 rfl ?_
      refine x_isub C dX7_goThrough_97 98 rfl ?_
      obtain ⟨hin, h⟩ := gi_some h
      refine x_iald C 37 (gt_37 g _) hin dX7_goThrough_98 99 rfl ?_
      refine x_ishl C dX7_goThrough_99 100 rfl ?_
      refine x_iconst C (v := -1) dX7_goThrough_100 (by decide) 101 rfl ?_
      refine x_ixor C dX7_goThrough_101 102 rfl ?_
      refine x_iand C dX7_goThrough_102 103 rfl ?_
      refine x_goto C dX7_goThrough_103 108 (by decide) ?_
      exact x_sub [1, 2, 3] rfl (w_X7_goThrough_108 C  hI0 hE h ht)
set_option maxHeartbeats 4000000 in
set_option maxRecDepth 100000 in
theorem w_X7_goThrough_b33 {x : Cx} {g : Gb} {E : (Int32 × Int32 × WD) ⊕ (Int32 × WD) → Prop} (C : CF x g RX7 cX7_goThrough 6 (rmk 3 48))  {l2 : Int32} {l3 : Int32} {l4 : Int32} {σ : WD} (hI0 : ∀ s, E (.inl s) → WW x g 6 0 0 33 [(0, .ref (adr g 29)), (2, .int l2), (3, .int s.1), (4, .int s.2.1)] [] s.2.2) (hE : ∀ (a : Int32) (s2 : WD), E (.inr (a, s2)) → ∀ pc lv, narrow .boolean (.int a) = .int a → decode cX7_goThrough pc = .ok (.ireturn, 1) → WW x g 6 0 0 pc lv [.int a] s2) {t : (Int32 × Int32 × WD) ⊕ (Int32 × WD)} (h : f_X7_goThrough_b33 l2 l3 l4 σ = some t) (ht : E t) : WW x g 6 0 0 33 [(0, .ref (adr g 29)), (2, .int l2), (3, .int l3), (4, .int l4)] [] σ := by
  unfold f_X7_goThrough_b33 at h
  refine x_iload_n C dX7_goThrough_33 rfl 2 rfl 34 rfl ?_
  refine x_if_lt C dX7_goThrough_34 246 (by decide) 37 rfl (fun hc => ?_) (fun hc => ?_)
  · have h := ip hc h
    refine x_iconst C (v := 0) dX7_goThrough_246 (by decide) 247 rfl ?_
    cases h
    exact hE _ _ ht 247 _ rfl dX7_goThrough_247
  · have h := iq hc h
    refine x_iload_n C dX7_goThrough_37 rfl 2 rfl 38 rfl ?_
    refine x_iconst C (v := 1) dX7_goThrough_38 (by decide) 39 rfl ?_
    refine x_iadd C dX7_goThrough_39 40 rfl ?_
    refine x_iload_n C dX7_goThrough_40 rfl 1 rfl 41 rfl ?_
    refine x_icmp_gt C dX7_goThrough_41 65 (by decide) 44 rfl (fun hc => ?_) (fun hc => ?_)
    · have h := ip hc h
      refine x_iconst C (v := -1) dX7_goThrough_65 (by decide) 66 rfl ?_
      exact x_sub [0, 1, 2, 3] rfl (w_X7_goThrough_66 C  hI0 hE h ht)
    · have h := iq hc h
      refine x_aload_n C dX7_goThrough_44 rfl 0 rfl 45 rfl ?_
      refine x_aload_n C dX7_goThrough_45 rfl 0 rfl 46 rfl ?_
      refine gf_769_29 C dX7_goThrough_46 49 rfl ?_
      refine x_iload_n C dX7_goThrough_49 rfl 2 rfl 50 rfl ?_
      obtain ⟨hin, h⟩ := gi_some h
      refine x_iald C 37 (gt_37 g _) hin dX7_goThrough_50 51 rfl ?_
      refine x_iload C dX7_goThrough_51 3 rfl 53 rfl ?_
      refine x_aload_n C dX7_goThrough_53 rfl 0 rfl 54 rfl ?_
      refine gf_770_29 C dX7_goThrough_54 57 rfl ?_
      refine x_iload_n C dX7_goThrough_57 rfl 2 rfl 58 rfl ?_
      obtain ⟨hin, h⟩ := gi_some h
      refine x_iald C 38 (gt_38 g _) hin dX7_goThrough_58 59 rfl ?_
      obtain ⟨r59, h59, h⟩ := bv_some h
      refine x_callV C 29 [.int (σ.1 37 (l3 : Int32).toNatClampNeg), .int l4, .int (σ.1 38 (l3 : Int32).toNatClampNeg)] (c_X7_step  h59) mi_X7_step (gt_29 g _) rfl q_910 rfl ⟨rfl, rfl⟩ ⟨Nat.le_of_ble_eq_true rfl, Nat.le_of_ble_eq_true rfl⟩ ⟨Nat.zero_le _, Nat.zero_le _⟩ _ rfl (Nat.le_of_ble_eq_true rfl) dX7_goThrough_59 62 rfl ?_
      refine x_goto C dX7_goThrough_62 66 (by decide) ?_
      exact x_sub [0, 1, 2, 3] rfl (w_X7_goThrough_66 C  hI0 hE h ht)
set_option maxHeartbeats 4000000 in
set_option maxRecDepth 100000 in
theorem w_X7_goThrough_33 {x : Cx} {g : Gb} {E : Int32 × WD → Prop} (C : CF x g RX7 cX7_goThrough 6 (rmk 3 48))  {l2 : Int32} {l3 : Int32} {l4 : Int32} {σ : WD} (hE : ∀ (a : Int32) (s2 : WD), E (a, s2) → ∀ pc lv, narrow .boolean (.int a) = .int a → decode cX7_goThrough pc = .ok (.ireturn, 1) → WW x g 6 0 0 pc lv [.int a] s2) {t : Int32 × WD} (h : f_X7_goThrough_33 l2 l3 l4 σ = some t) (ht : E t) : WW x g 6 0 0 33 [(0, .ref (adr g 29)), (2, .int l2), (3, .int l3), (4, .int l4)] [] σ := by
  unfold f_X7_goThrough_33 at h
  exact lp_ind (fun s : Int32 × Int32 × WD => WW x g 6 0 0 33 [(0, .ref (adr g 29)), (2, .int l2), (3, .int s.1), (4, .int s.2.1)] [] s.2.2) E h ht (fun s y hb hy => w_X7_goThrough_b33 (E := Sum.elim (fun s : Int32 × Int32 × WD => WW x g 6 0 0 33 [(0, .ref (adr g 29)), (2, .int l2), (3, .int s.1), (4, .int s.2.1)] [] s.2.2) E) C  (fun _ h => h)  hE hb hy)
set_option maxHeartbeats 4000000 in
set_option maxRecDepth 100000 in
theorem w_X7_goThrough {x : Cx} {g : Gb} {E : Int32 × WD → Prop} (C : CF x g RX7 cX7_goThrough 6 (rmk 3 48))  {a1 : Int32} {a2 : Int32} {σ : WD} (hE : ∀ (a : Int32) (s2 : WD), E (a, s2) → ∀ pc lv, narrow .boolean (.int a) = .int a → decode cX7_goThrough pc = .ok (.ireturn, 1) → WW x g 6 0 0 pc lv [.int a] s2) {t : Int32 × WD} (h : f_X7_goThrough a1 a2 σ = some t) (ht : E t) : WW x g 6 0 0 0 [(0, .ref (adr g 29)), (1, .int a1), (2, .int a2)] [] σ := by
  unfold f_X7_goThrough at h
  refine x_iconst C (v := 0) dX7_goThrough_0 (by decide) 1 rfl ?_
  refine x_istore_n C [(3, .int 0), (0, .ref (adr g 29)), (1, .int a1), (2, .int a2)] dX7_goThrough_1 rfl (by decide) rfl 2 rfl ?_
  refine x_iconst C (v := 1) dX7_goThrough_2 (by decide) 3 rfl ?_
  refine x_iload_n C dX7_goThrough_3 rfl 2 rfl 4 rfl ?_
  refine x_ishl C dX7_goThrough_4 5 rfl ?_
  obtain ⟨v5, e5, h⟩ := li_some h
  refine x_te e5 ?_
  refine x_istore C [(4, .int v5), (3, .int 0), (0, .ref (adr g 29)), (1, .int a1), (2, .int a2)] dX7_goThrough_5 (by decide) rfl 7 rfl ?_
  refine x_aload_n C dX7_goThrough_7 rfl 2 rfl 8 rfl ?_
  refine gf_769_29 C dX7_goThrough_8 11 rfl ?_
  refine x_iconst C (v := 0) dX7_goThrough_11 (by decide) 12 rfl ?_
  refine x_iload_n C dX7_goThrough_12 rfl 3 rfl 13 rfl ?_
  obtain ⟨hin, h⟩ := gi_some h
  refine x_iast C 37 (gt_37 g _) (st_37 g _) hin dX7_goThrough_13 14 rfl ?_
  obtain ⟨σ13, e13, h⟩ := lt_some h
  refine x_we e13 ?_
  refine x_aload_n C dX7_goThrough_14 rfl 2 rfl 15 rfl ?_
  refine gf_770_29 C dX7_goThrough_15 18 rfl ?_
  refine x_iconst C (v := 0) dX7_goThrough_18 (by decide) 19 rfl ?_
  refine x_iconst C (v := 0) dX7_goThrough_19 (by decide) 20 rfl ?_
  obtain ⟨hin, h⟩ := gi_some h
  refine x_iast C 38 (gt_38 g _) (st_38 g _) hin dX7_goThrough_20 21 rfl ?_
  obtain ⟨σ20, e20, h⟩ := lt_some h
  refine x_we e20 ?_
  refine x_aload_n C dX7_goThrough_21 rfl 2 rfl 22 rfl ?_
  refine x_iconst C (v := 0) dX7_goThrough_22 (by decide) 23 rfl ?_
  refine pf_771_29 C dX7_goThrough_23 26 rfl ?_
  obtain ⟨σ23, e23, h⟩ := lt_some h
  refine x_we e23 ?_
  refine x_aload_n C dX7_goThrough_26 rfl 2 rfl 27 rfl ?_
  refine x_iconst C (v := 1) dX7_goThrough_27 (by decide) 28 rfl ?_
  refine x_iload_n C dX7_goThrough_28 rfl 3 rfl 29 rfl ?_
  refine x_ishl C dX7_goThrough_29 30 rfl ?_
  refine pf_772_29 C dX7_goThrough_30 33 rfl ?_
  obtain ⟨σ30, e30, h⟩ := lt_some h
  refine x_we e30 ?_
  exact x_sub [2, 4, 1, 0] rfl (w_X7_goThrough_33 C  hE h ht)
set_option maxHeartbeats 4000000 in
set_option maxRecDepth 100000 in
theorem c_X7_goThrough {g : Gb} {l : Launch}  {a1 : Int32} {a2 : Int32} {σ : WD} {r : Int32} {σ2 : WD} (h : f_X7_goThrough a1 a2 σ = some (r, σ2)) : MC l g yX7_goThrough (.code yX7_goThrough cX7_goThrough 6 (some (.boolean))) (rmk 3 48) [.ref (adr g 29), .int a1, .int a2] σ (some (.int r)) σ2 := by
  refine MC.of (by decide) (Nat.le_of_ble_eq_true rfl) (fun x C hl hr hq => ?_)
  subst hl
  exact w_X7_goThrough (E := fun z => z = (r, σ2)) C  (fun a s2 he pc lv hn hd => by cases he; exact x_zret C hr hq hn hd) h rfl
set_option maxHeartbeats 4000000 in
set_option maxRecDepth 100000 in
theorem w_X7_layWay_25 {x : Cx} {g : Gb} {E : Int32 × WD → Prop} (C : CF x g RX7 cX7_layWay 3 (rmk 4 74))  {l2 : Int32} {σ : WD} (hE : ∀ (a : Int32) (s2 : WD), E (a, s2) → ∀ pc lv, decode cX7_layWay pc = .ok (.ireturn, 1) → WW x g 3 0 0 pc lv [.int a] s2) {t : Int32 × WD} (h : f_X7_layWay_25 l2 σ = some t) (ht : E t) : WW x g 3 0 0 25 [(0, .ref (adr g 29)), (2, .int l2)] [] σ := by
  unfold f_X7_layWay_25 at h
  refine x_iload_n C dX7_layWay_25 rfl 1 rfl 26 rfl ?_
  refine x_aload_n C dX7_layWay_26 rfl 0 rfl 27 rfl ?_
  refine gf_759_29 C dX7_layWay_27 30 rfl ?_
  refine x_icmp_ge C dX7_layWay_30 37 (by decide) 33 rfl (fun hc => ?_) (fun hc => ?_)
  · have h := ip hc h
    refine x_iconst C (v := 0) dX7_layWay_37 (by decide) 38 rfl ?_
    cases h
    exact hE _ _ ht 38 _ dX7_layWay_38
  · have h := iq hc h
    refine x_iload_n C dX7_layWay_33 rfl 1 rfl 34 rfl ?_
    refine x_goto C dX7_layWay_34 38 (by decide) ?_
    cases h
    exact hE _ _ ht 38 _ dX7_layWay_38
set_option maxHeartbeats 4000000 in
set_option maxRecDepth 100000 in
theorem w_X7_layWay_b2 {x : Cx} {g : Gb} {E : (Int32 × WD) ⊕ (Int32 × WD) → Prop} (C : CF x g RX7 cX7_layWay 3 (rmk 4 74))  {l1 : Int32} {l2 : Int32} {σ : WD} (hI0 : ∀ s, E (.inl s) → WW x g 3 0 0 2 [(0, .ref (adr g 29)), (1, .int l1), (2, .int s.1)] [] s.2) (hE : ∀ (a : Int32) (s2 : WD), E (.inr (a, s2)) → ∀ pc lv, decode cX7_layWay pc = .ok (.ireturn, 1) → WW x g 3 0 0 pc lv [.int a] s2) {t : (Int32 × WD) ⊕ (Int32 × WD)} (h : f_X7_layWay_b2 l1 l2 σ = some t) (ht : E t) : WW x g 3 0 0 2 [(0, .ref (adr g 29)), (1, .int l1), (2, .int l2)] [] σ := by
  unfold f_X7_layWay_b2 at h
  refine x_iload_n C dX7_layWay_2 rfl 2 rfl 3 rfl ?_
  refine x_aload_n C dX7_layWay_3 rfl 0 rfl 4 rfl ?_
  refine gf_759_29 C dX7_layWay_4 7 rfl ?_
  refine x_icmp_ge C dX7_layWay_7 25 (by decide) 10 rfl (fun hc => ?_) (fun hc => ?_)
  · have h := ip hc h
    obtain ⟨_, hm0, rfl⟩ := mr_some h
    exact x_sub [0, 2] rfl (w_X7_layWay_25 (E := fun r => E (.inr r)) C  hE hm0 ht)
  · have h := iq hc h
    refine x_aload_n C dX7_layWay_10 rfl 0 rfl 11 rfl ?_
    refine x_iload_n C dX7_layWay_11 rfl 1 rfl 12 rfl ?_
    refine x_iload_n C dX7_layWay_12 rfl 2 rfl 13 rfl ?_
    obtain ⟨r13, σ13, h13, h⟩ := bn_some h
    refine x_callV C 29 [.int l1, .int l2] (c_X7_goThrough  h13) mi_X7_goThrough (gt_29 g _) rfl q_906 rfl ⟨rfl, rfl⟩ ⟨Nat.le_of_ble_eq_true rfl, Nat.le_of_ble_eq_true rfl⟩ ⟨Nat.zero_le _, Nat.zero_le _⟩ _ rfl (Nat.le_of_ble_eq_true rfl) dX7_layWay_13 16 rfl ?_
    refine x_if_ne C dX7_layWay_16 25 (by decide) 19 rfl (fun hc => ?_) (fun hc => ?_)
    · have h := iq hc h
      obtain ⟨_, hm0, rfl⟩ := mr_some h
      exact x_sub [0, 2] rfl (w_X7_layWay_25 (E := fun r => E (.inr r)) C  hE hm0 ht)
    · have h := ip hc h
      refine x_iinc C [(2, .int (l2 + 2)), (0, .ref (adr g 29)), (1, .int l1)] dX7_layWay_19 2 rfl rfl (by decide) rfl 22 rfl ?_
      refine x_goto C dX7_layWay_22 2 (by decide) ?_
      cases h
      exact x_sub [1, 2, 0] rfl (hI0 ((l2 + 2), σ13) ht)
set_option maxHeartbeats 4000000 in
set_option maxRecDepth 100000 in
theorem w_X7_layWay_2 {x : Cx} {g : Gb} {E : Int32 × WD → Prop} (C : CF x g RX7 cX7_layWay 3 (rmk 4 74))  {l1 : Int32} {l2 : Int32} {σ : WD} (hE : ∀ (a : Int32) (s2 : WD), E (a, s2) → ∀ pc lv, decode cX7_layWay pc = .ok (.ireturn, 1) → WW x g 3 0 0 pc lv [.int a] s2) {t : Int32 × WD} (h : f_X7_layWay_2 l1 l2 σ = some t) (ht : E t) : WW x g 3 0 0 2 [(0, .ref (adr g 29)), (1, .int l1), (2, .int l2)] [] σ := by
  unfold f_X7_layWay_2 at h
  exact lp_ind (fun s : Int32 × WD => WW x g 3 0 0 2 [(0, .ref (adr g 29)), (1, .int l1), (2, .int s.1)] [] s.2) E h ht (fun s y hb hy => w_X7_layWay_b2 (E := Sum.elim (fun s : Int32 × WD => WW x g 3 0 0 2 [(0, .ref (adr g 29)), (1, .int l1), (2, .int s.1)] [] s.2) E) C  (fun _ h => h)  hE hb hy)
set_option maxHeartbeats 4000000 in
set_option maxRecDepth 100000 in
theorem w_X7_layWay {x : Cx} {g : Gb} {E : Int32 × WD → Prop} (C : CF x g RX7 cX7_layWay 3 (rmk 4 74))  {a1 : Int32} {σ : WD} (hE : ∀ (a : Int32) (s2 : WD), E (a, s2) → ∀ pc lv, decode cX7_layWay pc = .ok (.ireturn, 1) → WW x g 3 0 0 pc lv [.int a] s2) {t : Int32 × WD} (h : f_X7_layWay a1 σ = some t) (ht : E t) : WW x g 3 0 0 0 [(0, .ref (adr g 29)), (1, .int a1)] [] σ := by
  unfold f_X7_layWay at h
  refine x_iconst C (v := 1) dX7_layWay_0 (by decide) 1 rfl ?_
  refine x_istore_n C [(2, .int 1), (0, .ref (adr g 29)), (1, .int a1)] dX7_layWay_1 rfl (by decide) rfl 2 rfl ?_
  exact x_sub [1, 2, 0] rfl (w_X7_layWay_2 C  hE h ht)
set_option maxHeartbeats 4000000 in
set_option maxRecDepth 100000 in
theorem c_X7_layWay {g : Gb} {l : Launch}  {a1 : Int32} {σ : WD} {r : Int32} {σ2 : WD} (h : f_X7_layWay a1 σ = some (r, σ2)) : MC l g yX7_layWay (.code yX7_layWay cX7_layWay 3 (some (.int))) (rmk 4 74) [.ref (adr g 29), .int a1] σ (some (.int r)) σ2 := by
  refine MC.of (by decide) (Nat.le_of_ble_eq_true rfl) (fun x C hl hr hq => ?_)
  subst hl
  exact w_X7_layWay (E := fun z => z = (r, σ2)) C  (fun a s2 he pc lv hd => by cases he; exact x_iret C hr hq hd) h rfl
set_option maxHeartbeats 4000000 in
set_option maxRecDepth 100000 in
theorem w_X7_layReach {x : Cx} {g : Gb} {E : WD → Prop} (C : CF x g RX7 cX7_layReach 2 (rmk 4 74))  {a1 : Int32} {σ : WD} (hE : ∀ (s2 : WD), E s2 → ∀ pc lv, decode cX7_layReach pc = .ok (.return_, 1) → WW x g 2 0 0 pc lv [] s2) {t : WD} (h : f_X7_layReach a1 σ = some t) (ht : E t) : WW x g 2 0 0 0 [(0, .ref (adr g 29)), (1, .int a1)] [] σ := by
  unfold f_X7_layReach at h
  refine x_aload_n C dX7_layReach_0 rfl 0 rfl 1 rfl ?_
  refine x_iconst C (v := 0) dX7_layReach_1 (by decide) 2 rfl ?_
  refine pf_771_29 C dX7_layReach_2 5 rfl ?_
  obtain ⟨σ2, e2, h⟩ := lt_some h
  refine x_we e2 ?_
  refine x_aload_n C dX7_layReach_5 rfl 0 rfl 6 rfl ?_
  refine x_iconst C (v := 0) dX7_layReach_6 (by decide) 7 rfl ?_
  refine pf_772_29 C dX7_layReach_7 10 rfl ?_
  obtain ⟨σ7, e7, h⟩ := lt_some h
  refine x_we e7 ?_
  refine x_aload_n C dX7_layReach_10 rfl 0 rfl 11 rfl ?_
  refine gf_761_29 C dX7_layReach_11 14 rfl ?_
  refine x_iload_n C dX7_layReach_14 rfl 1 rfl 15 rfl ?_
  obtain ⟨hin, h⟩ := gi_some h
  refine x_iald C 31 (gt_31 g _) hin dX7_layReach_15 16 rfl ?_
  refine x_iconst C (v := -1) dX7_layReach_16 (by decide) 17 rfl ?_
  refine x_icmp_ne C dX7_layReach_17 28 (by decide) 20 rfl (fun hc => ?_) (fun hc => ?_)
  · have h := iq hc h
    cases h
    exact hE _ ht 28 _ dX7_layReach_28
  · have h := ip hc h
    refine x_aload_n C dX7_layReach_20 rfl 0 rfl 21 rfl ?_
    refine x_iload_n C dX7_layReach_21 rfl 1 rfl 22 rfl ?_
    refine x_bipush C (v := 13) dX7_layReach_22 (by decide) 24 rfl ?_
    obtain ⟨r24, σ24, h24, h⟩ := bn_some h
    refine x_callV C 29 [.int a1, .int 13] (c_X7_goThrough  h24) mi_X7_goThrough (gt_29 g _) rfl q_906 rfl ⟨rfl, rfl⟩ ⟨Nat.le_of_ble_eq_true rfl, Nat.le_of_ble_eq_true rfl⟩ ⟨Nat.zero_le _, Nat.zero_le _⟩ _ rfl (Nat.le_of_ble_eq_true rfl) dX7_layReach_24 27 rfl ?_
    refine x_pop C dX7_layReach_27 rfl 28 rfl ?_
    cases h
    exact hE _ ht 28 _ dX7_layReach_28
set_option maxHeartbeats 4000000 in
set_option maxRecDepth 100000 in
theorem c_X7_layReach {g : Gb} {l : Launch}  {a1 : Int32} {σ : WD} {σ2 : WD} (h : f_X7_layReach a1 σ = some σ2) : MC l g yX7_layReach (.code yX7_layReach cX7_layReach 2 none) (rmk 4 74) [.ref (adr g 29), .int a1] σ none σ2 := by
  refine MC.of (by decide) (Nat.le_of_ble_eq_true rfl) (fun x C hl hr hq => ?_)
  subst hl
  exact w_X7_layReach (E := fun z => z = σ2) C  (fun a he pc lv hd => by cases he; exact x_vret C hr hq hd) h rfl
set_option maxHeartbeats 4000000 in
set_option maxRecDepth 100000 in
theorem w_X7_augmentFrom_b8 {x : Cx} {g : Gb} {E : (Int32 × WD) ⊕ (Int32 × WD) → Prop} (C : CF x g RX7 cX7_augmentFrom 4 (rmk 5 97))  {l2 : Int32} {l3 : Int32} {σ : WD} (hI0 : ∀ s, E (.inl s) → WW x g 4 0 0 8 [(0, .ref (adr g 29)), (2, .int l2), (3, .int s.1)] [] s.2) (hE : ∀ (a : Int32) (s2 : WD), E (.inr (a, s2)) → ∀ pc lv, decode cX7_augmentFrom pc = .ok (.ireturn, 1) → WW x g 4 0 0 pc lv [.int a] s2) {t : (Int32 × WD) ⊕ (Int32 × WD)} (h : f_X7_augmentFrom_b8 l2 l3 σ = some t) (ht : E t) : WW x g 4 0 0 8 [(0, .ref (adr g 29)), (2, .int l2), (3, .int l3)] [] σ := by
  unfold f_X7_augmentFrom_b8 at h
  refine x_iload_n C dX7_augmentFrom_8 rfl 2 rfl 9 rfl ?_
  refine x_iload_n C dX7_augmentFrom_9 rfl 1 rfl 10 rfl ?_
  refine x_icmp_ge C dX7_augmentFrom_10 37 (by decide) 13 rfl (fun hc => ?_) (fun hc => ?_)
  · have h := ip hc h
    refine x_iload_n C dX7_augmentFrom_37 rfl 1 rfl 38 rfl ?_
    cases h
    exact hE _ _ ht 38 _ dX7_augmentFrom_38
  · have h := iq hc h
    refine x_aload_n C dX7_augmentFrom_13 rfl 0 rfl 14 rfl ?_
    refine x_aload_n C dX7_augmentFrom_14 rfl 0 rfl 15 rfl ?_
    refine gf_769_29 C dX7_augmentFrom_15 18 rfl ?_
    refine x_iload_n C dX7_augmentFrom_18 rfl 2 rfl 19 rfl ?_
    obtain ⟨hin, h⟩ := gi_some h
    refine x_iald C 37 (gt_37 g _) hin dX7_augmentFrom_19 20 rfl ?_
    refine x_aload_n C dX7_augmentFrom_20 rfl 0 rfl 21 rfl ?_
    refine gf_769_29 C dX7_augmentFrom_21 24 rfl ?_
    refine x_iload_n C dX7_augmentFrom_24 rfl 2 rfl 25 rfl ?_
    refine x_iconst C (v := 1) dX7_augmentFrom_25 (by decide) 26 rfl ?_
    refine x_iadd C dX7_augmentFrom_26 27 rfl ?_
    obtain ⟨hin, h⟩ := gi_some h
    refine x_iald C 37 (gt_37 g _) hin dX7_augmentFrom_27 28 rfl ?_
    obtain ⟨σ28, h28, h⟩ := bv_some h
    refine x_callV C 29 [.int (σ.1 37 (l3 : Int32).toNatClampNeg), .int (σ.1 37 ((l3 + 1) : Int32).toNatClampNeg)] (c_X7_pair  h28) mi_X7_pair (gt_29 g _) rfl q_874 rfl ⟨rfl, rfl⟩ ⟨Nat.le_of_ble_eq_true rfl, Nat.le_of_ble_eq_true rfl⟩ ⟨Nat.zero_le _, Nat.zero_le _⟩ _ rfl (Nat.le_of_ble_eq_true rfl) dX7_augmentFrom_28 31 rfl ?_
    refine x_iinc C [(3, .int (l3 + 2)), (0, .ref (adr g 29)), (2, .int l2)] dX7_augmentFrom_31 2 rfl rfl (by decide) rfl 34 rfl ?_
    refine x_goto C dX7_augmentFrom_34 8 (by decide) ?_
    cases h
    exact x_sub [1, 2, 0] rfl (hI0 ((l3 + 2), σ28) ht)
set_option maxHeartbeats 4000000 in
set_option maxRecDepth 100000 in
theorem w_X7_augmentFrom_8 {x : Cx} {g : Gb} {E : Int32 × WD → Prop} (C : CF x g RX7 cX7_augmentFrom 4 (rmk 5 97))  {l2 : Int32} {l3 : Int32} {σ : WD} (hE : ∀ (a : Int32) (s2 : WD), E (a, s2) → ∀ pc lv, decode cX7_augmentFrom pc = .ok (.ireturn, 1) → WW x g 4 0 0 pc lv [.int a] s2) {t : Int32 × WD} (h : f_X7_augmentFrom_8 l2 l3 σ = some t) (ht : E t) : WW x g 4 0 0 8 [(0, .ref (adr g 29)), (2, .int l2), (3, .int l3)] [] σ := by
  unfold f_X7_augmentFrom_8 at h
  exact lp_ind (fun s : Int32 × WD => WW x g 4 0 0 8 [(0, .ref (adr g 29)), (2, .int l2), (3, .int s.1)] [] s.2) E h ht (fun s y hb hy => w_X7_augmentFrom_b8 (E := Sum.elim (fun s : Int32 × WD => WW x g 4 0 0 8 [(0, .ref (adr g 29)), (2, .int l2), (3, .int s.1)] [] s.2) E) C  (fun _ h => h)  hE hb hy)
set_option maxHeartbeats 4000000 in
set_option maxRecDepth 100000 in
theorem w_X7_augmentFrom {x : Cx} {g : Gb} {E : Int32 × WD → Prop} (C : CF x g RX7 cX7_augmentFrom 4 (rmk 5 97))  {a1 : Int32} {σ : WD} (hE : ∀ (a : Int32) (s2 : WD), E (a, s2) → ∀ pc lv, decode cX7_augmentFrom pc = .ok (.ireturn, 1) → WW x g 4 0 0 pc lv [.int a] s2) {t : Int32 × WD} (h : f_X7_augmentFrom a1 σ = some t) (ht : E t) : WW x g 4 0 0 0 [(0, .ref (adr g 29)), (1, .int a1)] [] σ := by
  unfold f_X7_augmentFrom at h
  refine x_aload_n C dX7_augmentFrom_0 rfl 0 rfl 1 rfl ?_
  refine x_iload_n C dX7_augmentFrom_1 rfl 1 rfl 2 rfl ?_
  obtain ⟨r2, σ2, h2, h⟩ := bn_some h
  refine x_callV C 29 [.int a1] (c_X7_layWay  h2) mi_X7_layWay (gt_29 g _) rfl q_902 rfl ⟨rfl, rfl⟩ ⟨Nat.le_of_ble_eq_true rfl, Nat.le_of_ble_eq_true rfl⟩ ⟨Nat.zero_le _, Nat.zero_le _⟩ _ rfl (Nat.le_of_ble_eq_true rfl) dX7_augmentFrom_2 5 rfl ?_
  refine x_istore_n C [(2, .int r2), (0, .ref (adr g 29)), (1, .int a1)] dX7_augmentFrom_5 rfl (by decide) rfl 6 rfl ?_
  refine x_iconst C (v := 0) dX7_augmentFrom_6 (by decide) 7 rfl ?_
  refine x_istore_n C [(3, .int 0), (2, .int r2), (0, .ref (adr g 29)), (1, .int a1)] dX7_augmentFrom_7 rfl (by decide) rfl 8 rfl ?_
  exact x_sub [2, 1, 0] rfl (w_X7_augmentFrom_8 C  hE h ht)
set_option maxHeartbeats 4000000 in
set_option maxRecDepth 100000 in
theorem c_X7_augmentFrom {g : Gb} {l : Launch}  {a1 : Int32} {σ : WD} {r : Int32} {σ2 : WD} (h : f_X7_augmentFrom a1 σ = some (r, σ2)) : MC l g yX7_augmentFrom (.code yX7_augmentFrom cX7_augmentFrom 4 (some (.int))) (rmk 5 97) [.ref (adr g 29), .int a1] σ (some (.int r)) σ2 := by
  refine MC.of (by decide) (Nat.le_of_ble_eq_true rfl) (fun x C hl hr hq => ?_)
  subst hl
  exact w_X7_augmentFrom (E := fun z => z = (r, σ2)) C  (fun a s2 he pc lv hd => by cases he; exact x_iret C hr hq hd) h rfl
set_option maxHeartbeats 4000000 in
set_option maxRecDepth 100000 in
theorem w_X7_begin_16 {x : Cx} {g : Gb} {E : Int32 × WD → Prop} (C : CF x g RX7 cX7_begin 3 (rmk 2 24))  {l1 : Int32} {s0 : Int32} {σ : WD} (hE : ∀ (a : Int32) (s2 : WD), E (a, s2) → ∀ pc lv, decode cX7_begin pc = .ok (.ireturn, 1) → WW x g 3 0 0 pc lv [.int a] s2) {t : Int32 × WD} (h : f_X7_begin_16 l1 s0 σ = some t) (ht : E t) : WW x g 3 0 0 16 [(0, .ref (adr g 29)), (1, .int l1)] [.int s0, .ref (adr g 29)] σ := by
  unfold f_X7_begin_16 at h
  refine pf_758_29 C dX7_begin_16 19 rfl ?_
  obtain ⟨σ16, e16, h⟩ := lt_some h
  refine x_we e16 ?_
  refine x_aload_n C dX7_begin_19 rfl 0 rfl 20 rfl ?_
  refine gf_758_29 C dX7_begin_20 23 rfl ?_
  refine x_if_le C dX7_begin_23 28 (by decide) 26 rfl (fun hc => ?_) (fun hc => ?_)
  · have h := ip hc h
    refine x_aload_n C dX7_begin_28 rfl 0 rfl 29 rfl ?_
    refine gf_759_29 C dX7_begin_29 32 rfl ?_
    refine x_istore_n C [(2, .int (σ16.1 29 1)), (0, .ref (adr g 29)), (1, .int l1)] dX7_begin_32 rfl (by decide) rfl 33 rfl ?_
    refine x_aload_n C dX7_begin_33 rfl 1 rfl 34 rfl ?_
    refine x_iload_n C dX7_begin_34 rfl 2 rfl 35 rfl ?_
    refine pf_759_29 C dX7_begin_35 38 rfl ?_
    obtain ⟨σ35, e35, h⟩ := lt_some h
    refine x_we e35 ?_
    refine x_aload_n C dX7_begin_38 rfl 1 rfl 39 rfl ?_
    obtain ⟨σ39, h39, h⟩ := bv_some h
    refine x_callV C 29 [] (c_X7_clearAll  h39) mi_X7_clearAll (gt_29 g _) rfl q_754 rfl ⟨rfl, rfl⟩ ⟨Nat.le_of_ble_eq_true rfl, Nat.le_of_ble_eq_true rfl⟩ ⟨Nat.zero_le _, Nat.zero_le _⟩ _ rfl (Nat.le_of_ble_eq_true rfl) dX7_begin_39 42 rfl ?_
    refine x_iload_n C dX7_begin_42 rfl 0 rfl 43 rfl ?_
    cases h
    exact hE _ _ ht 43 _ dX7_begin_43
  · have h := iq hc h
    refine x_iconst C (v := 0) dX7_begin_26 (by decide) 27 rfl ?_
    cases h
    exact hE _ _ ht 27 _ dX7_begin_27
set_option maxHeartbeats 4000000 in
set_option maxRecDepth 100000 in
theorem w_X7_begin {x : Cx} {g : Gb} {E : Int32 × WD → Prop} (C : CF x g RX7 cX7_begin 3 (rmk 2 24))  {a1 : Int32} {σ : WD} (hE : ∀ (a : Int32) (s2 : WD), E (a, s2) → ∀ pc lv, decode cX7_begin pc = .ok (.ireturn, 1) → WW x g 3 0 0 pc lv [.int a] s2) {t : Int32 × WD} (h : f_X7_begin a1 σ = some t) (ht : E t) : WW x g 3 0 0 0 [(0, .ref (adr g 29)), (1, .int a1)] [] σ := by
  unfold f_X7_begin at h
  refine x_aload_n C dX7_begin_0 rfl 0 rfl 1 rfl ?_
  refine x_iload_n C dX7_begin_1 rfl 1 rfl 2 rfl ?_
  refine x_iconst C (v := 2) dX7_begin_2 (by decide) 3 rfl ?_
  refine x_bipush C (v := 12) dX7_begin_3 (by decide) 5 rfl ?_
  obtain ⟨r5, h5, h⟩ := bv_some h
  refine x_callS C [.int a1, .int 2, .int 12] (c_X7_within  h5) mi_X7_within q_824 rfl ⟨rfl, rfl⟩ ⟨Nat.le_of_ble_eq_true rfl, Nat.le_of_ble_eq_true rfl⟩ ⟨Nat.zero_le _, Nat.zero_le _⟩ _ rfl (Nat.le_of_ble_eq_true rfl) dX7_begin_5 8 rfl ?_
  refine x_if_eq C dX7_begin_8 15 (by decide) 11 rfl (fun hc => ?_) (fun hc => ?_)
  · have h := ip hc h
    refine x_iconst C (v := 1) dX7_begin_15 (by decide) 16 rfl ?_
    exact x_sub [0, 1] rfl (w_X7_begin_16 C  hE h ht)
  · have h := iq hc h
    refine x_iconst C (v := 0) dX7_begin_11 (by decide) 12 rfl ?_
    refine x_goto C dX7_begin_12 16 (by decide) ?_
    exact x_sub [0, 1] rfl (w_X7_begin_16 C  hE h ht)
set_option maxHeartbeats 4000000 in
set_option maxRecDepth 100000 in
theorem c_X7_begin {g : Gb} {l : Launch}  {a1 : Int32} {σ : WD} {r : Int32} {σ2 : WD} (h : f_X7_begin a1 σ = some (r, σ2)) : MC l g yX7_begin (.code yX7_begin cX7_begin 3 (some (.int))) (rmk 2 24) [.ref (adr g 29), .int a1] σ (some (.int r)) σ2 := by
  refine MC.of (by decide) (Nat.le_of_ble_eq_true rfl) (fun x C hl hr hq => ?_)
  subst hl
  exact w_X7_begin (E := fun z => z = (r, σ2)) C  (fun a s2 he pc lv hd => by cases he; exact x_iret C hr hq hd) h rfl
set_option maxHeartbeats 4000000 in
set_option maxRecDepth 100000 in
theorem w_X7_setEdge_90 {x : Cx} {g : Gb} {E : Int32 × WD → Prop} (C : CF x g RX7 cX7_setEdge 5 (rmk 3 46))  {l4 : Int32} {σ : WD} (hE : ∀ (a : Int32) (s2 : WD), E (a, s2) → ∀ pc lv, decode cX7_setEdge pc = .ok (.ireturn, 1) → WW x g 5 0 0 pc lv [.int a] s2) {t : Int32 × WD} (h : f_X7_setEdge_90 l4 σ = some t) (ht : E t) : WW x g 5 0 0 90 [(4, .int l4)] [] σ := by
  unfold f_X7_setEdge_90 at h
  refine x_iload C dX7_setEdge_90 0 rfl 92 rfl ?_
  refine x_if_eq C dX7_setEdge_92 99 (by decide) 95 rfl (fun hc => ?_) (fun hc => ?_)
  · have h := ip hc h
    refine x_iconst C (v := 0) dX7_setEdge_99 (by decide) 100 rfl ?_
    cases h
    exact hE _ _ ht 100 _ dX7_setEdge_100
  · have h := iq hc h
    refine x_iconst C (v := 1) dX7_setEdge_95 (by decide) 96 rfl ?_
    refine x_goto C dX7_setEdge_96 100 (by decide) ?_
    cases h
    exact hE _ _ ht 100 _ dX7_setEdge_100
set_option maxHeartbeats 4000000 in
set_option maxRecDepth 100000 in
theorem w_X7_setEdge_71 {x : Cx} {g : Gb} {E : Int32 × WD → Prop} (C : CF x g RX7 cX7_setEdge 5 (rmk 3 46))  {l1 : Int32} {l2 : Int32} {l3 : Int32} {l4 : Int32} {σ : WD} (hE : ∀ (a : Int32) (s2 : WD), E (a, s2) → ∀ pc lv, decode cX7_setEdge pc = .ok (.ireturn, 1) → WW x g 5 0 0 pc lv [.int a] s2) {t : Int32 × WD} (h : f_X7_setEdge_71 l1 l2 l3 l4 σ = some t) (ht : E t) : WW x g 5 0 0 71 [(0, .ref (adr g 29)), (1, .int l1), (2, .int l2), (3, .int l3), (4, .int l4)] [] σ := by
  unfold f_X7_setEdge_71 at h
  refine x_iload_n C dX7_setEdge_71 rfl 3 rfl 72 rfl ?_
  refine x_if_ne C dX7_setEdge_72 90 (by decide) 75 rfl (fun hc => ?_) (fun hc => ?_)
  · have h := iq hc h
    exact x_sub [4] rfl (w_X7_setEdge_90 C  hE h ht)
  · have h := ip hc h
    refine x_aload_n C dX7_setEdge_75 rfl 0 rfl 76 rfl ?_
    refine gf_761_29 C dX7_setEdge_76 79 rfl ?_
    refine x_iload_n C dX7_setEdge_79 rfl 1 rfl 80 rfl ?_
    obtain ⟨hin, h⟩ := gi_some h
    refine x_iald C 31 (gt_31 g _) hin dX7_setEdge_80 81 rfl ?_
    refine x_iload_n C dX7_setEdge_81 rfl 2 rfl 82 rfl ?_
    refine x_icmp_ne C dX7_setEdge_82 90 (by decide) 85 rfl (fun hc => ?_) (fun hc => ?_)
    · have h := iq hc h
      exact x_sub [4] rfl (w_X7_setEdge_90 C  hE h ht)
    · have h := ip hc h
      refine x_aload_n C dX7_setEdge_85 rfl 0 rfl 86 rfl ?_
      refine x_iload_n C dX7_setEdge_86 rfl 1 rfl 87 rfl ?_
      obtain ⟨σ87, h87, h⟩ := bv_some h
      refine x_callV C 29 [.int l1] (c_X7_part  h87) mi_X7_part (gt_29 g _) rfl q_846 rfl ⟨rfl, rfl⟩ ⟨Nat.le_of_ble_eq_true rfl, Nat.le_of_ble_eq_true rfl⟩ ⟨Nat.zero_le _, Nat.zero_le _⟩ _ rfl (Nat.le_of_ble_eq_true rfl) dX7_setEdge_87 90 rfl ?_
      exact x_sub [4] rfl (w_X7_setEdge_90 C  hE h ht)
set_option maxHeartbeats 4000000 in
set_option maxRecDepth 100000 in
theorem w_X7_setEdge_31 {x : Cx} {g : Gb} {E : Int32 × WD → Prop} (C : CF x g RX7 cX7_setEdge 5 (rmk 3 46))  {l1 : Int32} {l2 : Int32} {l3 : Int32} {s0 : Int32} {σ : WD} (hE : ∀ (a : Int32) (s2 : WD), E (a, s2) → ∀ pc lv, decode cX7_setEdge pc = .ok (.ireturn, 1) → WW x g 5 0 0 pc lv [.int a] s2) {t : Int32 × WD} (h : f_X7_setEdge_31 l1 l2 l3 s0 σ = some t) (ht : E t) : WW x g 5 0 0 31 [(0, .ref (adr g 29)), (1, .int l1), (2, .int l2), (3, .int l3)] [.int s0, .ref (adr g 29)] σ := by
  unfold f_X7_setEdge_31 at h
  refine pf_758_29 C dX7_setEdge_31 34 rfl ?_
  obtain ⟨σ31, e31, h⟩ := lt_some h
  refine x_we e31 ?_
  refine x_aload_n C dX7_setEdge_34 rfl 0 rfl 35 rfl ?_
  refine gf_758_29 C dX7_setEdge_35 38 rfl ?_
  refine x_if_le C dX7_setEdge_38 43 (by decide) 41 rfl (fun hc => ?_) (fun hc => ?_)
  · have h := ip hc h
    refine x_aload_n C dX7_setEdge_43 rfl 0 rfl 44 rfl ?_
    obtain ⟨σ44, h44, h⟩ := bv_some h
    refine x_callV C 29 [] (c_X7_keep  h44) mi_X7_keep (gt_29 g _) rfl q_835 rfl ⟨rfl, rfl⟩ ⟨Nat.le_of_ble_eq_true rfl, Nat.le_of_ble_eq_true rfl⟩ ⟨Nat.zero_le _, Nat.zero_le _⟩ _ rfl (Nat.le_of_ble_eq_true rfl) dX7_setEdge_44 47 rfl ?_
    refine x_aload_n C dX7_setEdge_47 rfl 0 rfl 48 rfl ?_
    refine gf_760_29 C dX7_setEdge_48 51 rfl ?_
    refine x_iload_n C dX7_setEdge_51 rfl 1 rfl 52 rfl ?_
    obtain ⟨hin, h⟩ := gi_some h
    refine x_iald C 30 (gt_30 g _) hin dX7_setEdge_52 53 rfl ?_
    refine x_iload_n C dX7_setEdge_53 rfl 2 rfl 54 rfl ?_
    obtain ⟨r54, h54, h⟩ := bv_some h
    refine x_callS C [.int (σ44.1 30 (l1 : Int32).toNatClampNeg), .int l2] (c_X7_has  h54) mi_X7_has q_839 rfl ⟨rfl, rfl⟩ ⟨Nat.le_of_ble_eq_true rfl, Nat.le_of_ble_eq_true rfl⟩ ⟨Nat.zero_le _, Nat.zero_le _⟩ _ rfl (Nat.le_of_ble_eq_true rfl) dX7_setEdge_54 57 rfl ?_
    refine x_istore C [(4, .int r54), (0, .ref (adr g 29)), (1, .int l1), (2, .int l2), (3, .int l3)] dX7_setEdge_57 (by decide) rfl 59 rfl ?_
    refine x_iload C dX7_setEdge_59 0 rfl 61 rfl ?_
    refine x_iload_n C dX7_setEdge_61 rfl 4 rfl 62 rfl ?_
    refine x_icmp_eq C dX7_setEdge_62 71 (by decide) 65 rfl (fun hc => ?_) (fun hc => ?_)
    · have h := ip hc h
      exact x_sub [1, 2, 3, 4, 0] rfl (w_X7_setEdge_71 C  hE h ht)
    · have h := iq hc h
      refine x_aload_n C dX7_setEdge_65 rfl 1 rfl 66 rfl ?_
      refine x_iload_n C dX7_setEdge_66 rfl 2 rfl 67 rfl ?_
      refine x_iload_n C dX7_setEdge_67 rfl 3 rfl 68 rfl ?_
      obtain ⟨σ68, h68, h⟩ := bv_some h
      refine x_callV C 29 [.int l1, .int l2] (c_X7_flip  h68) mi_X7_flip (gt_29 g _) rfl q_842 rfl ⟨rfl, rfl⟩ ⟨Nat.le_of_ble_eq_true rfl, Nat.le_of_ble_eq_true rfl⟩ ⟨Nat.zero_le _, Nat.zero_le _⟩ _ rfl (Nat.le_of_ble_eq_true rfl) dX7_setEdge_68 71 rfl ?_
      exact x_sub [1, 2, 3, 4, 0] rfl (w_X7_setEdge_71 C  hE h ht)
  · have h := iq hc h
    refine x_iconst C (v := 0) dX7_setEdge_41 (by decide) 42 rfl ?_
    cases h
    exact hE _ _ ht 42 _ dX7_setEdge_42
set_option maxHeartbeats 4000000 in
set_option maxRecDepth 100000 in
theorem w_X7_setEdge_17 {x : Cx} {g : Gb} {E : Int32 × WD → Prop} (C : CF x g RX7 cX7_setEdge 5 (rmk 3 46))  {l1 : Int32} {l2 : Int32} {l3 : Int32} {σ : WD} (hE : ∀ (a : Int32) (s2 : WD), E (a, s2) → ∀ pc lv, decode cX7_setEdge pc = .ok (.ireturn, 1) → WW x g 5 0 0 pc lv [.int a] s2) {t : Int32 × WD} (h : f_X7_setEdge_17 l1 l2 l3 σ = some t) (ht : E t) : WW x g 5 0 0 17 [(0, .ref (adr g 29)), (1, .int l1), (2, .int l2), (3, .int l3)] [.ref (adr g 29)] σ := by
  unfold f_X7_setEdge_17 at h
  refine x_iconst C (v := 1) dX7_setEdge_17 (by decide) 18 rfl ?_
  refine x_goto C dX7_setEdge_18 31 (by decide) ?_
  exact x_sub [0, 1, 2, 3] rfl (w_X7_setEdge_31 C  hE h ht)
set_option maxHeartbeats 4000000 in
set_option maxRecDepth 100000 in
theorem w_X7_setEdge {x : Cx} {g : Gb} {E : Int32 × WD → Prop} (C : CF x g RX7 cX7_setEdge 5 (rmk 3 46))  {a1 : Int32} {a2 : Int32} {a3 : Int32} {σ : WD} (hE : ∀ (a : Int32) (s2 : WD), E (a, s2) → ∀ pc lv, decode cX7_setEdge pc = .ok (.ireturn, 1) → WW x g 5 0 0 pc lv [.int a] s2) {t : Int32 × WD} (h : f_X7_setEdge a1 a2 a3 σ = some t) (ht : E t) : WW x g 5 0 0 0 [(0, .ref (adr g 29)), (1, .int a1), (2, .int a2), (3, .int a3)] [] σ := by
  unfold f_X7_setEdge at h
  refine x_aload_n C dX7_setEdge_0 rfl 0 rfl 1 rfl ?_
  refine x_aload_n C dX7_setEdge_1 rfl 0 rfl 2 rfl ?_
  refine x_iload_n C dX7_setEdge_2 rfl 1 rfl 3 rfl ?_
  obtain ⟨r3, h3, h⟩ := bv_some h
  refine x_callV C 29 [.int a1] (c_X7_isNode  h3) mi_X7_isNode (gt_29 g _) rfl q_831 rfl ⟨rfl, rfl⟩ ⟨Nat.le_of_ble_eq_true rfl, Nat.le_of_ble_eq_true rfl⟩ ⟨Nat.zero_le _, Nat.zero_le _⟩ _ rfl (Nat.le_of_ble_eq_true rfl) dX7_setEdge_3 6 rfl ?_
  refine x_if_eq C dX7_setEdge_6 17 (by decide) 9 rfl (fun hc => ?_) (fun hc => ?_)
  · have h := ip hc h
    exact x_sub [0, 1, 2, 3] rfl (w_X7_setEdge_17 C  hE h ht)
  · have h := iq hc h
    refine x_aload_n C dX7_setEdge_9 rfl 0 rfl 10 rfl ?_
    refine x_iload_n C dX7_setEdge_10 rfl 2 rfl 11 rfl ?_
    obtain ⟨r11, h11, h⟩ := bv_some h
    refine x_callV C 29 [.int a2] (c_X7_isNode  h11) mi_X7_isNode (gt_29 g _) rfl q_831 rfl ⟨rfl, rfl⟩ ⟨Nat.le_of_ble_eq_true rfl, Nat.le_of_ble_eq_true rfl⟩ ⟨Nat.zero_le _, Nat.zero_le _⟩ _ rfl (Nat.le_of_ble_eq_true rfl) dX7_setEdge_11 14 rfl ?_
    refine x_if_ne C dX7_setEdge_14 21 (by decide) 17 rfl (fun hc => ?_) (fun hc => ?_)
    · have h := iq hc h
      refine x_iload_n C dX7_setEdge_21 rfl 1 rfl 22 rfl ?_
      refine x_iload_n C dX7_setEdge_22 rfl 2 rfl 23 rfl ?_
      refine x_icmp_ne C dX7_setEdge_23 30 (by decide) 26 rfl (fun hc => ?_) (fun hc => ?_)
      · have h := iq hc h
        refine x_iconst C (v := 0) dX7_setEdge_30 (by decide) 31 rfl ?_
        exact x_sub [0, 1, 2, 3] rfl (w_X7_setEdge_31 C  hE h ht)
      · have h := ip hc h
        refine x_iconst C (v := 2) dX7_setEdge_26 (by decide) 27 rfl ?_
        refine x_goto C dX7_setEdge_27 31 (by decide) ?_
        exact x_sub [0, 1, 2, 3] rfl (w_X7_setEdge_31 C  hE h ht)
    · have h := ip hc h
      exact x_sub [0, 1, 2, 3] rfl (w_X7_setEdge_17 C  hE h ht)
set_option maxHeartbeats 4000000 in
set_option maxRecDepth 100000 in
theorem c_X7_setEdge {g : Gb} {l : Launch}  {a1 : Int32} {a2 : Int32} {a3 : Int32} {σ : WD} {r : Int32} {σ2 : WD} (h : f_X7_setEdge a1 a2 a3 σ = some (r, σ2)) : MC l g yX7_setEdge (.code yX7_setEdge cX7_setEdge 5 (some (.int))) (rmk 3 46) [.ref (adr g 29), .int a1, .int a2, .int a3] σ (some (.int r)) σ2 := by
  refine MC.of (by decide) (Nat.le_of_ble_eq_true rfl) (fun x C hl hr hq => ?_)
  subst hl
  exact w_X7_setEdge (E := fun z => z = (r, σ2)) C  (fun a s2 he pc lv hd => by cases he; exact x_iret C hr hq hd) h rfl
set_option maxHeartbeats 4000000 in
set_option maxRecDepth 100000 in
theorem w_X7_append_30 {x : Cx} {g : Gb} {E : Int32 × WD → Prop} (C : CF x g RX7 cX7_append 2 (rmk 2 24))  {l1 : Int32} {s0 : Int32} {σ : WD} (hE : ∀ (a : Int32) (s2 : WD), E (a, s2) → ∀ pc lv, decode cX7_append pc = .ok (.ireturn, 1) → WW x g 2 0 0 pc lv [.int a] s2) {t : Int32 × WD} (h : f_X7_append_30 l1 s0 σ = some t) (ht : E t) : WW x g 2 0 0 30 [(0, .ref (adr g 29)), (1, .int l1)] [.int s0, .ref (adr g 29)] σ := by
  unfold f_X7_append_30 at h
  refine pf_758_29 C dX7_append_30 33 rfl ?_
  obtain ⟨σ30, e30, h⟩ := lt_some h
  refine x_we e30 ?_
  refine x_aload_n C dX7_append_33 rfl 0 rfl 34 rfl ?_
  refine gf_758_29 C dX7_append_34 37 rfl ?_
  refine x_if_le C dX7_append_37 42 (by decide) 40 rfl (fun hc => ?_) (fun hc => ?_)
  · have h := ip hc h
    refine x_aload_n C dX7_append_42 rfl 0 rfl 43 rfl ?_
    refine gf_765_29 C dX7_append_43 46 rfl ?_
    refine x_aload_n C dX7_append_46 rfl 0 rfl 47 rfl ?_
    refine gf_764_29 C dX7_append_47 50 rfl ?_
    refine x_iload_n C dX7_append_50 rfl 1 rfl 51 rfl ?_
    obtain ⟨hin, h⟩ := gi_some h
    refine x_iast C 33 (gt_33 g _) (st_33 g _) hin dX7_append_51 52 rfl ?_
    obtain ⟨σ51, e51, h⟩ := lt_some h
    refine x_we e51 ?_
    refine x_aload_n C dX7_append_52 rfl 0 rfl 53 rfl ?_
    refine x_dup C dX7_append_53 rfl 54 rfl ?_
    refine gf_764_29 C dX7_append_54 57 rfl ?_
    refine x_iconst C (v := 1) dX7_append_57 (by decide) 58 rfl ?_
    refine x_iadd C dX7_append_58 59 rfl ?_
    refine pf_764_29 C dX7_append_59 62 rfl ?_
    obtain ⟨σ59, e59, h⟩ := lt_some h
    refine x_we e59 ?_
    refine x_aload_n C dX7_append_62 rfl 0 rfl 63 rfl ?_
    refine gf_764_29 C dX7_append_63 66 rfl ?_
    cases h
    exact hE _ _ ht 66 _ dX7_append_66
  · have h := iq hc h
    refine x_iconst C (v := 0) dX7_append_40 (by decide) 41 rfl ?_
    cases h
    exact hE _ _ ht 41 _ dX7_append_41
set_option maxHeartbeats 4000000 in
set_option maxRecDepth 100000 in
theorem w_X7_append {x : Cx} {g : Gb} {E : Int32 × WD → Prop} (C : CF x g RX7 cX7_append 2 (rmk 2 24))  {a1 : Int32} {σ : WD} (hE : ∀ (a : Int32) (s2 : WD), E (a, s2) → ∀ pc lv, decode cX7_append pc = .ok (.ireturn, 1) → WW x g 2 0 0 pc lv [.int a] s2) {t : Int32 × WD} (h : f_X7_append a1 σ = some t) (ht : E t) : WW x g 2 0 0 0 [(0, .ref (adr g 29)), (1, .int a1)] [] σ := by
  unfold f_X7_append at h
  refine x_aload_n C dX7_append_0 rfl 0 rfl 1 rfl ?_
  refine x_iload_n C dX7_append_1 rfl 1 rfl 2 rfl ?_
  refine x_bipush C (v := 32) dX7_append_2 (by decide) 4 rfl ?_
  refine x_bipush C (v := 126) dX7_append_4 (by decide) 6 rfl ?_
  obtain ⟨r6, h6, h⟩ := bv_some h
  refine x_callS C [.int a1, .int 32, .int 126] (c_X7_within  h6) mi_X7_within q_824 rfl ⟨rfl, rfl⟩ ⟨Nat.le_of_ble_eq_true rfl, Nat.le_of_ble_eq_true rfl⟩ ⟨Nat.zero_le _, Nat.zero_le _⟩ _ rfl (Nat.le_of_ble_eq_true rfl) dX7_append_6 9 rfl ?_
  refine x_if_ne C dX7_append_9 16 (by decide) 12 rfl (fun hc => ?_) (fun hc => ?_)
  · have h := iq hc h
    refine x_aload_n C dX7_append_16 rfl 0 rfl 17 rfl ?_
    refine gf_764_29 C dX7_append_17 20 rfl ?_
    refine x_bipush C (v := 60) dX7_append_20 (by decide) 22 rfl ?_
    refine x_icmp_ne C dX7_append_22 29 (by decide) 25 rfl (fun hc => ?_) (fun hc => ?_)
    · have h := iq hc h
      refine x_iconst C (v := 0) dX7_append_29 (by decide) 30 rfl ?_
      exact x_sub [0, 1] rfl (w_X7_append_30 C  hE h ht)
    · have h := ip hc h
      refine x_iconst C (v := 2) dX7_append_25 (by decide) 26 rfl ?_
      refine x_goto C dX7_append_26 30 (by decide) ?_
      exact x_sub [0, 1] rfl (w_X7_append_30 C  hE h ht)
  · have h := ip hc h
    refine x_iconst C (v := 1) dX7_append_12 (by decide) 13 rfl ?_
    refine x_goto C dX7_append_13 30 (by decide) ?_
    exact x_sub [0, 1] rfl (w_X7_append_30 C  hE h ht)
set_option maxHeartbeats 4000000 in
set_option maxRecDepth 100000 in
theorem c_X7_append {g : Gb} {l : Launch}  {a1 : Int32} {σ : WD} {r : Int32} {σ2 : WD} (h : f_X7_append a1 σ = some (r, σ2)) : MC l g yX7_append (.code yX7_append cX7_append 2 (some (.int))) (rmk 2 24) [.ref (adr g 29), .int a1] σ (some (.int r)) σ2 := by
  refine MC.of (by decide) (Nat.le_of_ble_eq_true rfl) (fun x C hl hr hq => ?_)
  subst hl
  exact w_X7_append (E := fun z => z = (r, σ2)) C  (fun a s2 he pc lv hd => by cases he; exact x_iret C hr hq hd) h rfl
set_option maxHeartbeats 4000000 in
set_option maxRecDepth 100000 in
theorem w_X7_clearInput {x : Cx} {g : Gb} {E : Int32 × WD → Prop} (C : CF x g RX7 cX7_clearInput 2 (rmk 1 1))   {σ : WD} (hE : ∀ (a : Int32) (s2 : WD), E (a, s2) → ∀ pc lv, decode cX7_clearInput pc = .ok (.ireturn, 1) → WW x g 2 0 0 pc lv [.int a] s2) {t : Int32 × WD} (h : f_X7_clearInput  σ = some t) (ht : E t) : WW x g 2 0 0 0 [(0, .ref (adr g 29))] [] σ := by
  unfold f_X7_clearInput at h
  refine x_aload_n C dX7_clearInput_0 rfl 0 rfl 1 rfl ?_
  refine x_iconst C (v := 0) dX7_clearInput_1 (by decide) 2 rfl ?_
  refine pf_758_29 C dX7_clearInput_2 5 rfl ?_
  obtain ⟨σ2, e2, h⟩ := lt_some h
  refine x_we e2 ?_
  refine x_aload_n C dX7_clearInput_5 rfl 0 rfl 6 rfl ?_
  refine gf_764_29 C dX7_clearInput_6 9 rfl ?_
  refine x_istore_n C [(1, .int (σ2.1 29 6)), (0, .ref (adr g 29))] dX7_clearInput_9 rfl (by decide) rfl 10 rfl ?_
  refine x_aload_n C dX7_clearInput_10 rfl 1 rfl 11 rfl ?_
  refine x_iconst C (v := 0) dX7_clearInput_11 (by decide) 12 rfl ?_
  refine pf_764_29 C dX7_clearInput_12 15 rfl ?_
  obtain ⟨σ12, e12, h⟩ := lt_some h
  refine x_we e12 ?_
  refine x_iload_n C dX7_clearInput_15 rfl 0 rfl 16 rfl ?_
  cases h
  exact hE _ _ ht 16 _ dX7_clearInput_16
set_option maxHeartbeats 4000000 in
set_option maxRecDepth 100000 in
theorem c_X7_clearInput {g : Gb} {l : Launch}   {σ : WD} {r : Int32} {σ2 : WD} (h : f_X7_clearInput  σ = some (r, σ2)) : MC l g yX7_clearInput (.code yX7_clearInput cX7_clearInput 2 (some (.int))) (rmk 1 1) [.ref (adr g 29)] σ (some (.int r)) σ2 := by
  refine MC.of (by decide) (Nat.le_of_ble_eq_true rfl) (fun x C hl hr hq => ?_)
  subst hl
  exact w_X7_clearInput (E := fun z => z = (r, σ2)) C  (fun a s2 he pc lv hd => by cases he; exact x_iret C hr hq hd) h rfl
set_option maxHeartbeats 4000000 in
set_option maxRecDepth 100000 in
theorem w_X7_takes_244 {x : Cx} {g : Gb} {E : Int32 × WD → Prop} (C : CF x g RX7 cX7_takes 4 (rmk 2 24))  {l3 : Int32} {s0 : Int32} {σ : WD} (hE : ∀ (a : Int32) (s2 : WD), E (a, s2) → ∀ pc lv, narrow .boolean (.int a) = .int a → decode cX7_takes pc = .ok (.ireturn, 1) → WW x g 4 0 0 pc lv [.int a] s2) {t : Int32 × WD} (h : f_X7_takes_244 l3 s0 σ = some t) (ht : E t) : WW x g 4 0 0 244 [(3, .int l3)] [.int s0, .ref (adr g 29)] σ := by
  unfold f_X7_takes_244 at h
  refine pf_773_29 C dX7_takes_244 247 rfl ?_
  obtain ⟨σ244, e244, h⟩ := lt_some h
  refine x_we e244 ?_
  refine x_iload_n C dX7_takes_247 rfl 0 rfl 248 rfl ?_
  obtain ⟨hnb, h⟩ := gb_some h
  cases h
  exact hE _ _ ht 248 _ hnb dX7_takes_248
set_option maxHeartbeats 4000000 in
set_option maxRecDepth 100000 in
theorem w_X7_takes_230 {x : Cx} {g : Gb} {E : Int32 × WD → Prop} (C : CF x g RX7 cX7_takes 4 (rmk 2 24))  {l3 : Int32} {s0 : Int32} {s1 : Int32} {σ : WD} (hE : ∀ (a : Int32) (s2 : WD), E (a, s2) → ∀ pc lv, narrow .boolean (.int a) = .int a → decode cX7_takes pc = .ok (.ireturn, 1) → WW x g 4 0 0 pc lv [.int a] s2) {t : Int32 × WD} (h : f_X7_takes_230 l3 s0 s1 σ = some t) (ht : E t) : WW x g 4 0 0 230 [(0, .ref (adr g 29)), (3, .int l3)] [.int s0, .int s1, .ref (adr g 39)] σ := by
  unfold f_X7_takes_230 at h
  obtain ⟨hin, h⟩ := gi_some h
  refine x_iast C 39 (gt_39 g _) (st_39 g _) hin dX7_takes_230 231 rfl ?_
  obtain ⟨σ230, e230, h⟩ := lt_some h
  refine x_we e230 ?_
  refine x_aload_n C dX7_takes_231 rfl 0 rfl 232 rfl ?_
  refine x_iload_n C dX7_takes_232 rfl 1 rfl 233 rfl ?_
  refine x_if_eq C dX7_takes_233 240 (by decide) 236 rfl (fun hc => ?_) (fun hc => ?_)
  · have h := ip hc h
    refine x_aload_n C dX7_takes_240 rfl 0 rfl 241 rfl ?_
    refine gf_773_29 C dX7_takes_241 244 rfl ?_
    exact x_sub [1] rfl (w_X7_takes_244 C  hE h ht)
  · have h := iq hc h
    refine x_iconst C (v := 3) dX7_takes_236 (by decide) 237 rfl ?_
    refine x_goto C dX7_takes_237 244 (by decide) ?_
    exact x_sub [1] rfl (w_X7_takes_244 C  hE h ht)
set_option maxHeartbeats 4000000 in
set_option maxRecDepth 100000 in
theorem w_X7_takes_196 {x : Cx} {g : Gb} {E : Int32 × WD → Prop} (C : CF x g RX7 cX7_takes 4 (rmk 2 24))  {s0 : Int32} {σ : WD} (hE : ∀ (a : Int32) (s2 : WD), E (a, s2) → ∀ pc lv, narrow .boolean (.int a) = .int a → decode cX7_takes pc = .ok (.ireturn, 1) → WW x g 4 0 0 pc lv [.int a] s2) {t : Int32 × WD} (h : f_X7_takes_196 s0 σ = some t) (ht : E t) : WW x g 4 0 0 196 [(0, .ref (adr g 29))] [.int s0] σ := by
  unfold f_X7_takes_196 at h
  refine x_istore_n C [(3, .int s0), (0, .ref (adr g 29))] dX7_takes_196 rfl (by decide) rfl 197 rfl ?_
  refine x_aload_n C dX7_takes_197 rfl 1 rfl 198 rfl ?_
  refine gf_775_29 C dX7_takes_198 201 rfl ?_
  refine x_iconst C (v := 3) dX7_takes_201 (by decide) 202 rfl ?_
  refine x_aload_n C dX7_takes_202 rfl 1 rfl 203 rfl ?_
  refine gf_774_29 C dX7_takes_203 206 rfl ?_
  refine x_imul C dX7_takes_206 207 rfl ?_
  refine x_iconst C (v := 2) dX7_takes_207 (by decide) 208 rfl ?_
  refine x_iadd C dX7_takes_208 209 rfl ?_
  refine x_iload_n C dX7_takes_209 rfl 0 rfl 210 rfl ?_
  refine x_if_eq C dX7_takes_210 217 (by decide) 213 rfl (fun hc => ?_) (fun hc => ?_)
  · have h := ip hc h
    refine x_aload_n C dX7_takes_217 rfl 1 rfl 218 rfl ?_
    refine gf_775_29 C dX7_takes_218 221 rfl ?_
    refine x_iconst C (v := 3) dX7_takes_221 (by decide) 222 rfl ?_
    refine x_aload_n C dX7_takes_222 rfl 1 rfl 223 rfl ?_
    refine gf_774_29 C dX7_takes_223 226 rfl ?_
    refine x_imul C dX7_takes_226 227 rfl ?_
    refine x_iconst C (v := 2) dX7_takes_227 (by decide) 228 rfl ?_
    refine x_iadd C dX7_takes_228 229 rfl ?_
    obtain ⟨hin, h⟩ := gi_some h
    refine x_iald C 39 (gt_39 g _) hin dX7_takes_229 230 rfl ?_
    exact x_sub [1, 0] rfl (w_X7_takes_230 C  hE h ht)
  · have h := iq hc h
    refine x_iconst C (v := 1) dX7_takes_213 (by decide) 214 rfl ?_
    refine x_goto C dX7_takes_214 230 (by decide) ?_
    exact x_sub [1, 0] rfl (w_X7_takes_230 C  hE h ht)
set_option maxHeartbeats 4000000 in
set_option maxRecDepth 100000 in
theorem w_X7_takes_195 {x : Cx} {g : Gb} {E : Int32 × WD → Prop} (C : CF x g RX7 cX7_takes 4 (rmk 2 24))   {σ : WD} (hE : ∀ (a : Int32) (s2 : WD), E (a, s2) → ∀ pc lv, narrow .boolean (.int a) = .int a → decode cX7_takes pc = .ok (.ireturn, 1) → WW x g 4 0 0 pc lv [.int a] s2) {t : Int32 × WD} (h : f_X7_takes_195  σ = some t) (ht : E t) : WW x g 4 0 0 195 [(0, .ref (adr g 29))] [] σ := by
  unfold f_X7_takes_195 at h
  refine x_iconst C (v := 0) dX7_takes_195 (by decide) 196 rfl ?_
  exact x_sub [0] rfl (w_X7_takes_196 C  hE h ht)
set_option maxHeartbeats 4000000 in
set_option maxRecDepth 100000 in
theorem w_X7_takes_160 {x : Cx} {g : Gb} {E : Int32 × WD → Prop} (C : CF x g RX7 cX7_takes 4 (rmk 2 24))  {s0 : Int32} {σ : WD} (hE : ∀ (a : Int32) (s2 : WD), E (a, s2) → ∀ pc lv, narrow .boolean (.int a) = .int a → decode cX7_takes pc = .ok (.ireturn, 1) → WW x g 4 0 0 pc lv [.int a] s2) {t : Int32 × WD} (h : f_X7_takes_160 s0 σ = some t) (ht : E t) : WW x g 4 0 0 160 [(0, .ref (adr g 29))] [.int s0, .ref (adr g 29)] σ := by
  unfold f_X7_takes_160 at h
  refine pf_773_29 C dX7_takes_160 163 rfl ?_
  obtain ⟨σ160, e160, h⟩ := lt_some h
  refine x_we e160 ?_
  refine x_aload_n C dX7_takes_163 rfl 0 rfl 164 rfl ?_
  refine gf_773_29 C dX7_takes_164 167 rfl ?_
  refine x_iconst C (v := 2) dX7_takes_167 (by decide) 168 rfl ?_
  refine x_icmp_ne C dX7_takes_168 175 (by decide) 171 rfl (fun hc => ?_) (fun hc => ?_)
  · have h := iq hc h
    refine x_iconst C (v := 0) dX7_takes_175 (by decide) 176 rfl ?_
    cases h
    exact hE _ _ ht 176 _ rfl dX7_takes_176
  · have h := ip hc h
    refine x_iconst C (v := 1) dX7_takes_171 (by decide) 172 rfl ?_
    refine x_goto C dX7_takes_172 176 (by decide) ?_
    cases h
    exact hE _ _ ht 176 _ rfl dX7_takes_176
set_option maxHeartbeats 4000000 in
set_option maxRecDepth 100000 in
theorem w_X7_takes_89 {x : Cx} {g : Gb} {E : Int32 × WD → Prop} (C : CF x g RX7 cX7_takes 4 (rmk 2 24))  {s0 : Int32} {σ : WD} (hE : ∀ (a : Int32) (s2 : WD), E (a, s2) → ∀ pc lv, narrow .boolean (.int a) = .int a → decode cX7_takes pc = .ok (.ireturn, 1) → WW x g 4 0 0 pc lv [.int a] s2) {t : Int32 × WD} (h : f_X7_takes_89 s0 σ = some t) (ht : E t) : WW x g 4 0 0 89 [(0, .ref (adr g 29))] [.int s0, .ref (adr g 29)] σ := by
  unfold f_X7_takes_89 at h
  refine pf_773_29 C dX7_takes_89 92 rfl ?_
  obtain ⟨σ89, e89, h⟩ := lt_some h
  refine x_we e89 ?_
  refine x_aload_n C dX7_takes_92 rfl 0 rfl 93 rfl ?_
  refine gf_773_29 C dX7_takes_93 96 rfl ?_
  refine x_iconst C (v := 1) dX7_takes_96 (by decide) 97 rfl ?_
  refine x_icmp_ne C dX7_takes_97 104 (by decide) 100 rfl (fun hc => ?_) (fun hc => ?_)
  · have h := iq hc h
    refine x_iconst C (v := 0) dX7_takes_104 (by decide) 105 rfl ?_
    cases h
    exact hE _ _ ht 105 _ rfl dX7_takes_105
  · have h := ip hc h
    refine x_iconst C (v := 1) dX7_takes_100 (by decide) 101 rfl ?_
    refine x_goto C dX7_takes_101 105 (by decide) ?_
    cases h
    exact hE _ _ ht 105 _ rfl dX7_takes_105
set_option maxHeartbeats 4000000 in
set_option maxRecDepth 100000 in
theorem w_X7_takes_36 {x : Cx} {g : Gb} {E : Int32 × WD → Prop} (C : CF x g RX7 cX7_takes 4 (rmk 2 24))  {l1 : Int32} {l2 : Int32} {σ : WD} (hE : ∀ (a : Int32) (s2 : WD), E (a, s2) → ∀ pc lv, narrow .boolean (.int a) = .int a → decode cX7_takes pc = .ok (.ireturn, 1) → WW x g 4 0 0 pc lv [.int a] s2) {t : Int32 × WD} (h : f_X7_takes_36 l1 l2 σ = some t) (ht : E t) : WW x g 4 0 0 36 [(0, .ref (adr g 29)), (1, .int l1), (2, .int l2)] [] σ := by
  unfold f_X7_takes_36 at h
  refine x_aload_n C dX7_takes_36 rfl 0 rfl 37 rfl ?_
  refine gf_773_29 C dX7_takes_37 40 rfl ?_
  refine x_if_ne C dX7_takes_40 106 (by decide) 43 rfl (fun hc => ?_) (fun hc => ?_)
  · have h := iq hc h
    refine x_aload_n C dX7_takes_106 rfl 0 rfl 107 rfl ?_
    refine gf_773_29 C dX7_takes_107 110 rfl ?_
    refine x_iconst C (v := 1) dX7_takes_110 (by decide) 111 rfl ?_
    refine x_icmp_ne C dX7_takes_111 177 (by decide) 114 rfl (fun hc => ?_) (fun hc => ?_)
    · have h := iq hc h
      refine x_aload_n C dX7_takes_177 rfl 0 rfl 178 rfl ?_
      refine gf_773_29 C dX7_takes_178 181 rfl ?_
      refine x_iconst C (v := 2) dX7_takes_181 (by decide) 182 rfl ?_
      refine x_icmp_ne C dX7_takes_182 195 (by decide) 185 rfl (fun hc => ?_) (fun hc => ?_)
      · have h := iq hc h
        exact x_sub [0] rfl (w_X7_takes_195 C  hE h ht)
      · have h := ip hc h
        refine x_iload_n C dX7_takes_185 rfl 1 rfl 186 rfl ?_
        refine x_bipush C (v := 33) dX7_takes_186 (by decide) 188 rfl ?_
        refine x_icmp_ne C dX7_takes_188 195 (by decide) 191 rfl (fun hc => ?_) (fun hc => ?_)
        · have h := iq hc h
          exact x_sub [0] rfl (w_X7_takes_195 C  hE h ht)
        · have h := ip hc h
          refine x_iconst C (v := 1) dX7_takes_191 (by decide) 192 rfl ?_
          refine x_goto C dX7_takes_192 196 (by decide) ?_
          exact x_sub [0] rfl (w_X7_takes_196 C  hE h ht)
    · have h := ip hc h
      refine x_aload_n C dX7_takes_114 rfl 0 rfl 115 rfl ?_
      refine gf_775_29 C dX7_takes_115 118 rfl ?_
      refine x_iconst C (v := 3) dX7_takes_118 (by decide) 119 rfl ?_
      refine x_aload_n C dX7_takes_119 rfl 0 rfl 120 rfl ?_
      refine gf_774_29 C dX7_takes_120 123 rfl ?_
      refine x_imul C dX7_takes_123 124 rfl ?_
      refine x_iconst C (v := 1) dX7_takes_124 (by decide) 125 rfl ?_
      refine x_iadd C dX7_takes_125 126 rfl ?_
      refine x_iload_n C dX7_takes_126 rfl 2 rfl 127 rfl ?_
      obtain ⟨hin, h⟩ := gi_some h
      refine x_iast C 39 (gt_39 g _) (st_39 g _) hin dX7_takes_127 128 rfl ?_
      obtain ⟨σ127, e127, h⟩ := lt_some h
      refine x_we e127 ?_
      refine x_aload_n C dX7_takes_128 rfl 0 rfl 129 rfl ?_
      refine x_iload_n C dX7_takes_129 rfl 2 rfl 130 rfl ?_
      refine x_aload_n C dX7_takes_130 rfl 0 rfl 131 rfl ?_
      refine gf_775_29 C dX7_takes_131 134 rfl ?_
      refine x_iconst C (v := 3) dX7_takes_134 (by decide) 135 rfl ?_
      refine x_aload_n C dX7_takes_135 rfl 0 rfl 136 rfl ?_
      refine gf_774_29 C dX7_takes_136 139 rfl ?_
      refine x_imul C dX7_takes_139 140 rfl ?_
      obtain ⟨hin, h⟩ := gi_some h
      refine x_iald C 39 (gt_39 g _) hin dX7_takes_140 141 rfl ?_
      refine x_iconst C (v := 1) dX7_takes_141 (by decide) 142 rfl ?_
      refine x_iadd C dX7_takes_142 143 rfl ?_
      refine x_aload_n C dX7_takes_143 rfl 0 rfl 144 rfl ?_
      refine gf_759_29 C dX7_takes_144 147 rfl ?_
      refine x_iconst C (v := 1) dX7_takes_147 (by decide) 148 rfl ?_
      refine x_isub C dX7_takes_148 149 rfl ?_
      obtain ⟨r149, h149, h⟩ := bv_some h
      refine x_callS C [.int l2, .int ((σ127.1 39 (((3 : Int32) * (σ127.1 29 16)) : Int32).toNatClampNeg) + 1), .int ((σ127.1 29 1) - 1)] (c_X7_within  h149) mi_X7_within q_824 rfl ⟨rfl, rfl⟩ ⟨Nat.le_of_ble_eq_true rfl, Nat.le_of_ble_eq_true rfl⟩ ⟨Nat.zero_le _, Nat.zero_le _⟩ _ rfl (Nat.le_of_ble_eq_true rfl) dX7_takes_149 152 rfl ?_
      refine x_if_eq C dX7_takes_152 159 (by decide) 155 rfl (fun hc => ?_) (fun hc => ?_)
      · have h := ip hc h
        refine x_iconst C (v := 1) dX7_takes_159 (by decide) 160 rfl ?_
        exact x_sub [0] rfl (w_X7_takes_160 C  hE h ht)
      · have h := iq hc h
        refine x_iconst C (v := 2) dX7_takes_155 (by decide) 156 rfl ?_
        refine x_goto C dX7_takes_156 160 (by decide) ?_
        exact x_sub [0] rfl (w_X7_takes_160 C  hE h ht)
  · have h := ip hc h
    refine x_aload_n C dX7_takes_43 rfl 0 rfl 44 rfl ?_
    refine gf_775_29 C dX7_takes_44 47 rfl ?_
    refine x_iconst C (v := 3) dX7_takes_47 (by decide) 48 rfl ?_
    refine x_aload_n C dX7_takes_48 rfl 0 rfl 49 rfl ?_
    refine gf_774_29 C dX7_takes_49 52 rfl ?_
    refine x_imul C dX7_takes_52 53 rfl ?_
    refine x_iload_n C dX7_takes_53 rfl 2 rfl 54 rfl ?_
    obtain ⟨hin, h⟩ := gi_some h
    refine x_iast C 39 (gt_39 g _) (st_39 g _) hin dX7_takes_54 55 rfl ?_
    obtain ⟨σ54, e54, h⟩ := lt_some h
    refine x_we e54 ?_
    refine x_aload_n C dX7_takes_55 rfl 0 rfl 56 rfl ?_
    refine gf_775_29 C dX7_takes_56 59 rfl ?_
    refine x_iconst C (v := 3) dX7_takes_59 (by decide) 60 rfl ?_
    refine x_aload_n C dX7_takes_60 rfl 0 rfl 61 rfl ?_
    refine gf_774_29 C dX7_takes_61 64 rfl ?_
    refine x_imul C dX7_takes_64 65 rfl ?_
    refine x_iconst C (v := 2) dX7_takes_65 (by decide) 66 rfl ?_
    refine x_iadd C dX7_takes_66 67 rfl ?_
    refine x_iconst C (v := 0) dX7_takes_67 (by decide) 68 rfl ?_
    obtain ⟨hin, h⟩ := gi_some h
    refine x_iast C 39 (gt_39 g _) (st_39 g _) hin dX7_takes_68 69 rfl ?_
    obtain ⟨σ68, e68, h⟩ := lt_some h
    refine x_we e68 ?_
    refine x_aload_n C dX7_takes_69 rfl 0 rfl 70 rfl ?_
    refine x_iload_n C dX7_takes_70 rfl 2 rfl 71 rfl ?_
    refine x_iconst C (v := 0) dX7_takes_71 (by decide) 72 rfl ?_
    refine x_aload_n C dX7_takes_72 rfl 0 rfl 73 rfl ?_
    refine gf_759_29 C dX7_takes_73 76 rfl ?_
    refine x_iconst C (v := 2) dX7_takes_76 (by decide) 77 rfl ?_
    refine x_isub C dX7_takes_77 78 rfl ?_
    obtain ⟨r78, h78, h⟩ := bv_some h
    refine x_callS C [.int l2, .int 0, .int ((σ68.1 29 1) - 2)] (c_X7_within  h78) mi_X7_within q_824 rfl ⟨rfl, rfl⟩ ⟨Nat.le_of_ble_eq_true rfl, Nat.le_of_ble_eq_true rfl⟩ ⟨Nat.zero_le _, Nat.zero_le _⟩ _ rfl (Nat.le_of_ble_eq_true rfl) dX7_takes_78 81 rfl ?_
    refine x_if_eq C dX7_takes_81 88 (by decide) 84 rfl (fun hc => ?_) (fun hc => ?_)
    · have h := ip hc h
      refine x_iconst C (v := 0) dX7_takes_88 (by decide) 89 rfl ?_
      exact x_sub [0] rfl (w_X7_takes_89 C  hE h ht)
    · have h := iq hc h
      refine x_iconst C (v := 1) dX7_takes_84 (by decide) 85 rfl ?_
      refine x_goto C dX7_takes_85 89 (by decide) ?_
      exact x_sub [0] rfl (w_X7_takes_89 C  hE h ht)
set_option maxHeartbeats 4000000 in
set_option maxRecDepth 100000 in
theorem w_X7_takes {x : Cx} {g : Gb} {E : Int32 × WD → Prop} (C : CF x g RX7 cX7_takes 4 (rmk 2 24))  {a1 : Int32} {σ : WD} (hE : ∀ (a : Int32) (s2 : WD), E (a, s2) → ∀ pc lv, narrow .boolean (.int a) = .int a → decode cX7_takes pc = .ok (.ireturn, 1) → WW x g 4 0 0 pc lv [.int a] s2) {t : Int32 × WD} (h : f_X7_takes a1 σ = some t) (ht : E t) : WW x g 4 0 0 0 [(0, .ref (adr g 29)), (1, .int a1)] [] σ := by
  unfold f_X7_takes at h
  refine x_iload_n C dX7_takes_0 rfl 1 rfl 1 rfl ?_
  refine x_bipush C (v := 97) dX7_takes_1 (by decide) 3 rfl ?_
  refine x_isub C dX7_takes_3 4 rfl ?_
  refine x_istore_n C [(2, .int (a1 - 97)), (0, .ref (adr g 29)), (1, .int a1)] dX7_takes_4 rfl (by decide) rfl 5 rfl ?_
  refine x_iload_n C dX7_takes_5 rfl 2 rfl 6 rfl ?_
  refine x_bipush C (v := 44) dX7_takes_6 (by decide) 8 rfl ?_
  refine x_icmp_ne C dX7_takes_8 36 (by decide) 11 rfl (fun hc => ?_) (fun hc => ?_)
  · have h := iq hc h
    exact x_sub [1, 2, 0] rfl (w_X7_takes_36 C  hE h ht)
  · have h := ip hc h
    refine x_aload_n C dX7_takes_11 rfl 1 rfl 12 rfl ?_
    refine gf_773_29 C dX7_takes_12 15 rfl ?_
    refine x_iconst C (v := 1) dX7_takes_15 (by decide) 16 rfl ?_
    refine x_icmp_le C dX7_takes_16 36 (by decide) 19 rfl (fun hc => ?_) (fun hc => ?_)
    · have h := ip hc h
      exact x_sub [1, 2, 0] rfl (w_X7_takes_36 C  hE h ht)
    · have h := iq hc h
      refine x_aload_n C dX7_takes_19 rfl 1 rfl 20 rfl ?_
      refine x_dup C dX7_takes_20 rfl 21 rfl ?_
      refine gf_774_29 C dX7_takes_21 24 rfl ?_
      refine x_iconst C (v := 1) dX7_takes_24 (by decide) 25 rfl ?_
      refine x_iadd C dX7_takes_25 26 rfl ?_
      refine pf_774_29 C dX7_takes_26 29 rfl ?_
      obtain ⟨σ26, e26, h⟩ := lt_some h
      refine x_we e26 ?_
      refine x_aload_n C dX7_takes_29 rfl 1 rfl 30 rfl ?_
      refine x_iconst C (v := 0) dX7_takes_30 (by decide) 31 rfl ?_
      refine pf_773_29 C dX7_takes_31 34 rfl ?_
      obtain ⟨σ31, e31, h⟩ := lt_some h
      refine x_we e31 ?_
      refine x_iconst C (v := 1) dX7_takes_34 (by decide) 35 rfl ?_
      cases h
      exact hE _ _ ht 35 _ rfl dX7_takes_35
set_option maxHeartbeats 4000000 in
set_option maxRecDepth 100000 in
theorem c_X7_takes {g : Gb} {l : Launch}  {a1 : Int32} {σ : WD} {r : Int32} {σ2 : WD} (h : f_X7_takes a1 σ = some (r, σ2)) : MC l g yX7_takes (.code yX7_takes cX7_takes 4 (some (.boolean))) (rmk 2 24) [.ref (adr g 29), .int a1] σ (some (.int r)) σ2 := by
  refine MC.of (by decide) (Nat.le_of_ble_eq_true rfl) (fun x C hl hr hq => ?_)
  subst hl
  exact w_X7_takes (E := fun z => z = (r, σ2)) C  (fun a s2 he pc lv hn hd => by cases he; exact x_zret C hr hq hn hd) h rfl
set_option maxHeartbeats 4000000 in
set_option maxRecDepth 100000 in
theorem w_X7_rightLength_b12 {x : Cx} {g : Gb} {E : (Int32 × WD) ⊕ (Int32 × WD) → Prop} (C : CF x g RX7 cX7_rightLength 2 (rmk 3 48))  {l1 : Int32} {σ : WD} (hI0 : ∀ s, E (.inl s) → WW x g 2 0 0 12 [(0, .ref (adr g 29)), (1, .int s.1)] [] s.2) (hE : ∀ (a : Int32) (s2 : WD), E (.inr (a, s2)) → ∀ pc lv, decode cX7_rightLength pc = .ok (.ireturn, 1) → WW x g 2 0 0 pc lv [.int a] s2) {t : (Int32 × WD) ⊕ (Int32 × WD)} (h : f_X7_rightLength_b12 l1 σ = some t) (ht : E t) : WW x g 2 0 0 12 [(0, .ref (adr g 29)), (1, .int l1)] [] σ := by
  unfold f_X7_rightLength_b12 at h
  refine x_iload_n C dX7_rightLength_12 rfl 1 rfl 13 rfl ?_
  refine x_aload_n C dX7_rightLength_13 rfl 0 rfl 14 rfl ?_
  refine gf_764_29 C dX7_rightLength_14 17 rfl ?_
  refine x_icmp_ge C dX7_rightLength_17 39 (by decide) 20 rfl (fun hc => ?_) (fun hc => ?_)
  · have h := ip hc h
    refine x_iload_n C dX7_rightLength_39 rfl 1 rfl 40 rfl ?_
    cases h
    exact hE _ _ ht 40 _ dX7_rightLength_40
  · have h := iq hc h
    refine x_aload_n C dX7_rightLength_20 rfl 0 rfl 21 rfl ?_
    refine x_aload_n C dX7_rightLength_21 rfl 0 rfl 22 rfl ?_
    refine gf_765_29 C dX7_rightLength_22 25 rfl ?_
    refine x_iload_n C dX7_rightLength_25 rfl 1 rfl 26 rfl ?_
    obtain ⟨hin, h⟩ := gi_some h
    refine x_iald C 33 (gt_33 g _) hin dX7_rightLength_26 27 rfl ?_
    obtain ⟨r27, σ27, h27, h⟩ := bn_some h
    refine x_callV C 29 [.int (σ.1 33 (l1 : Int32).toNatClampNeg)] (c_X7_takes  h27) mi_X7_takes (gt_29 g _) rfl q_866 rfl ⟨rfl, rfl⟩ ⟨Nat.le_of_ble_eq_true rfl, Nat.le_of_ble_eq_true rfl⟩ ⟨Nat.zero_le _, Nat.zero_le _⟩ _ rfl (Nat.le_of_ble_eq_true rfl) dX7_rightLength_27 30 rfl ?_
    refine x_if_eq C dX7_rightLength_30 39 (by decide) 33 rfl (fun hc => ?_) (fun hc => ?_)
    · have h := ip hc h
      refine x_iload_n C dX7_rightLength_39 rfl 1 rfl 40 rfl ?_
      cases h
      exact hE _ _ ht 40 _ dX7_rightLength_40
    · have h := iq hc h
      refine x_iinc C [(1, .int (l1 + 1)), (0, .ref (adr g 29))] dX7_rightLength_33 1 rfl rfl (by decide) rfl 36 rfl ?_
      refine x_goto C dX7_rightLength_36 12 (by decide) ?_
      cases h
      exact x_sub [1, 0] rfl (hI0 ((l1 + 1), σ27) ht)
set_option maxHeartbeats 4000000 in
set_option maxRecDepth 100000 in
theorem w_X7_rightLength_12 {x : Cx} {g : Gb} {E : Int32 × WD → Prop} (C : CF x g RX7 cX7_rightLength 2 (rmk 3 48))  {l1 : Int32} {σ : WD} (hE : ∀ (a : Int32) (s2 : WD), E (a, s2) → ∀ pc lv, decode cX7_rightLength pc = .ok (.ireturn, 1) → WW x g 2 0 0 pc lv [.int a] s2) {t : Int32 × WD} (h : f_X7_rightLength_12 l1 σ = some t) (ht : E t) : WW x g 2 0 0 12 [(0, .ref (adr g 29)), (1, .int l1)] [] σ := by
  unfold f_X7_rightLength_12 at h
  exact lp_ind (fun s : Int32 × WD => WW x g 2 0 0 12 [(0, .ref (adr g 29)), (1, .int s.1)] [] s.2) E h ht (fun s y hb hy => w_X7_rightLength_b12 (E := Sum.elim (fun s : Int32 × WD => WW x g 2 0 0 12 [(0, .ref (adr g 29)), (1, .int s.1)] [] s.2) E) C  (fun _ h => h)  hE hb hy)
set_option maxHeartbeats 4000000 in
set_option maxRecDepth 100000 in
theorem w_X7_rightLength {x : Cx} {g : Gb} {E : Int32 × WD → Prop} (C : CF x g RX7 cX7_rightLength 2 (rmk 3 48))   {σ : WD} (hE : ∀ (a : Int32) (s2 : WD), E (a, s2) → ∀ pc lv, decode cX7_rightLength pc = .ok (.ireturn, 1) → WW x g 2 0 0 pc lv [.int a] s2) {t : Int32 × WD} (h : f_X7_rightLength  σ = some t) (ht : E t) : WW x g 2 0 0 0 [(0, .ref (adr g 29))] [] σ := by
  unfold f_X7_rightLength at h
  refine x_aload_n C dX7_rightLength_0 rfl 0 rfl 1 rfl ?_
  refine x_iconst C (v := 0) dX7_rightLength_1 (by decide) 2 rfl ?_
  refine pf_773_29 C dX7_rightLength_2 5 rfl ?_
  obtain ⟨σ2, e2, h⟩ := lt_some h
  refine x_we e2 ?_
  refine x_aload_n C dX7_rightLength_5 rfl 0 rfl 6 rfl ?_
  refine x_iconst C (v := 0) dX7_rightLength_6 (by decide) 7 rfl ?_
  refine pf_774_29 C dX7_rightLength_7 10 rfl ?_
  obtain ⟨σ7, e7, h⟩ := lt_some h
  refine x_we e7 ?_
  refine x_iconst C (v := 0) dX7_rightLength_10 (by decide) 11 rfl ?_
  refine x_istore_n C [(1, .int 0), (0, .ref (adr g 29))] dX7_rightLength_11 rfl (by decide) rfl 12 rfl ?_
  exact x_sub [1, 0] rfl (w_X7_rightLength_12 C  hE h ht)
set_option maxHeartbeats 4000000 in
set_option maxRecDepth 100000 in
theorem c_X7_rightLength {g : Gb} {l : Launch}   {σ : WD} {r : Int32} {σ2 : WD} (h : f_X7_rightLength  σ = some (r, σ2)) : MC l g yX7_rightLength (.code yX7_rightLength cX7_rightLength 2 (some (.int))) (rmk 3 48) [.ref (adr g 29)] σ (some (.int r)) σ2 := by
  refine MC.of (by decide) (Nat.le_of_ble_eq_true rfl) (fun x C hl hr hq => ?_)
  subst hl
  exact w_X7_rightLength (E := fun z => z = (r, σ2)) C  (fun a s2 he pc lv hd => by cases he; exact x_iret C hr hq hd) h rfl
set_option maxHeartbeats 4000000 in
set_option maxRecDepth 100000 in
theorem w_X7_firstError {x : Cx} {g : Gb} {E : Int32 × WD → Prop} (C : CF x g RX7 cX7_firstError 1 (rmk 4 70))   {σ : WD} (hE : ∀ (a : Int32) (s2 : WD), E (a, s2) → ∀ pc lv, decode cX7_firstError pc = .ok (.ireturn, 1) → WW x g 1 0 0 pc lv [.int a] s2) {t : Int32 × WD} (h : f_X7_firstError  σ = some t) (ht : E t) : WW x g 1 0 0 0 [(0, .ref (adr g 29))] [] σ := by
  unfold f_X7_firstError at h
  refine x_aload_n C dX7_firstError_0 rfl 0 rfl 1 rfl ?_
  refine x_iconst C (v := 0) dX7_firstError_1 (by decide) 2 rfl ?_
  refine pf_758_29 C dX7_firstError_2 5 rfl ?_
  obtain ⟨σ2, e2, h⟩ := lt_some h
  refine x_we e2 ?_
  refine x_aload_n C dX7_firstError_5 rfl 0 rfl 6 rfl ?_
  obtain ⟨r6, σ6, h6, h⟩ := bn_some h
  refine x_callV C 29 [] (c_X7_rightLength  h6) mi_X7_rightLength (gt_29 g _) rfl q_862 rfl ⟨rfl, rfl⟩ ⟨Nat.le_of_ble_eq_true rfl, Nat.le_of_ble_eq_true rfl⟩ ⟨Nat.zero_le _, Nat.zero_le _⟩ _ rfl (Nat.le_of_ble_eq_true rfl) dX7_firstError_6 9 rfl ?_
  cases h
  exact hE _ _ ht 9 _ dX7_firstError_9
set_option maxHeartbeats 4000000 in
set_option maxRecDepth 100000 in
theorem c_X7_firstError {g : Gb} {l : Launch}   {σ : WD} {r : Int32} {σ2 : WD} (h : f_X7_firstError  σ = some (r, σ2)) : MC l g yX7_firstError (.code yX7_firstError cX7_firstError 1 (some (.int))) (rmk 4 70) [.ref (adr g 29)] σ (some (.int r)) σ2 := by
  refine MC.of (by decide) (Nat.le_of_ble_eq_true rfl) (fun x C hl hr hq => ?_)
  subst hl
  exact w_X7_firstError (E := fun z => z = (r, σ2)) C  (fun a s2 he pc lv hd => by cases he; exact x_iret C hr hq hd) h rfl
set_option maxHeartbeats 4000000 in
set_option maxRecDepth 100000 in
theorem w_X7_load_146 {x : Cx} {g : Gb} {E : Int32 × WD → Prop} (C : CF x g RX7 cX7_load 5 (rmk 4 70))  {l1 : Int32} {σ : WD} (hE : ∀ (a : Int32) (s2 : WD), E (a, s2) → ∀ pc lv, decode cX7_load pc = .ok (.ireturn, 1) → WW x g 5 0 0 pc lv [.int a] s2) {t : Int32 × WD} (h : f_X7_load_146 l1 σ = some t) (ht : E t) : WW x g 5 0 0 146 [(0, .ref (adr g 29)), (1, .int l1)] [] σ := by
  unfold f_X7_load_146 at h
  refine x_aload_n C dX7_load_146 rfl 0 rfl 147 rfl ?_
  refine x_iconst C (v := 0) dX7_load_147 (by decide) 148 rfl ?_
  refine pf_764_29 C dX7_load_148 151 rfl ?_
  obtain ⟨σ148, e148, h⟩ := lt_some h
  refine x_we e148 ?_
  refine x_iload_n C dX7_load_151 rfl 1 rfl 152 rfl ?_
  cases h
  exact hE _ _ ht 152 _ dX7_load_152
set_option maxHeartbeats 4000000 in
set_option maxRecDepth 100000 in
theorem w_X7_load_98 {x : Cx} {g : Gb} {E : (Int32 × Int32 × WD) ⊕ (Int32 × WD) → Prop} (C : CF x g RX7 cX7_load 5 (rmk 4 70))  {l1 : Int32} {l2 : Int32} {l3 : Int32} {l4 : Int32} {σ : WD} (hI0 : ∀ s, E (.inl s) → WW x g 5 0 0 45 [(0, .ref (adr g 29)), (1, .int s.1), (2, .int s.2.1)] [] s.2.2) (hE : ∀ (a : Int32) (s2 : WD), E (.inr (a, s2)) → ∀ pc lv, decode cX7_load pc = .ok (.ireturn, 1) → WW x g 5 0 0 pc lv [.int a] s2) {t : (Int32 × Int32 × WD) ⊕ (Int32 × WD)} (h : f_X7_load_98 l1 l2 l3 l4 σ = some t) (ht : E t) : WW x g 5 0 0 98 [(0, .ref (adr g 29)), (1, .int l1), (2, .int l2), (3, .int l3), (4, .int l4)] [] σ := by
  unfold f_X7_load_98 at h
  refine x_aload_n C dX7_load_98 rfl 0 rfl 99 rfl ?_
  refine gf_775_29 C dX7_load_99 102 rfl ?_
  refine x_iconst C (v := 3) dX7_load_102 (by decide) 103 rfl ?_
  refine x_iload_n C dX7_load_103 rfl 2 rfl 104 rfl ?_
  refine x_imul C dX7_load_104 105 rfl ?_
  refine x_iconst C (v := 2) dX7_load_105 (by decide) 106 rfl ?_
  refine x_iadd C dX7_load_106 107 rfl ?_
  obtain ⟨hin, h⟩ := gi_some h
  refine x_iald C 39 (gt_39 g _) hin dX7_load_107 108 rfl ?_
  refine x_iconst C (v := 1) dX7_load_108 (by decide) 109 rfl ?_
  refine x_icmp_ne C dX7_load_109 140 (by decide) 112 rfl (fun hc => ?_) (fun hc => ?_)
  · have h := iq hc h
    refine x_iinc C [(2, .int (l2 + 1)), (0, .ref (adr g 29)), (1, .int l1), (3, .int l3), (4, .int l4)] dX7_load_140 2 rfl rfl (by decide) rfl 143 rfl ?_
    refine x_goto C dX7_load_143 45 (by decide) ?_
    cases h
    exact x_sub [1, 2, 0] rfl (hI0 (l1, (l2 + 1), σ) ht)
  · have h := ip hc h
    refine x_aload_n C dX7_load_112 rfl 0 rfl 113 rfl ?_
    refine gf_761_29 C dX7_load_113 116 rfl ?_
    refine x_iload_n C dX7_load_116 rfl 3 rfl 117 rfl ?_
    obtain ⟨hin, h⟩ := gi_some h
    refine x_iald C 31 (gt_31 g _) hin dX7_load_117 118 rfl ?_
    refine x_iconst C (v := -1) dX7_load_118 (by decide) 119 rfl ?_
    refine x_icmp_ne C dX7_load_119 140 (by decide) 122 rfl (fun hc => ?_) (fun hc => ?_)
    · have h := iq hc h
      refine x_iinc C [(2, .int (l2 + 1)), (0, .ref (adr g 29)), (1, .int l1), (3, .int l3), (4, .int l4)] dX7_load_140 2 rfl rfl (by decide) rfl 143 rfl ?_
      refine x_goto C dX7_load_143 45 (by decide) ?_
      cases h
      exact x_sub [1, 2, 0] rfl (hI0 (l1, (l2 + 1), σ) ht)
    · have h := ip hc h
      refine x_aload_n C dX7_load_122 rfl 0 rfl 123 rfl ?_
      refine gf_761_29 C dX7_load_123 126 rfl ?_
      refine x_iload C dX7_load_126 4 rfl 128 rfl ?_
      obtain ⟨hin, h⟩ := gi_some h
      refine x_iald C 31 (gt_31 g _) hin dX7_load_128 129 rfl ?_
      refine x_iconst C (v := -1) dX7_load_129 (by decide) 130 rfl ?_
      refine x_icmp_ne C dX7_load_130 140 (by decide) 133 rfl (fun hc => ?_) (fun hc => ?_)
      · have h := iq hc h
        refine x_iinc C [(2, .int (l2 + 1)), (0, .ref (adr g 29)), (1, .int l1), (3, .int l3), (4, .int l4)] dX7_load_140 2 rfl rfl (by decide) rfl 143 rfl ?_
        refine x_goto C dX7_load_143 45 (by decide) ?_
        cases h
        exact x_sub [1, 2, 0] rfl (hI0 (l1, (l2 + 1), σ) ht)
      · have h := ip hc h
        refine x_aload_n C dX7_load_133 rfl 0 rfl 134 rfl ?_
        refine x_iload_n C dX7_load_134 rfl 3 rfl 135 rfl ?_
        refine x_iload C dX7_load_135 4 rfl 137 rfl ?_
        obtain ⟨σ137, h137, h⟩ := bv_some h
        refine x_callV C 29 [.int l3, .int l4] (c_X7_pair  h137) mi_X7_pair (gt_29 g _) rfl q_874 rfl ⟨rfl, rfl⟩ ⟨Nat.le_of_ble_eq_true rfl, Nat.le_of_ble_eq_true rfl⟩ ⟨Nat.zero_le _, Nat.zero_le _⟩ _ rfl (Nat.le_of_ble_eq_true rfl) dX7_load_137 140 rfl ?_
        refine x_iinc C [(2, .int (l2 + 1)), (0, .ref (adr g 29)), (1, .int l1), (3, .int l3), (4, .int l4)] dX7_load_140 2 rfl rfl (by decide) rfl 143 rfl ?_
        refine x_goto C dX7_load_143 45 (by decide) ?_
        cases h
        exact x_sub [1, 2, 0] rfl (hI0 (l1, (l2 + 1), σ137) ht)
set_option maxHeartbeats 4000000 in
set_option maxRecDepth 100000 in
theorem w_X7_load_b45 {x : Cx} {g : Gb} {E : (Int32 × Int32 × WD) ⊕ (Int32 × WD) → Prop} (C : CF x g RX7 cX7_load 5 (rmk 4 70))  {l1 : Int32} {l2 : Int32} {σ : WD} (hI0 : ∀ s, E (.inl s) → WW x g 5 0 0 45 [(0, .ref (adr g 29)), (1, .int s.1), (2, .int s.2.1)] [] s.2.2) (hE : ∀ (a : Int32) (s2 : WD), E (.inr (a, s2)) → ∀ pc lv, decode cX7_load pc = .ok (.ireturn, 1) → WW x g 5 0 0 pc lv [.int a] s2) {t : (Int32 × Int32 × WD) ⊕ (Int32 × WD)} (h : f_X7_load_b45 l1 l2 σ = some t) (ht : E t) : WW x g 5 0 0 45 [(0, .ref (adr g 29)), (1, .int l1), (2, .int l2)] [] σ := by
  unfold f_X7_load_b45 at h
  refine x_iload_n C dX7_load_45 rfl 2 rfl 46 rfl ?_
  refine x_aload_n C dX7_load_46 rfl 0 rfl 47 rfl ?_
  refine gf_774_29 C dX7_load_47 50 rfl ?_
  refine x_icmp_gt C dX7_load_50 146 (by decide) 53 rfl (fun hc => ?_) (fun hc => ?_)
  · have h := ip hc h
    obtain ⟨_, hm0, rfl⟩ := mr_some h
    exact x_sub [0, 1] rfl (w_X7_load_146 (E := fun r => E (.inr r)) C  hE hm0 ht)
  · have h := iq hc h
    refine x_aload_n C dX7_load_53 rfl 0 rfl 54 rfl ?_
    refine gf_775_29 C dX7_load_54 57 rfl ?_
    refine x_iconst C (v := 3) dX7_load_57 (by decide) 58 rfl ?_
    refine x_iload_n C dX7_load_58 rfl 2 rfl 59 rfl ?_
    refine x_imul C dX7_load_59 60 rfl ?_
    obtain ⟨hin, h⟩ := gi_some h
    refine x_iald C 39 (gt_39 g _) hin dX7_load_60 61 rfl ?_
    obtain ⟨v61, e61, h⟩ := li_some h
    refine x_te e61 ?_
    refine x_istore_n C [(3, .int v61), (0, .ref (adr g 29)), (1, .int l1), (2, .int l2)] dX7_load_61 rfl (by decide) rfl 62 rfl ?_
    refine x_aload_n C dX7_load_62 rfl 1 rfl 63 rfl ?_
    refine gf_775_29 C dX7_load_63 66 rfl ?_
    refine x_iconst C (v := 3) dX7_load_66 (by decide) 67 rfl ?_
    refine x_iload_n C dX7_load_67 rfl 3 rfl 68 rfl ?_
    refine x_imul C dX7_load_68 69 rfl ?_
    refine x_iconst C (v := 1) dX7_load_69 (by decide) 70 rfl ?_
    refine x_iadd C dX7_load_70 71 rfl ?_
    obtain ⟨hin, h⟩ := gi_some h
    refine x_iald C 39 (gt_39 g _) hin dX7_load_71 72 rfl ?_
    obtain ⟨v72, e72, h⟩ := li_some h
    refine x_te e72 ?_
    refine x_istore C [(4, .int v72), (3, .int v61), (0, .ref (adr g 29)), (1, .int l1), (2, .int l2)] dX7_load_72 (by decide) rfl 74 rfl ?_
    refine x_aload_n C dX7_load_74 rfl 2 rfl 75 rfl ?_
    refine gf_760_29 C dX7_load_75 78 rfl ?_
    refine x_iload_n C dX7_load_78 rfl 1 rfl 79 rfl ?_
    obtain ⟨hin, h⟩ := gi_some h
    refine x_iald C 30 (gt_30 g _) hin dX7_load_79 80 rfl ?_
    refine x_iload C dX7_load_80 0 rfl 82 rfl ?_
    obtain ⟨r82, h82, h⟩ := bv_some h
    refine x_callS C [.int (σ.1 30 (v61 : Int32).toNatClampNeg), .int v72] (c_X7_has  h82) mi_X7_has q_839 rfl ⟨rfl, rfl⟩ ⟨Nat.le_of_ble_eq_true rfl, Nat.le_of_ble_eq_true rfl⟩ ⟨Nat.zero_le _, Nat.zero_le _⟩ _ rfl (Nat.le_of_ble_eq_true rfl) dX7_load_82 85 rfl ?_
    refine x_if_ne C dX7_load_85 98 (by decide) 88 rfl (fun hc => ?_) (fun hc => ?_)
    · have h := iq hc h
      exact x_sub [2, 3, 4, 1, 0] rfl (w_X7_load_98 C  hI0 hE h ht)
    · have h := ip hc h
      refine x_aload_n C dX7_load_88 rfl 2 rfl 89 rfl ?_
      refine x_iload_n C dX7_load_89 rfl 1 rfl 90 rfl ?_
      refine x_iload C dX7_load_90 0 rfl 92 rfl ?_
      obtain ⟨σ92, h92, h⟩ := bv_some h
      refine x_callV C 29 [.int v61, .int v72] (c_X7_flip  h92) mi_X7_flip (gt_29 g _) rfl q_842 rfl ⟨rfl, rfl⟩ ⟨Nat.le_of_ble_eq_true rfl, Nat.le_of_ble_eq_true rfl⟩ ⟨Nat.zero_le _, Nat.zero_le _⟩ _ rfl (Nat.le_of_ble_eq_true rfl) dX7_load_92 95 rfl ?_
      refine x_iinc C [(1, .int (l1 + 1)), (4, .int v72), (3, .int v61), (0, .ref (adr g 29)), (2, .int l2)] dX7_load_95 3 rfl rfl (by decide) rfl 98 rfl ?_
      exact x_sub [3, 0, 4, 2, 1] rfl (w_X7_load_98 C  hI0 hE h ht)
set_option maxHeartbeats 4000000 in
set_option maxRecDepth 100000 in
theorem w_X7_load_45 {x : Cx} {g : Gb} {E : Int32 × WD → Prop} (C : CF x g RX7 cX7_load 5 (rmk 4 70))  {l1 : Int32} {l2 : Int32} {σ : WD} (hE : ∀ (a : Int32) (s2 : WD), E (a, s2) → ∀ pc lv, decode cX7_load pc = .ok (.ireturn, 1) → WW x g 5 0 0 pc lv [.int a] s2) {t : Int32 × WD} (h : f_X7_load_45 l1 l2 σ = some t) (ht : E t) : WW x g 5 0 0 45 [(0, .ref (adr g 29)), (1, .int l1), (2, .int l2)] [] σ := by
  unfold f_X7_load_45 at h
  exact lp_ind (fun s : Int32 × Int32 × WD => WW x g 5 0 0 45 [(0, .ref (adr g 29)), (1, .int s.1), (2, .int s.2.1)] [] s.2.2) E h ht (fun s y hb hy => w_X7_load_b45 (E := Sum.elim (fun s : Int32 × Int32 × WD => WW x g 5 0 0 45 [(0, .ref (adr g 29)), (1, .int s.1), (2, .int s.2.1)] [] s.2.2) E) C  (fun _ h => h)  hE hb hy)
set_option maxHeartbeats 4000000 in
set_option maxRecDepth 100000 in
theorem w_X7_load_25 {x : Cx} {g : Gb} {E : Int32 × WD → Prop} (C : CF x g RX7 cX7_load 5 (rmk 4 70))  {s0 : Int32} {σ : WD} (hE : ∀ (a : Int32) (s2 : WD), E (a, s2) → ∀ pc lv, decode cX7_load pc = .ok (.ireturn, 1) → WW x g 5 0 0 pc lv [.int a] s2) {t : Int32 × WD} (h : f_X7_load_25 s0 σ = some t) (ht : E t) : WW x g 5 0 0 25 [(0, .ref (adr g 29))] [.int s0, .ref (adr g 29)] σ := by
  unfold f_X7_load_25 at h
  refine pf_758_29 C dX7_load_25 28 rfl ?_
  obtain ⟨σ25, e25, h⟩ := lt_some h
  refine x_we e25 ?_
  refine x_aload_n C dX7_load_28 rfl 0 rfl 29 rfl ?_
  refine gf_758_29 C dX7_load_29 32 rfl ?_
  refine x_if_le C dX7_load_32 37 (by decide) 35 rfl (fun hc => ?_) (fun hc => ?_)
  · have h := ip hc h
    refine x_aload_n C dX7_load_37 rfl 0 rfl 38 rfl ?_
    obtain ⟨σ38, h38, h⟩ := bv_some h
    refine x_callV C 29 [] (c_X7_keep  h38) mi_X7_keep (gt_29 g _) rfl q_835 rfl ⟨rfl, rfl⟩ ⟨Nat.le_of_ble_eq_true rfl, Nat.le_of_ble_eq_true rfl⟩ ⟨Nat.zero_le _, Nat.zero_le _⟩ _ rfl (Nat.le_of_ble_eq_true rfl) dX7_load_38 41 rfl ?_
    refine x_iconst C (v := 0) dX7_load_41 (by decide) 42 rfl ?_
    refine x_istore_n C [(1, .int 0), (0, .ref (adr g 29))] dX7_load_42 rfl (by decide) rfl 43 rfl ?_
    refine x_iconst C (v := 0) dX7_load_43 (by decide) 44 rfl ?_
    refine x_istore_n C [(2, .int 0), (1, .int 0), (0, .ref (adr g 29))] dX7_load_44 rfl (by decide) rfl 45 rfl ?_
    exact x_sub [2, 1, 0] rfl (w_X7_load_45 C  hE h ht)
  · have h := iq hc h
    refine x_iconst C (v := 0) dX7_load_35 (by decide) 36 rfl ?_
    cases h
    exact hE _ _ ht 36 _ dX7_load_36
set_option maxHeartbeats 4000000 in
set_option maxRecDepth 100000 in
theorem w_X7_load_24 {x : Cx} {g : Gb} {E : Int32 × WD → Prop} (C : CF x g RX7 cX7_load 5 (rmk 4 70))   {σ : WD} (hE : ∀ (a : Int32) (s2 : WD), E (a, s2) → ∀ pc lv, decode cX7_load pc = .ok (.ireturn, 1) → WW x g 5 0 0 pc lv [.int a] s2) {t : Int32 × WD} (h : f_X7_load_24  σ = some t) (ht : E t) : WW x g 5 0 0 24 [(0, .ref (adr g 29))] [.ref (adr g 29)] σ := by
  unfold f_X7_load_24 at h
  refine x_iconst C (v := 1) dX7_load_24 (by decide) 25 rfl ?_
  exact x_sub [0] rfl (w_X7_load_25 C  hE h ht)
set_option maxHeartbeats 4000000 in
set_option maxRecDepth 100000 in
theorem w_X7_load {x : Cx} {g : Gb} {E : Int32 × WD → Prop} (C : CF x g RX7 cX7_load 5 (rmk 4 70))   {σ : WD} (hE : ∀ (a : Int32) (s2 : WD), E (a, s2) → ∀ pc lv, decode cX7_load pc = .ok (.ireturn, 1) → WW x g 5 0 0 pc lv [.int a] s2) {t : Int32 × WD} (h : f_X7_load  σ = some t) (ht : E t) : WW x g 5 0 0 0 [(0, .ref (adr g 29))] [] σ := by
  unfold f_X7_load at h
  refine x_aload_n C dX7_load_0 rfl 0 rfl 1 rfl ?_
  refine x_aload_n C dX7_load_1 rfl 0 rfl 2 rfl ?_
  obtain ⟨r2, σ2, h2, h⟩ := bn_some h
  refine x_callV C 29 [] (c_X7_rightLength  h2) mi_X7_rightLength (gt_29 g _) rfl q_862 rfl ⟨rfl, rfl⟩ ⟨Nat.le_of_ble_eq_true rfl, Nat.le_of_ble_eq_true rfl⟩ ⟨Nat.zero_le _, Nat.zero_le _⟩ _ rfl (Nat.le_of_ble_eq_true rfl) dX7_load_2 5 rfl ?_
  refine x_aload_n C dX7_load_5 rfl 0 rfl 6 rfl ?_
  refine gf_764_29 C dX7_load_6 9 rfl ?_
  refine x_icmp_ne C dX7_load_9 24 (by decide) 12 rfl (fun hc => ?_) (fun hc => ?_)
  · have h := iq hc h
    exact x_sub [0] rfl (w_X7_load_24 C  hE h ht)
  · have h := ip hc h
    refine x_aload_n C dX7_load_12 rfl 0 rfl 13 rfl ?_
    refine gf_773_29 C dX7_load_13 16 rfl ?_
    refine x_iconst C (v := 1) dX7_load_16 (by decide) 17 rfl ?_
    refine x_icmp_le C dX7_load_17 24 (by decide) 20 rfl (fun hc => ?_) (fun hc => ?_)
    · have h := ip hc h
      exact x_sub [0] rfl (w_X7_load_24 C  hE h ht)
    · have h := iq hc h
      refine x_iconst C (v := 0) dX7_load_20 (by decide) 21 rfl ?_
      refine x_goto C dX7_load_21 25 (by decide) ?_
      exact x_sub [0] rfl (w_X7_load_25 C  hE h ht)
set_option maxHeartbeats 4000000 in
set_option maxRecDepth 100000 in
theorem c_X7_load {g : Gb} {l : Launch}   {σ : WD} {r : Int32} {σ2 : WD} (h : f_X7_load  σ = some (r, σ2)) : MC l g yX7_load (.code yX7_load cX7_load 5 (some (.int))) (rmk 4 70) [.ref (adr g 29)] σ (some (.int r)) σ2 := by
  refine MC.of (by decide) (Nat.le_of_ble_eq_true rfl) (fun x C hl hr hq => ?_)
  subst hl
  exact w_X7_load (E := fun z => z = (r, σ2)) C  (fun a s2 he pc lv hd => by cases he; exact x_iret C hr hq hd) h rfl
set_option maxHeartbeats 4000000 in
set_option maxRecDepth 100000 in
theorem w_X7_size_b4 {x : Cx} {g : Gb} {E : (Int32 × Int32) ⊕ (Int32) → Prop} (C : CF x g RX7 cX7_size 3 (rmk 1 1))  {l1 : Int32} {l2 : Int32} {σ : WD} (hI0 : ∀ s, E (.inl s) → WW x g 3 0 0 4 [(0, .ref (adr g 29)), (1, .int s.1), (2, .int s.2)] [] σ) (hE : ∀ (a : Int32), E (.inr a) → ∀ pc lv, decode cX7_size pc = .ok (.ireturn, 1) → WW x g 3 0 0 pc lv [.int a] σ) {t : (Int32 × Int32) ⊕ (Int32)} (h : f_X7_size_b4 l1 l2 σ = some t) (ht : E t) : WW x g 3 0 0 4 [(0, .ref (adr g 29)), (1, .int l1), (2, .int l2)] [] σ := by
  unfold f_X7_size_b4 at h
  refine x_iload_n C dX7_size_4 rfl 2 rfl 5 rfl ?_
  refine x_aload_n C dX7_size_5 rfl 0 rfl 6 rfl ?_
  refine gf_759_29 C dX7_size_6 9 rfl ?_
  refine x_icmp_ge C dX7_size_9 36 (by decide) 12 rfl (fun hc => ?_) (fun hc => ?_)
  · have h := ip hc h
    refine x_iload_n C dX7_size_36 rfl 1 rfl 37 rfl ?_
    cases h
    exact hE _ ht 37 _ dX7_size_37
  · have h := iq hc h
    refine x_iload_n C dX7_size_12 rfl 1 rfl 13 rfl ?_
    refine x_aload_n C dX7_size_13 rfl 0 rfl 14 rfl ?_
    refine gf_761_29 C dX7_size_14 17 rfl ?_
    refine x_iload_n C dX7_size_17 rfl 2 rfl 18 rfl ?_
    obtain ⟨hin, h⟩ := gi_some h
    refine x_iald C 31 (gt_31 g _) hin dX7_size_18 19 rfl ?_
    refine x_iload_n C dX7_size_19 rfl 2 rfl 20 rfl ?_
    refine x_icmp_le C dX7_size_20 27 (by decide) 23 rfl (fun hc => ?_) (fun hc => ?_)
    · have h := ip hc h
      refine x_iconst C (v := 0) dX7_size_27 (by decide) 28 rfl ?_
      refine x_iadd C dX7_size_28 29 rfl ?_
      refine x_istore_n C [(1, .int (l1 + 0)), (0, .ref (adr g 29)), (2, .int l2)] dX7_size_29 rfl (by decide) rfl 30 rfl ?_
      refine x_iinc C [(2, .int (l2 + 1)), (1, .int (l1 + 0)), (0, .ref (adr g 29))] dX7_size_30 2 rfl rfl (by decide) rfl 33 rfl ?_
      refine x_goto C dX7_size_33 4 (by decide) ?_
      cases h
      exact x_sub [2, 1, 0] rfl (hI0 ((l1 + 0), (l2 + 1)) ht)
    · have h := iq hc h
      refine x_iconst C (v := 1) dX7_size_23 (by decide) 24 rfl ?_
      refine x_goto C dX7_size_24 28 (by decide) ?_
      refine x_iadd C dX7_size_28 29 rfl ?_
      refine x_istore_n C [(1, .int (l1 + 1)), (0, .ref (adr g 29)), (2, .int l2)] dX7_size_29 rfl (by decide) rfl 30 rfl ?_
      refine x_iinc C [(2, .int (l2 + 1)), (1, .int (l1 + 1)), (0, .ref (adr g 29))] dX7_size_30 2 rfl rfl (by decide) rfl 33 rfl ?_
      refine x_goto C dX7_size_33 4 (by decide) ?_
      cases h
      exact x_sub [2, 1, 0] rfl (hI0 ((l1 + 1), (l2 + 1)) ht)
set_option maxHeartbeats 4000000 in
set_option maxRecDepth 100000 in
theorem w_X7_size_4 {x : Cx} {g : Gb} {E : Int32 → Prop} (C : CF x g RX7 cX7_size 3 (rmk 1 1))  {l1 : Int32} {l2 : Int32} {σ : WD} (hE : ∀ (a : Int32), E a → ∀ pc lv, decode cX7_size pc = .ok (.ireturn, 1) → WW x g 3 0 0 pc lv [.int a] σ) {t : Int32} (h : f_X7_size_4 l1 l2 σ = some t) (ht : E t) : WW x g 3 0 0 4 [(0, .ref (adr g 29)), (1, .int l1), (2, .int l2)] [] σ := by
  unfold f_X7_size_4 at h
  exact lp_ind (fun s : Int32 × Int32 => WW x g 3 0 0 4 [(0, .ref (adr g 29)), (1, .int s.1), (2, .int s.2)] [] σ) E h ht (fun s y hb hy => w_X7_size_b4 (E := Sum.elim (fun s : Int32 × Int32 => WW x g 3 0 0 4 [(0, .ref (adr g 29)), (1, .int s.1), (2, .int s.2)] [] σ) E) C  (fun _ h => h)  hE hb hy)
set_option maxHeartbeats 4000000 in
set_option maxRecDepth 100000 in
theorem w_X7_size {x : Cx} {g : Gb} {E : Int32 → Prop} (C : CF x g RX7 cX7_size 3 (rmk 1 1))   {σ : WD} (hE : ∀ (a : Int32), E a → ∀ pc lv, decode cX7_size pc = .ok (.ireturn, 1) → WW x g 3 0 0 pc lv [.int a] σ) {t : Int32} (h : f_X7_size  σ = some t) (ht : E t) : WW x g 3 0 0 0 [(0, .ref (adr g 29))] [] σ := by
  unfold f_X7_size at h
  refine x_iconst C (v := 0) dX7_size_0 (by decide) 1 rfl ?_
  refine x_istore_n C [(1, .int 0), (0, .ref (adr g 29))] dX7_size_1 rfl (by decide) rfl 2 rfl ?_
  refine x_iconst C (v := 0) dX7_size_2 (by decide) 3 rfl ?_
  refine x_istore_n C [(2, .int 0), (1, .int 0), (0, .ref (adr g 29))] dX7_size_3 rfl (by decide) rfl 4 rfl ?_
  exact x_sub [2, 1, 0] rfl (w_X7_size_4 C  hE h ht)
set_option maxHeartbeats 4000000 in
set_option maxRecDepth 100000 in
theorem c_X7_size {g : Gb} {l : Launch}   {σ : WD} {r : Int32} (h : f_X7_size  σ = some r) : MC l g yX7_size (.code yX7_size cX7_size 3 (some (.int))) (rmk 1 1) [.ref (adr g 29)] σ (some (.int r)) σ := by
  refine MC.of (by decide) (Nat.le_of_ble_eq_true rfl) (fun x C hl hr hq => ?_)
  subst hl
  exact w_X7_size (E := fun z => z = r) C  (fun a he pc lv hd => by cases he; exact x_iret C hr hq hd) h rfl
set_option maxHeartbeats 4000000 in
set_option maxRecDepth 100000 in
theorem w_X7_match_69 {x : Cx} {g : Gb} {E : Int32 × WD → Prop} (C : CF x g RX7 cX7_match 4 (rmk 3 46))  {l1 : Int32} {l2 : Int32} {s0 : Int32} {σ : WD} (hE : ∀ (a : Int32) (s2 : WD), E (a, s2) → ∀ pc lv, decode cX7_match pc = .ok (.ireturn, 1) → WW x g 4 0 0 pc lv [.int a] s2) {t : Int32 × WD} (h : f_X7_match_69 l1 l2 s0 σ = some t) (ht : E t) : WW x g 4 0 0 69 [(0, .ref (adr g 29)), (1, .int l1), (2, .int l2)] [.int s0, .ref (adr g 29)] σ := by
  unfold f_X7_match_69 at h
  refine pf_758_29 C dX7_match_69 72 rfl ?_
  obtain ⟨σ69, e69, h⟩ := lt_some h
  refine x_we e69 ?_
  refine x_aload_n C dX7_match_72 rfl 0 rfl 73 rfl ?_
  refine gf_758_29 C dX7_match_73 76 rfl ?_
  refine x_if_le C dX7_match_76 81 (by decide) 79 rfl (fun hc => ?_) (fun hc => ?_)
  · have h := ip hc h
    refine x_aload_n C dX7_match_81 rfl 0 rfl 82 rfl ?_
    obtain ⟨σ82, h82, h⟩ := bv_some h
    refine x_callV C 29 [] (c_X7_keep  h82) mi_X7_keep (gt_29 g _) rfl q_835 rfl ⟨rfl, rfl⟩ ⟨Nat.le_of_ble_eq_true rfl, Nat.le_of_ble_eq_true rfl⟩ ⟨Nat.zero_le _, Nat.zero_le _⟩ _ rfl (Nat.le_of_ble_eq_true rfl) dX7_match_82 85 rfl ?_
    refine x_aload_n C dX7_match_85 rfl 0 rfl 86 rfl ?_
    refine x_iload_n C dX7_match_86 rfl 1 rfl 87 rfl ?_
    refine x_iload_n C dX7_match_87 rfl 2 rfl 88 rfl ?_
    obtain ⟨σ88, h88, h⟩ := bv_some h
    refine x_callV C 29 [.int l1, .int l2] (c_X7_pair  h88) mi_X7_pair (gt_29 g _) rfl q_874 rfl ⟨rfl, rfl⟩ ⟨Nat.le_of_ble_eq_true rfl, Nat.le_of_ble_eq_true rfl⟩ ⟨Nat.zero_le _, Nat.zero_le _⟩ _ rfl (Nat.le_of_ble_eq_true rfl) dX7_match_88 91 rfl ?_
    refine x_aload_n C dX7_match_91 rfl 0 rfl 92 rfl ?_
    obtain ⟨r92, h92, h⟩ := bv_some h
    refine x_callV C 29 [] (c_X7_size  h92) mi_X7_size (gt_29 g _) rfl q_882 rfl ⟨rfl, rfl⟩ ⟨Nat.le_of_ble_eq_true rfl, Nat.le_of_ble_eq_true rfl⟩ ⟨Nat.zero_le _, Nat.zero_le _⟩ _ rfl (Nat.le_of_ble_eq_true rfl) dX7_match_92 95 rfl ?_
    cases h
    exact hE _ _ ht 95 _ dX7_match_95
  · have h := iq hc h
    refine x_iconst C (v := 0) dX7_match_79 (by decide) 80 rfl ?_
    cases h
    exact hE _ _ ht 80 _ dX7_match_80
set_option maxHeartbeats 4000000 in
set_option maxRecDepth 100000 in
theorem w_X7_match_64 {x : Cx} {g : Gb} {E : Int32 × WD → Prop} (C : CF x g RX7 cX7_match 4 (rmk 3 46))  {l1 : Int32} {l2 : Int32} {σ : WD} (hE : ∀ (a : Int32) (s2 : WD), E (a, s2) → ∀ pc lv, decode cX7_match pc = .ok (.ireturn, 1) → WW x g 4 0 0 pc lv [.int a] s2) {t : Int32 × WD} (h : f_X7_match_64 l1 l2 σ = some t) (ht : E t) : WW x g 4 0 0 64 [(0, .ref (adr g 29)), (1, .int l1), (2, .int l2)] [.ref (adr g 29)] σ := by
  unfold f_X7_match_64 at h
  refine x_iconst C (v := 2) dX7_match_64 (by decide) 65 rfl ?_
  refine x_goto C dX7_match_65 69 (by decide) ?_
  exact x_sub [0, 1, 2] rfl (w_X7_match_69 C  hE h ht)
set_option maxHeartbeats 4000000 in
set_option maxRecDepth 100000 in
theorem w_X7_match_21 {x : Cx} {g : Gb} {E : Int32 × WD → Prop} (C : CF x g RX7 cX7_match 4 (rmk 3 46))  {l1 : Int32} {l2 : Int32} {s0 : Int32} {σ : WD} (hE : ∀ (a : Int32) (s2 : WD), E (a, s2) → ∀ pc lv, decode cX7_match pc = .ok (.ireturn, 1) → WW x g 4 0 0 pc lv [.int a] s2) {t : Int32 × WD} (h : f_X7_match_21 l1 l2 s0 σ = some t) (ht : E t) : WW x g 4 0 0 21 [(0, .ref (adr g 29)), (1, .int l1), (2, .int l2)] [.int s0] σ := by
  unfold f_X7_match_21 at h
  refine x_istore_n C [(3, .int s0), (0, .ref (adr g 29)), (1, .int l1), (2, .int l2)] dX7_match_21 rfl (by decide) rfl 22 rfl ?_
  refine x_aload_n C dX7_match_22 rfl 1 rfl 23 rfl ?_
  refine x_iload_n C dX7_match_23 rfl 0 rfl 24 rfl ?_
  refine x_if_ne C dX7_match_24 31 (by decide) 27 rfl (fun hc => ?_) (fun hc => ?_)
  · have h := iq hc h
    refine x_aload_n C dX7_match_31 rfl 1 rfl 32 rfl ?_
    refine gf_760_29 C dX7_match_32 35 rfl ?_
    refine x_iload_n C dX7_match_35 rfl 2 rfl 36 rfl ?_
    obtain ⟨hin, h⟩ := gi_some h
    refine x_iald C 30 (gt_30 g _) hin dX7_match_36 37 rfl ?_
    refine x_iload_n C dX7_match_37 rfl 3 rfl 38 rfl ?_
    obtain ⟨r38, h38, h⟩ := bv_some h
    refine x_callS C [.int (σ.1 30 (l1 : Int32).toNatClampNeg), .int l2] (c_X7_has  h38) mi_X7_has q_839 rfl ⟨rfl, rfl⟩ ⟨Nat.le_of_ble_eq_true rfl, Nat.le_of_ble_eq_true rfl⟩ ⟨Nat.zero_le _, Nat.zero_le _⟩ _ rfl (Nat.le_of_ble_eq_true rfl) dX7_match_38 41 rfl ?_
    refine x_if_eq C dX7_match_41 64 (by decide) 44 rfl (fun hc => ?_) (fun hc => ?_)
    · have h := ip hc h
      exact x_sub [1, 2, 3] rfl (w_X7_match_64 C  hE h ht)
    · have h := iq hc h
      refine x_aload_n C dX7_match_44 rfl 1 rfl 45 rfl ?_
      refine gf_761_29 C dX7_match_45 48 rfl ?_
      refine x_iload_n C dX7_match_48 rfl 2 rfl 49 rfl ?_
      obtain ⟨hin, h⟩ := gi_some h
      refine x_iald C 31 (gt_31 g _) hin dX7_match_49 50 rfl ?_
      refine x_iconst C (v := -1) dX7_match_50 (by decide) 51 rfl ?_
      refine x_icmp_ne C dX7_match_51 64 (by decide) 54 rfl (fun hc => ?_) (fun hc => ?_)
      · have h := iq hc h
        exact x_sub [1, 2, 3] rfl (w_X7_match_64 C  hE h ht)
      · have h := ip hc h
        refine x_aload_n C dX7_match_54 rfl 1 rfl 55 rfl ?_
        refine gf_761_29 C dX7_match_55 58 rfl ?_
        refine x_iload_n C dX7_match_58 rfl 3 rfl 59 rfl ?_
        obtain ⟨hin, h⟩ := gi_some h
        refine x_iald C 31 (gt_31 g _) hin dX7_match_59 60 rfl ?_
        refine x_iconst C (v := -1) dX7_match_60 (by decide) 61 rfl ?_
        refine x_icmp_eq C dX7_match_61 68 (by decide) 64 rfl (fun hc => ?_) (fun hc => ?_)
        · have h := ip hc h
          refine x_iconst C (v := 0) dX7_match_68 (by decide) 69 rfl ?_
          exact x_sub [1, 2, 3] rfl (w_X7_match_69 C  hE h ht)
        · have h := iq hc h
          exact x_sub [1, 2, 3] rfl (w_X7_match_64 C  hE h ht)
  · have h := ip hc h
    refine x_iconst C (v := 1) dX7_match_27 (by decide) 28 rfl ?_
    refine x_goto C dX7_match_28 69 (by decide) ?_
    exact x_sub [1, 2, 3] rfl (w_X7_match_69 C  hE h ht)
set_option maxHeartbeats 4000000 in
set_option maxRecDepth 100000 in
theorem w_X7_match_20 {x : Cx} {g : Gb} {E : Int32 × WD → Prop} (C : CF x g RX7 cX7_match 4 (rmk 3 46))  {l1 : Int32} {l2 : Int32} {σ : WD} (hE : ∀ (a : Int32) (s2 : WD), E (a, s2) → ∀ pc lv, decode cX7_match pc = .ok (.ireturn, 1) → WW x g 4 0 0 pc lv [.int a] s2) {t : Int32 × WD} (h : f_X7_match_20 l1 l2 σ = some t) (ht : E t) : WW x g 4 0 0 20 [(0, .ref (adr g 29)), (1, .int l1), (2, .int l2)] [] σ := by
  unfold f_X7_match_20 at h
  refine x_iconst C (v := 0) dX7_match_20 (by decide) 21 rfl ?_
  exact x_sub [0, 1, 2] rfl (w_X7_match_21 C  hE h ht)
set_option maxHeartbeats 4000000 in
set_option maxRecDepth 100000 in
theorem w_X7_match {x : Cx} {g : Gb} {E : Int32 × WD → Prop} (C : CF x g RX7 cX7_match 4 (rmk 3 46))  {a1 : Int32} {a2 : Int32} {σ : WD} (hE : ∀ (a : Int32) (s2 : WD), E (a, s2) → ∀ pc lv, decode cX7_match pc = .ok (.ireturn, 1) → WW x g 4 0 0 pc lv [.int a] s2) {t : Int32 × WD} (h : f_X7_match a1 a2 σ = some t) (ht : E t) : WW x g 4 0 0 0 [(0, .ref (adr g 29)), (1, .int a1), (2, .int a2)] [] σ := by
  unfold f_X7_match at h
  refine x_aload_n C dX7_match_0 rfl 0 rfl 1 rfl ?_
  refine x_iload_n C dX7_match_1 rfl 1 rfl 2 rfl ?_
  obtain ⟨r2, h2, h⟩ := bv_some h
  refine x_callV C 29 [.int a1] (c_X7_isNode  h2) mi_X7_isNode (gt_29 g _) rfl q_831 rfl ⟨rfl, rfl⟩ ⟨Nat.le_of_ble_eq_true rfl, Nat.le_of_ble_eq_true rfl⟩ ⟨Nat.zero_le _, Nat.zero_le _⟩ _ rfl (Nat.le_of_ble_eq_true rfl) dX7_match_2 5 rfl ?_
  refine x_if_eq C dX7_match_5 20 (by decide) 8 rfl (fun hc => ?_) (fun hc => ?_)
  · have h := ip hc h
    exact x_sub [0, 1, 2] rfl (w_X7_match_20 C  hE h ht)
  · have h := iq hc h
    refine x_aload_n C dX7_match_8 rfl 0 rfl 9 rfl ?_
    refine x_iload_n C dX7_match_9 rfl 2 rfl 10 rfl ?_
    obtain ⟨r10, h10, h⟩ := bv_some h
    refine x_callV C 29 [.int a2] (c_X7_isNode  h10) mi_X7_isNode (gt_29 g _) rfl q_831 rfl ⟨rfl, rfl⟩ ⟨Nat.le_of_ble_eq_true rfl, Nat.le_of_ble_eq_true rfl⟩ ⟨Nat.zero_le _, Nat.zero_le _⟩ _ rfl (Nat.le_of_ble_eq_true rfl) dX7_match_10 13 rfl ?_
    refine x_if_eq C dX7_match_13 20 (by decide) 16 rfl (fun hc => ?_) (fun hc => ?_)
    · have h := ip hc h
      exact x_sub [0, 1, 2] rfl (w_X7_match_20 C  hE h ht)
    · have h := iq hc h
      refine x_iconst C (v := 1) dX7_match_16 (by decide) 17 rfl ?_
      refine x_goto C dX7_match_17 21 (by decide) ?_
      exact x_sub [0, 1, 2] rfl (w_X7_match_21 C  hE h ht)
set_option maxHeartbeats 4000000 in
set_option maxRecDepth 100000 in
theorem c_X7_match {g : Gb} {l : Launch}  {a1 : Int32} {a2 : Int32} {σ : WD} {r : Int32} {σ2 : WD} (h : f_X7_match a1 a2 σ = some (r, σ2)) : MC l g yX7_match (.code yX7_match cX7_match 4 (some (.int))) (rmk 3 46) [.ref (adr g 29), .int a1, .int a2] σ (some (.int r)) σ2 := by
  refine MC.of (by decide) (Nat.le_of_ble_eq_true rfl) (fun x C hl hr hq => ?_)
  subst hl
  exact w_X7_match (E := fun z => z = (r, σ2)) C  (fun a s2 he pc lv hd => by cases he; exact x_iret C hr hq hd) h rfl
set_option maxHeartbeats 4000000 in
set_option maxRecDepth 100000 in
theorem w_X7_unmatch_28 {x : Cx} {g : Gb} {E : Int32 × WD → Prop} (C : CF x g RX7 cX7_unmatch 3 (rmk 3 46))  {l1 : Int32} {s0 : Int32} {σ : WD} (hE : ∀ (a : Int32) (s2 : WD), E (a, s2) → ∀ pc lv, decode cX7_unmatch pc = .ok (.ireturn, 1) → WW x g 3 0 0 pc lv [.int a] s2) {t : Int32 × WD} (h : f_X7_unmatch_28 l1 s0 σ = some t) (ht : E t) : WW x g 3 0 0 28 [(0, .ref (adr g 29)), (1, .int l1)] [.int s0, .ref (adr g 29)] σ := by
  unfold f_X7_unmatch_28 at h
  refine pf_758_29 C dX7_unmatch_28 31 rfl ?_
  obtain ⟨σ28, e28, h⟩ := lt_some h
  refine x_we e28 ?_
  refine x_aload_n C dX7_unmatch_31 rfl 0 rfl 32 rfl ?_
  refine gf_758_29 C dX7_unmatch_32 35 rfl ?_
  refine x_if_le C dX7_unmatch_35 40 (by decide) 38 rfl (fun hc => ?_) (fun hc => ?_)
  · have h := ip hc h
    refine x_aload_n C dX7_unmatch_40 rfl 0 rfl 41 rfl ?_
    obtain ⟨σ41, h41, h⟩ := bv_some h
    refine x_callV C 29 [] (c_X7_keep  h41) mi_X7_keep (gt_29 g _) rfl q_835 rfl ⟨rfl, rfl⟩ ⟨Nat.le_of_ble_eq_true rfl, Nat.le_of_ble_eq_true rfl⟩ ⟨Nat.zero_le _, Nat.zero_le _⟩ _ rfl (Nat.le_of_ble_eq_true rfl) dX7_unmatch_41 44 rfl ?_
    refine x_aload_n C dX7_unmatch_44 rfl 0 rfl 45 rfl ?_
    refine gf_761_29 C dX7_unmatch_45 48 rfl ?_
    refine x_iload_n C dX7_unmatch_48 rfl 1 rfl 49 rfl ?_
    obtain ⟨hin, h⟩ := gi_some h
    refine x_iald C 31 (gt_31 g _) hin dX7_unmatch_49 50 rfl ?_
    obtain ⟨v50, e50, h⟩ := li_some h
    refine x_te e50 ?_
    refine x_istore_n C [(2, .int v50), (0, .ref (adr g 29)), (1, .int l1)] dX7_unmatch_50 rfl (by decide) rfl 51 rfl ?_
    refine x_aload_n C dX7_unmatch_51 rfl 1 rfl 52 rfl ?_
    refine x_iload_n C dX7_unmatch_52 rfl 2 rfl 53 rfl ?_
    obtain ⟨σ53, h53, h⟩ := bv_some h
    refine x_callV C 29 [.int l1] (c_X7_part  h53) mi_X7_part (gt_29 g _) rfl q_846 rfl ⟨rfl, rfl⟩ ⟨Nat.le_of_ble_eq_true rfl, Nat.le_of_ble_eq_true rfl⟩ ⟨Nat.zero_le _, Nat.zero_le _⟩ _ rfl (Nat.le_of_ble_eq_true rfl) dX7_unmatch_53 56 rfl ?_
    refine x_iload_n C dX7_unmatch_56 rfl 0 rfl 57 rfl ?_
    cases h
    exact hE _ _ ht 57 _ dX7_unmatch_57
  · have h := iq hc h
    refine x_iconst C (v := 0) dX7_unmatch_38 (by decide) 39 rfl ?_
    cases h
    exact hE _ _ ht 39 _ dX7_unmatch_39
set_option maxHeartbeats 4000000 in
set_option maxRecDepth 100000 in
theorem w_X7_unmatch {x : Cx} {g : Gb} {E : Int32 × WD → Prop} (C : CF x g RX7 cX7_unmatch 3 (rmk 3 46))  {a1 : Int32} {σ : WD} (hE : ∀ (a : Int32) (s2 : WD), E (a, s2) → ∀ pc lv, decode cX7_unmatch pc = .ok (.ireturn, 1) → WW x g 3 0 0 pc lv [.int a] s2) {t : Int32 × WD} (h : f_X7_unmatch a1 σ = some t) (ht : E t) : WW x g 3 0 0 0 [(0, .ref (adr g 29)), (1, .int a1)] [] σ := by
  unfold f_X7_unmatch at h
  refine x_aload_n C dX7_unmatch_0 rfl 0 rfl 1 rfl ?_
  refine x_aload_n C dX7_unmatch_1 rfl 0 rfl 2 rfl ?_
  refine x_iload_n C dX7_unmatch_2 rfl 1 rfl 3 rfl ?_
  obtain ⟨r3, h3, h⟩ := bv_some h
  refine x_callV C 29 [.int a1] (c_X7_isNode  h3) mi_X7_isNode (gt_29 g _) rfl q_831 rfl ⟨rfl, rfl⟩ ⟨Nat.le_of_ble_eq_true rfl, Nat.le_of_ble_eq_true rfl⟩ ⟨Nat.zero_le _, Nat.zero_le _⟩ _ rfl (Nat.le_of_ble_eq_true rfl) dX7_unmatch_3 6 rfl ?_
  refine x_if_ne C dX7_unmatch_6 13 (by decide) 9 rfl (fun hc => ?_) (fun hc => ?_)
  · have h := iq hc h
    refine x_aload_n C dX7_unmatch_13 rfl 0 rfl 14 rfl ?_
    refine gf_761_29 C dX7_unmatch_14 17 rfl ?_
    refine x_iload_n C dX7_unmatch_17 rfl 1 rfl 18 rfl ?_
    obtain ⟨hin, h⟩ := gi_some h
    refine x_iald C 31 (gt_31 g _) hin dX7_unmatch_18 19 rfl ?_
    refine x_iconst C (v := -1) dX7_unmatch_19 (by decide) 20 rfl ?_
    refine x_icmp_ne C dX7_unmatch_20 27 (by decide) 23 rfl (fun hc => ?_) (fun hc => ?_)
    · have h := iq hc h
      refine x_iconst C (v := 0) dX7_unmatch_27 (by decide) 28 rfl ?_
      exact x_sub [0, 1] rfl (w_X7_unmatch_28 C  hE h ht)
    · have h := ip hc h
      refine x_iconst C (v := 2) dX7_unmatch_23 (by decide) 24 rfl ?_
      refine x_goto C dX7_unmatch_24 28 (by decide) ?_
      exact x_sub [0, 1] rfl (w_X7_unmatch_28 C  hE h ht)
  · have h := ip hc h
    refine x_iconst C (v := 1) dX7_unmatch_9 (by decide) 10 rfl ?_
    refine x_goto C dX7_unmatch_10 28 (by decide) ?_
    exact x_sub [0, 1] rfl (w_X7_unmatch_28 C  hE h ht)
set_option maxHeartbeats 4000000 in
set_option maxRecDepth 100000 in
theorem c_X7_unmatch {g : Gb} {l : Launch}  {a1 : Int32} {σ : WD} {r : Int32} {σ2 : WD} (h : f_X7_unmatch a1 σ = some (r, σ2)) : MC l g yX7_unmatch (.code yX7_unmatch cX7_unmatch 3 (some (.int))) (rmk 3 46) [.ref (adr g 29), .int a1] σ (some (.int r)) σ2 := by
  refine MC.of (by decide) (Nat.le_of_ble_eq_true rfl) (fun x C hl hr hq => ?_)
  subst hl
  exact w_X7_unmatch (E := fun z => z = (r, σ2)) C  (fun a s2 he pc lv hd => by cases he; exact x_iret C hr hq hd) h rfl
set_option maxHeartbeats 4000000 in
set_option maxRecDepth 100000 in
theorem w_X7_exposedFault {x : Cx} {g : Gb} {E : Int32 → Prop} (C : CF x g RX7 cX7_exposedFault 2 (rmk 3 46))  {a1 : Int32} {σ : WD} (hE : ∀ (a : Int32), E a → ∀ pc lv, decode cX7_exposedFault pc = .ok (.ireturn, 1) → WW x g 2 0 0 pc lv [.int a] σ) {t : Int32} (h : f_X7_exposedFault a1 σ = some t) (ht : E t) : WW x g 2 0 0 0 [(0, .ref (adr g 29)), (1, .int a1)] [] σ := by
  unfold f_X7_exposedFault at h
  refine x_aload_n C dX7_exposedFault_0 rfl 0 rfl 1 rfl ?_
  refine x_iload_n C dX7_exposedFault_1 rfl 1 rfl 2 rfl ?_
  obtain ⟨r2, h2, h⟩ := bv_some h
  refine x_callV C 29 [.int a1] (c_X7_isNode  h2) mi_X7_isNode (gt_29 g _) rfl q_831 rfl ⟨rfl, rfl⟩ ⟨Nat.le_of_ble_eq_true rfl, Nat.le_of_ble_eq_true rfl⟩ ⟨Nat.zero_le _, Nat.zero_le _⟩ _ rfl (Nat.le_of_ble_eq_true rfl) dX7_exposedFault_2 5 rfl ?_
  refine x_if_ne C dX7_exposedFault_5 12 (by decide) 8 rfl (fun hc => ?_) (fun hc => ?_)
  · have h := iq hc h
    refine x_aload_n C dX7_exposedFault_12 rfl 0 rfl 13 rfl ?_
    refine gf_761_29 C dX7_exposedFault_13 16 rfl ?_
    refine x_iload_n C dX7_exposedFault_16 rfl 1 rfl 17 rfl ?_
    obtain ⟨hin, h⟩ := gi_some h
    refine x_iald C 31 (gt_31 g _) hin dX7_exposedFault_17 18 rfl ?_
    refine x_iconst C (v := -1) dX7_exposedFault_18 (by decide) 19 rfl ?_
    refine x_icmp_eq C dX7_exposedFault_19 26 (by decide) 22 rfl (fun hc => ?_) (fun hc => ?_)
    · have h := ip hc h
      refine x_iconst C (v := 0) dX7_exposedFault_26 (by decide) 27 rfl ?_
      cases h
      exact hE _ ht 27 _ dX7_exposedFault_27
    · have h := iq hc h
      refine x_iconst C (v := 2) dX7_exposedFault_22 (by decide) 23 rfl ?_
      refine x_goto C dX7_exposedFault_23 27 (by decide) ?_
      cases h
      exact hE _ ht 27 _ dX7_exposedFault_27
  · have h := ip hc h
    refine x_iconst C (v := 1) dX7_exposedFault_8 (by decide) 9 rfl ?_
    refine x_goto C dX7_exposedFault_9 27 (by decide) ?_
    cases h
    exact hE _ ht 27 _ dX7_exposedFault_27
set_option maxHeartbeats 4000000 in
set_option maxRecDepth 100000 in
theorem c_X7_exposedFault {g : Gb} {l : Launch}  {a1 : Int32} {σ : WD} {r : Int32} (h : f_X7_exposedFault a1 σ = some r) : MC l g yX7_exposedFault (.code yX7_exposedFault cX7_exposedFault 2 (some (.int))) (rmk 3 46) [.ref (adr g 29), .int a1] σ (some (.int r)) σ := by
  refine MC.of (by decide) (Nat.le_of_ble_eq_true rfl) (fun x C hl hr hq => ?_)
  subst hl
  exact w_X7_exposedFault (E := fun z => z = r) C  (fun a he pc lv hd => by cases he; exact x_iret C hr hq hd) h rfl
set_option maxHeartbeats 4000000 in
set_option maxRecDepth 100000 in
theorem w_X7_augment {x : Cx} {g : Gb} {E : Int32 × WD → Prop} (C : CF x g RX7 cX7_augment 2 (rmk 6 121))  {a1 : Int32} {σ : WD} (hE : ∀ (a : Int32) (s2 : WD), E (a, s2) → ∀ pc lv, decode cX7_augment pc = .ok (.ireturn, 1) → WW x g 2 0 0 pc lv [.int a] s2) {t : Int32 × WD} (h : f_X7_augment a1 σ = some t) (ht : E t) : WW x g 2 0 0 0 [(0, .ref (adr g 29)), (1, .int a1)] [] σ := by
  unfold f_X7_augment at h
  refine x_aload_n C dX7_augment_0 rfl 0 rfl 1 rfl ?_
  refine x_aload_n C dX7_augment_1 rfl 0 rfl 2 rfl ?_
  refine x_iload_n C dX7_augment_2 rfl 1 rfl 3 rfl ?_
  obtain ⟨r3, h3, h⟩ := bv_some h
  refine x_callV C 29 [.int a1] (c_X7_exposedFault  h3) mi_X7_exposedFault (gt_29 g _) rfl q_894 rfl ⟨rfl, rfl⟩ ⟨Nat.le_of_ble_eq_true rfl, Nat.le_of_ble_eq_true rfl⟩ ⟨Nat.zero_le _, Nat.zero_le _⟩ _ rfl (Nat.le_of_ble_eq_true rfl) dX7_augment_3 6 rfl ?_
  refine pf_758_29 C dX7_augment_6 9 rfl ?_
  obtain ⟨σ6, e6, h⟩ := lt_some h
  refine x_we e6 ?_
  refine x_aload_n C dX7_augment_9 rfl 0 rfl 10 rfl ?_
  refine gf_758_29 C dX7_augment_10 13 rfl ?_
  refine x_if_le C dX7_augment_13 18 (by decide) 16 rfl (fun hc => ?_) (fun hc => ?_)
  · have h := ip hc h
    refine x_aload_n C dX7_augment_18 rfl 0 rfl 19 rfl ?_
    obtain ⟨σ19, h19, h⟩ := bv_some h
    refine x_callV C 29 [] (c_X7_keep  h19) mi_X7_keep (gt_29 g _) rfl q_835 rfl ⟨rfl, rfl⟩ ⟨Nat.le_of_ble_eq_true rfl, Nat.le_of_ble_eq_true rfl⟩ ⟨Nat.zero_le _, Nat.zero_le _⟩ _ rfl (Nat.le_of_ble_eq_true rfl) dX7_augment_19 22 rfl ?_
    refine x_aload_n C dX7_augment_22 rfl 0 rfl 23 rfl ?_
    refine x_iload_n C dX7_augment_23 rfl 1 rfl 24 rfl ?_
    obtain ⟨r24, σ24, h24, h⟩ := bn_some h
    refine x_callV C 29 [.int a1] (c_X7_augmentFrom  h24) mi_X7_augmentFrom (gt_29 g _) rfl q_898 rfl ⟨rfl, rfl⟩ ⟨Nat.le_of_ble_eq_true rfl, Nat.le_of_ble_eq_true rfl⟩ ⟨Nat.zero_le _, Nat.zero_le _⟩ _ rfl (Nat.le_of_ble_eq_true rfl) dX7_augment_24 27 rfl ?_
    cases h
    exact hE _ _ ht 27 _ dX7_augment_27
  · have h := iq hc h
    refine x_iconst C (v := 0) dX7_augment_16 (by decide) 17 rfl ?_
    cases h
    exact hE _ _ ht 17 _ dX7_augment_17
set_option maxHeartbeats 4000000 in
set_option maxRecDepth 100000 in
theorem c_X7_augment {g : Gb} {l : Launch}  {a1 : Int32} {σ : WD} {r : Int32} {σ2 : WD} (h : f_X7_augment a1 σ = some (r, σ2)) : MC l g yX7_augment (.code yX7_augment cX7_augment 2 (some (.int))) (rmk 6 121) [.ref (adr g 29), .int a1] σ (some (.int r)) σ2 := by
  refine MC.of (by decide) (Nat.le_of_ble_eq_true rfl) (fun x C hl hr hq => ?_)
  subst hl
  exact w_X7_augment (E := fun z => z = (r, σ2)) C  (fun a s2 he pc lv hd => by cases he; exact x_iret C hr hq hd) h rfl
set_option maxHeartbeats 4000000 in
set_option maxRecDepth 100000 in
theorem w_X7_lowestWithWay_b2 {x : Cx} {g : Gb} {E : (Int32 × WD) ⊕ (Int32 × WD) → Prop} (C : CF x g RX7 cX7_lowestWithWay 2 (rmk 5 97))  {l1 : Int32} {σ : WD} (hI0 : ∀ s, E (.inl s) → WW x g 2 0 0 2 [(0, .ref (adr g 29)), (1, .int s.1)] [] s.2) (hE : ∀ (a : Int32) (s2 : WD), E (.inr (a, s2)) → ∀ pc lv, decode cX7_lowestWithWay pc = .ok (.ireturn, 1) → WW x g 2 0 0 pc lv [.int a] s2) {t : (Int32 × WD) ⊕ (Int32 × WD)} (h : f_X7_lowestWithWay_b2 l1 σ = some t) (ht : E t) : WW x g 2 0 0 2 [(0, .ref (adr g 29)), (1, .int l1)] [] σ := by
  unfold f_X7_lowestWithWay_b2 at h
  refine x_iload_n C dX7_lowestWithWay_2 rfl 1 rfl 3 rfl ?_
  refine x_aload_n C dX7_lowestWithWay_3 rfl 0 rfl 4 rfl ?_
  refine gf_759_29 C dX7_lowestWithWay_4 7 rfl ?_
  refine x_icmp_ge C dX7_lowestWithWay_7 34 (by decide) 10 rfl (fun hc => ?_) (fun hc => ?_)
  · have h := ip hc h
    refine x_iload_n C dX7_lowestWithWay_34 rfl 1 rfl 35 rfl ?_
    cases h
    exact hE _ _ ht 35 _ dX7_lowestWithWay_35
  · have h := iq hc h
    refine x_aload_n C dX7_lowestWithWay_10 rfl 0 rfl 11 rfl ?_
    refine gf_761_29 C dX7_lowestWithWay_11 14 rfl ?_
    refine x_iload_n C dX7_lowestWithWay_14 rfl 1 rfl 15 rfl ?_
    obtain ⟨hin, h⟩ := gi_some h
    refine x_iald C 31 (gt_31 g _) hin dX7_lowestWithWay_15 16 rfl ?_
    refine x_iconst C (v := -1) dX7_lowestWithWay_16 (by decide) 17 rfl ?_
    refine x_icmp_ne C dX7_lowestWithWay_17 28 (by decide) 20 rfl (fun hc => ?_) (fun hc => ?_)
    · have h := iq hc h
      refine x_iinc C [(1, .int (l1 + 1)), (0, .ref (adr g 29))] dX7_lowestWithWay_28 1 rfl rfl (by decide) rfl 31 rfl ?_
      refine x_goto C dX7_lowestWithWay_31 2 (by decide) ?_
      cases h
      exact x_sub [1, 0] rfl (hI0 ((l1 + 1), σ) ht)
    · have h := ip hc h
      refine x_aload_n C dX7_lowestWithWay_20 rfl 0 rfl 21 rfl ?_
      refine x_iload_n C dX7_lowestWithWay_21 rfl 1 rfl 22 rfl ?_
      obtain ⟨r22, σ22, h22, h⟩ := bn_some h
      refine x_callV C 29 [.int l1] (c_X7_layWay  h22) mi_X7_layWay (gt_29 g _) rfl q_902 rfl ⟨rfl, rfl⟩ ⟨Nat.le_of_ble_eq_true rfl, Nat.le_of_ble_eq_true rfl⟩ ⟨Nat.zero_le _, Nat.zero_le _⟩ _ rfl (Nat.le_of_ble_eq_true rfl) dX7_lowestWithWay_22 25 rfl ?_
      refine x_if_ne C dX7_lowestWithWay_25 34 (by decide) 28 rfl (fun hc => ?_) (fun hc => ?_)
      · have h := iq hc h
        refine x_iload_n C dX7_lowestWithWay_34 rfl 1 rfl 35 rfl ?_
        cases h
        exact hE _ _ ht 35 _ dX7_lowestWithWay_35
      · have h := ip hc h
        refine x_iinc C [(1, .int (l1 + 1)), (0, .ref (adr g 29))] dX7_lowestWithWay_28 1 rfl rfl (by decide) rfl 31 rfl ?_
        refine x_goto C dX7_lowestWithWay_31 2 (by decide) ?_
        cases h
        exact x_sub [1, 0] rfl (hI0 ((l1 + 1), σ22) ht)
set_option maxHeartbeats 4000000 in
set_option maxRecDepth 100000 in
theorem w_X7_lowestWithWay_2 {x : Cx} {g : Gb} {E : Int32 × WD → Prop} (C : CF x g RX7 cX7_lowestWithWay 2 (rmk 5 97))  {l1 : Int32} {σ : WD} (hE : ∀ (a : Int32) (s2 : WD), E (a, s2) → ∀ pc lv, decode cX7_lowestWithWay pc = .ok (.ireturn, 1) → WW x g 2 0 0 pc lv [.int a] s2) {t : Int32 × WD} (h : f_X7_lowestWithWay_2 l1 σ = some t) (ht : E t) : WW x g 2 0 0 2 [(0, .ref (adr g 29)), (1, .int l1)] [] σ := by
  unfold f_X7_lowestWithWay_2 at h
  exact lp_ind (fun s : Int32 × WD => WW x g 2 0 0 2 [(0, .ref (adr g 29)), (1, .int s.1)] [] s.2) E h ht (fun s y hb hy => w_X7_lowestWithWay_b2 (E := Sum.elim (fun s : Int32 × WD => WW x g 2 0 0 2 [(0, .ref (adr g 29)), (1, .int s.1)] [] s.2) E) C  (fun _ h => h)  hE hb hy)
set_option maxHeartbeats 4000000 in
set_option maxRecDepth 100000 in
theorem w_X7_lowestWithWay {x : Cx} {g : Gb} {E : Int32 × WD → Prop} (C : CF x g RX7 cX7_lowestWithWay 2 (rmk 5 97))   {σ : WD} (hE : ∀ (a : Int32) (s2 : WD), E (a, s2) → ∀ pc lv, decode cX7_lowestWithWay pc = .ok (.ireturn, 1) → WW x g 2 0 0 pc lv [.int a] s2) {t : Int32 × WD} (h : f_X7_lowestWithWay  σ = some t) (ht : E t) : WW x g 2 0 0 0 [(0, .ref (adr g 29))] [] σ := by
  unfold f_X7_lowestWithWay at h
  refine x_iconst C (v := 0) dX7_lowestWithWay_0 (by decide) 1 rfl ?_
  refine x_istore_n C [(1, .int 0), (0, .ref (adr g 29))] dX7_lowestWithWay_1 rfl (by decide) rfl 2 rfl ?_
  exact x_sub [1, 0] rfl (w_X7_lowestWithWay_2 C  hE h ht)
set_option maxHeartbeats 4000000 in
set_option maxRecDepth 100000 in
theorem c_X7_lowestWithWay {g : Gb} {l : Launch}   {σ : WD} {r : Int32} {σ2 : WD} (h : f_X7_lowestWithWay  σ = some (r, σ2)) : MC l g yX7_lowestWithWay (.code yX7_lowestWithWay cX7_lowestWithWay 2 (some (.int))) (rmk 5 97) [.ref (adr g 29)] σ (some (.int r)) σ2 := by
  refine MC.of (by decide) (Nat.le_of_ble_eq_true rfl) (fun x C hl hr hq => ?_)
  subst hl
  exact w_X7_lowestWithWay (E := fun z => z = (r, σ2)) C  (fun a s2 he pc lv hd => by cases he; exact x_iret C hr hq hd) h rfl
set_option maxHeartbeats 4000000 in
set_option maxRecDepth 100000 in
theorem w_X7_maximize_b16 {x : Cx} {g : Gb} {E : (Int32 × Int32 × WD) ⊕ (Int32 × WD) → Prop} (C : CF x g RX7 cX7_maximize 3 (rmk 6 121))  {l1 : Int32} {l2 : Int32} {σ : WD} (hI0 : ∀ s, E (.inl s) → WW x g 3 0 0 16 [(0, .ref (adr g 29)), (1, .int s.1), (2, .int s.2.1)] [] s.2.2) (hE : ∀ (a : Int32) (s2 : WD), E (.inr (a, s2)) → ∀ pc lv, decode cX7_maximize pc = .ok (.ireturn, 1) → WW x g 3 0 0 pc lv [.int a] s2) {t : (Int32 × Int32 × WD) ⊕ (Int32 × WD)} (h : f_X7_maximize_b16 l1 l2 σ = some t) (ht : E t) : WW x g 3 0 0 16 [(0, .ref (adr g 29)), (1, .int l1), (2, .int l2)] [] σ := by
  unfold f_X7_maximize_b16 at h
  refine x_iload_n C dX7_maximize_16 rfl 2 rfl 17 rfl ?_
  refine x_aload_n C dX7_maximize_17 rfl 0 rfl 18 rfl ?_
  refine gf_759_29 C dX7_maximize_18 21 rfl ?_
  refine x_icmp_ge C dX7_maximize_21 41 (by decide) 24 rfl (fun hc => ?_) (fun hc => ?_)
  · have h := ip hc h
    refine x_iload_n C dX7_maximize_41 rfl 1 rfl 42 rfl ?_
    cases h
    exact hE _ _ ht 42 _ dX7_maximize_42
  · have h := iq hc h
    refine x_aload_n C dX7_maximize_24 rfl 0 rfl 25 rfl ?_
    refine x_iload_n C dX7_maximize_25 rfl 2 rfl 26 rfl ?_
    obtain ⟨r26, σ26, h26, h⟩ := bn_some h
    refine x_callV C 29 [.int l2] (c_X7_augmentFrom  h26) mi_X7_augmentFrom (gt_29 g _) rfl q_898 rfl ⟨rfl, rfl⟩ ⟨Nat.le_of_ble_eq_true rfl, Nat.le_of_ble_eq_true rfl⟩ ⟨Nat.zero_le _, Nat.zero_le _⟩ _ rfl (Nat.le_of_ble_eq_true rfl) dX7_maximize_26 29 rfl ?_
    refine x_pop C dX7_maximize_29 rfl 30 rfl ?_
    refine x_iinc C [(1, .int (l1 + 1)), (0, .ref (adr g 29)), (2, .int l2)] dX7_maximize_30 1 rfl rfl (by decide) rfl 33 rfl ?_
    refine x_aload_n C dX7_maximize_33 rfl 1 rfl 34 rfl ?_
    obtain ⟨r34, σ34, h34, h⟩ := bn_some h
    refine x_callV C 29 [] (c_X7_lowestWithWay  h34) mi_X7_lowestWithWay (gt_29 g _) rfl q_918 rfl ⟨rfl, rfl⟩ ⟨Nat.le_of_ble_eq_true rfl, Nat.le_of_ble_eq_true rfl⟩ ⟨Nat.zero_le _, Nat.zero_le _⟩ _ rfl (Nat.le_of_ble_eq_true rfl) dX7_maximize_34 37 rfl ?_
    refine x_istore_n C [(2, .int r34), (1, .int (l1 + 1)), (0, .ref (adr g 29))] dX7_maximize_37 rfl (by decide) rfl 38 rfl ?_
    refine x_goto C dX7_maximize_38 16 (by decide) ?_
    cases h
    exact x_sub [2, 1, 0] rfl (hI0 ((l1 + 1), r34, σ34) ht)
set_option maxHeartbeats 4000000 in
set_option maxRecDepth 100000 in
theorem w_X7_maximize_16 {x : Cx} {g : Gb} {E : Int32 × WD → Prop} (C : CF x g RX7 cX7_maximize 3 (rmk 6 121))  {l1 : Int32} {l2 : Int32} {σ : WD} (hE : ∀ (a : Int32) (s2 : WD), E (a, s2) → ∀ pc lv, decode cX7_maximize pc = .ok (.ireturn, 1) → WW x g 3 0 0 pc lv [.int a] s2) {t : Int32 × WD} (h : f_X7_maximize_16 l1 l2 σ = some t) (ht : E t) : WW x g 3 0 0 16 [(0, .ref (adr g 29)), (1, .int l1), (2, .int l2)] [] σ := by
  unfold f_X7_maximize_16 at h
  exact lp_ind (fun s : Int32 × Int32 × WD => WW x g 3 0 0 16 [(0, .ref (adr g 29)), (1, .int s.1), (2, .int s.2.1)] [] s.2.2) E h ht (fun s y hb hy => w_X7_maximize_b16 (E := Sum.elim (fun s : Int32 × Int32 × WD => WW x g 3 0 0 16 [(0, .ref (adr g 29)), (1, .int s.1), (2, .int s.2.1)] [] s.2.2) E) C  (fun _ h => h)  hE hb hy)
set_option maxHeartbeats 4000000 in
set_option maxRecDepth 100000 in
theorem w_X7_maximize {x : Cx} {g : Gb} {E : Int32 × WD → Prop} (C : CF x g RX7 cX7_maximize 3 (rmk 6 121))   {σ : WD} (hE : ∀ (a : Int32) (s2 : WD), E (a, s2) → ∀ pc lv, decode cX7_maximize pc = .ok (.ireturn, 1) → WW x g 3 0 0 pc lv [.int a] s2) {t : Int32 × WD} (h : f_X7_maximize  σ = some t) (ht : E t) : WW x g 3 0 0 0 [(0, .ref (adr g 29))] [] σ := by
  unfold f_X7_maximize at h
  refine x_aload_n C dX7_maximize_0 rfl 0 rfl 1 rfl ?_
  refine x_iconst C (v := 0) dX7_maximize_1 (by decide) 2 rfl ?_
  refine pf_758_29 C dX7_maximize_2 5 rfl ?_
  obtain ⟨σ2, e2, h⟩ := lt_some h
  refine x_we e2 ?_
  refine x_aload_n C dX7_maximize_5 rfl 0 rfl 6 rfl ?_
  obtain ⟨σ6, h6, h⟩ := bv_some h
  refine x_callV C 29 [] (c_X7_keep  h6) mi_X7_keep (gt_29 g _) rfl q_835 rfl ⟨rfl, rfl⟩ ⟨Nat.le_of_ble_eq_true rfl, Nat.le_of_ble_eq_true rfl⟩ ⟨Nat.zero_le _, Nat.zero_le _⟩ _ rfl (Nat.le_of_ble_eq_true rfl) dX7_maximize_6 9 rfl ?_
  refine x_iconst C (v := 0) dX7_maximize_9 (by decide) 10 rfl ?_
  refine x_istore_n C [(1, .int 0), (0, .ref (adr g 29))] dX7_maximize_10 rfl (by decide) rfl 11 rfl ?_
  refine x_aload_n C dX7_maximize_11 rfl 1 rfl 12 rfl ?_
  obtain ⟨r12, σ12, h12, h⟩ := bn_some h
  refine x_callV C 29 [] (c_X7_lowestWithWay  h12) mi_X7_lowestWithWay (gt_29 g _) rfl q_918 rfl ⟨rfl, rfl⟩ ⟨Nat.le_of_ble_eq_true rfl, Nat.le_of_ble_eq_true rfl⟩ ⟨Nat.zero_le _, Nat.zero_le _⟩ _ rfl (Nat.le_of_ble_eq_true rfl) dX7_maximize_12 15 rfl ?_
  refine x_istore_n C [(2, .int r12), (1, .int 0), (0, .ref (adr g 29))] dX7_maximize_15 rfl (by decide) rfl 16 rfl ?_
  exact x_sub [2, 1, 0] rfl (w_X7_maximize_16 C  hE h ht)
set_option maxHeartbeats 4000000 in
set_option maxRecDepth 100000 in
theorem c_X7_maximize {g : Gb} {l : Launch}   {σ : WD} {r : Int32} {σ2 : WD} (h : f_X7_maximize  σ = some (r, σ2)) : MC l g yX7_maximize (.code yX7_maximize cX7_maximize 3 (some (.int))) (rmk 6 121) [.ref (adr g 29)] σ (some (.int r)) σ2 := by
  refine MC.of (by decide) (Nat.le_of_ble_eq_true rfl) (fun x C hl hr hq => ?_)
  subst hl
  exact w_X7_maximize (E := fun z => z = (r, σ2)) C  (fun a s2 he pc lv hd => by cases he; exact x_iret C hr hq hd) h rfl
set_option maxHeartbeats 4000000 in
set_option maxRecDepth 100000 in
theorem w_X7_takeFirst_b70 {x : Cx} {g : Gb} {E : (Int32 × WD) ⊕ (Int32 × WD) → Prop} (C : CF x g RX7 cX7_takeFirst 3 (rmk 3 50))  {l1 : Int32} {l2 : Int32} {σ : WD} (hI0 : ∀ s, E (.inl s) → WW x g 3 0 0 70 [(0, .ref (adr g 29)), (1, .int l1), (2, .int s.1)] [] s.2) (hE : ∀ (a : Int32) (s2 : WD), E (.inr (a, s2)) → ∀ pc lv, decode cX7_takeFirst pc = .ok (.ireturn, 1) → WW x g 3 0 0 pc lv [.int a] s2) {t : (Int32 × WD) ⊕ (Int32 × WD)} (h : f_X7_takeFirst_b70 l1 l2 σ = some t) (ht : E t) : WW x g 3 0 0 70 [(0, .ref (adr g 29)), (1, .int l1), (2, .int l2)] [] σ := by
  unfold f_X7_takeFirst_b70 at h
  refine x_iload_n C dX7_takeFirst_70 rfl 2 rfl 71 rfl ?_
  refine x_aload_n C dX7_takeFirst_71 rfl 0 rfl 72 rfl ?_
  refine gf_759_29 C dX7_takeFirst_72 75 rfl ?_
  refine x_icmp_ge C dX7_takeFirst_75 96 (by decide) 78 rfl (fun hc => ?_) (fun hc => ?_)
  · have h := ip hc h
    refine x_iload_n C dX7_takeFirst_96 rfl 1 rfl 97 rfl ?_
    cases h
    exact hE _ _ ht 97 _ dX7_takeFirst_97
  · have h := iq hc h
    refine x_aload_n C dX7_takeFirst_78 rfl 0 rfl 79 rfl ?_
    refine gf_761_29 C dX7_takeFirst_79 82 rfl ?_
    refine x_iload_n C dX7_takeFirst_82 rfl 2 rfl 83 rfl ?_
    refine x_aload_n C dX7_takeFirst_83 rfl 0 rfl 84 rfl ?_
    refine gf_768_29 C dX7_takeFirst_84 87 rfl ?_
    refine x_iload_n C dX7_takeFirst_87 rfl 2 rfl 88 rfl ?_
    obtain ⟨hin, h⟩ := gi_some h
    refine x_iald C 36 (gt_36 g _) hin dX7_takeFirst_88 89 rfl ?_
    obtain ⟨hin, h⟩ := gi_some h
    refine x_iast C 31 (gt_31 g _) (st_31 g _) hin dX7_takeFirst_89 90 rfl ?_
    obtain ⟨σ89, e89, h⟩ := lt_some h
    refine x_we e89 ?_
    refine x_iinc C [(2, .int (l2 + 1)), (0, .ref (adr g 29)), (1, .int l1)] dX7_takeFirst_90 2 rfl rfl (by decide) rfl 93 rfl ?_
    refine x_goto C dX7_takeFirst_93 70 (by decide) ?_
    cases h
    exact x_sub [1, 2, 0] rfl (hI0 ((l2 + 1), σ89) ht)
set_option maxHeartbeats 4000000 in
set_option maxRecDepth 100000 in
theorem w_X7_takeFirst_70 {x : Cx} {g : Gb} {E : Int32 × WD → Prop} (C : CF x g RX7 cX7_takeFirst 3 (rmk 3 50))  {l1 : Int32} {l2 : Int32} {σ : WD} (hE : ∀ (a : Int32) (s2 : WD), E (a, s2) → ∀ pc lv, decode cX7_takeFirst pc = .ok (.ireturn, 1) → WW x g 3 0 0 pc lv [.int a] s2) {t : Int32 × WD} (h : f_X7_takeFirst_70 l1 l2 σ = some t) (ht : E t) : WW x g 3 0 0 70 [(0, .ref (adr g 29)), (1, .int l1), (2, .int l2)] [] σ := by
  unfold f_X7_takeFirst_70 at h
  exact lp_ind (fun s : Int32 × WD => WW x g 3 0 0 70 [(0, .ref (adr g 29)), (1, .int l1), (2, .int s.1)] [] s.2) E h ht (fun s y hb hy => w_X7_takeFirst_b70 (E := Sum.elim (fun s : Int32 × WD => WW x g 3 0 0 70 [(0, .ref (adr g 29)), (1, .int l1), (2, .int s.1)] [] s.2) E) C  (fun _ h => h)  hE hb hy)
set_option maxHeartbeats 4000000 in
set_option maxRecDepth 100000 in
theorem w_X7_takeFirst_b21 {x : Cx} {g : Gb} {E : (Int32 × Int32) ⊕ (Int32 × WD) → Prop} (C : CF x g RX7 cX7_takeFirst 3 (rmk 3 50))  {l1 : Int32} {l2 : Int32} {σ : WD} (hI0 : ∀ s, E (.inl s) → WW x g 3 0 0 21 [(0, .ref (adr g 29)), (1, .int s.1), (2, .int s.2)] [] σ) (hE : ∀ (a : Int32) (s2 : WD), E (.inr (a, s2)) → ∀ pc lv, decode cX7_takeFirst pc = .ok (.ireturn, 1) → WW x g 3 0 0 pc lv [.int a] s2) {t : (Int32 × Int32) ⊕ (Int32 × WD)} (h : f_X7_takeFirst_b21 l1 l2 σ = some t) (ht : E t) : WW x g 3 0 0 21 [(0, .ref (adr g 29)), (1, .int l1), (2, .int l2)] [] σ := by
  unfold f_X7_takeFirst_b21 at h
  refine x_iload_n C dX7_takeFirst_21 rfl 2 rfl 22 rfl ?_
  refine x_aload_n C dX7_takeFirst_22 rfl 0 rfl 23 rfl ?_
  refine gf_759_29 C dX7_takeFirst_23 26 rfl ?_
  refine x_icmp_ge C dX7_takeFirst_26 68 (by decide) 29 rfl (fun hc => ?_) (fun hc => ?_)
  · have h := ip hc h
    refine x_iconst C (v := 0) dX7_takeFirst_68 (by decide) 69 rfl ?_
    refine x_istore_n C [(2, .int 0), (0, .ref (adr g 29)), (1, .int l1)] dX7_takeFirst_69 rfl (by decide) rfl 70 rfl ?_
    obtain ⟨_, hm0, rfl⟩ := mr_some h
    exact x_sub [1, 2, 0] rfl (w_X7_takeFirst_70 (E := fun r => E (.inr r)) C  hE hm0 ht)
  · have h := iq hc h
    refine x_iload_n C dX7_takeFirst_29 rfl 1 rfl 30 rfl ?_
    refine x_aload_n C dX7_takeFirst_30 rfl 0 rfl 31 rfl ?_
    refine gf_768_29 C dX7_takeFirst_31 34 rfl ?_
    refine x_iload_n C dX7_takeFirst_34 rfl 2 rfl 35 rfl ?_
    obtain ⟨hin, h⟩ := gi_some h
    refine x_iald C 36 (gt_36 g _) hin dX7_takeFirst_35 36 rfl ?_
    refine x_iload_n C dX7_takeFirst_36 rfl 2 rfl 37 rfl ?_
    refine x_icmp_le C dX7_takeFirst_37 59 (by decide) 40 rfl (fun hc => ?_) (fun hc => ?_)
    · have h := ip hc h
      refine x_iconst C (v := 0) dX7_takeFirst_59 (by decide) 60 rfl ?_
      refine x_iadd C dX7_takeFirst_60 61 rfl ?_
      refine x_istore_n C [(1, .int (l1 + 0)), (0, .ref (adr g 29)), (2, .int l2)] dX7_takeFirst_61 rfl (by decide) rfl 62 rfl ?_
      refine x_iinc C [(2, .int (l2 + 1)), (1, .int (l1 + 0)), (0, .ref (adr g 29))] dX7_takeFirst_62 2 rfl rfl (by decide) rfl 65 rfl ?_
      refine x_goto C dX7_takeFirst_65 21 (by decide) ?_
      cases h
      exact x_sub [2, 1, 0] rfl (hI0 ((l1 + 0), (l2 + 1)) ht)
    · have h := iq hc h
      refine x_aload_n C dX7_takeFirst_40 rfl 0 rfl 41 rfl ?_
      refine gf_761_29 C dX7_takeFirst_41 44 rfl ?_
      refine x_iload_n C dX7_takeFirst_44 rfl 2 rfl 45 rfl ?_
      obtain ⟨hin, h⟩ := gi_some h
      refine x_iald C 31 (gt_31 g _) hin dX7_takeFirst_45 46 rfl ?_
      refine x_aload_n C dX7_takeFirst_46 rfl 0 rfl 47 rfl ?_
      refine gf_768_29 C dX7_takeFirst_47 50 rfl ?_
      refine x_iload_n C dX7_takeFirst_50 rfl 2 rfl 51 rfl ?_
      obtain ⟨hin, h⟩ := gi_some h
      refine x_iald C 36 (gt_36 g _) hin dX7_takeFirst_51 52 rfl ?_
      refine x_icmp_eq C dX7_takeFirst_52 59 (by decide) 55 rfl (fun hc => ?_) (fun hc => ?_)
      · have h := ip hc h
        refine x_iconst C (v := 0) dX7_takeFirst_59 (by decide) 60 rfl ?_
        refine x_iadd C dX7_takeFirst_60 61 rfl ?_
        refine x_istore_n C [(1, .int (l1 + 0)), (0, .ref (adr g 29)), (2, .int l2)] dX7_takeFirst_61 rfl (by decide) rfl 62 rfl ?_
        refine x_iinc C [(2, .int (l2 + 1)), (1, .int (l1 + 0)), (0, .ref (adr g 29))] dX7_takeFirst_62 2 rfl rfl (by decide) rfl 65 rfl ?_
        refine x_goto C dX7_takeFirst_65 21 (by decide) ?_
        cases h
        exact x_sub [2, 1, 0] rfl (hI0 ((l1 + 0), (l2 + 1)) ht)
      · have h := iq hc h
        refine x_iconst C (v := 1) dX7_takeFirst_55 (by decide) 56 rfl ?_
        refine x_goto C dX7_takeFirst_56 60 (by decide) ?_
        refine x_iadd C dX7_takeFirst_60 61 rfl ?_
        refine x_istore_n C [(1, .int (l1 + 1)), (0, .ref (adr g 29)), (2, .int l2)] dX7_takeFirst_61 rfl (by decide) rfl 62 rfl ?_
        refine x_iinc C [(2, .int (l2 + 1)), (1, .int (l1 + 1)), (0, .ref (adr g 29))] dX7_takeFirst_62 2 rfl rfl (by decide) rfl 65 rfl ?_
        refine x_goto C dX7_takeFirst_65 21 (by decide) ?_
        cases h
        exact x_sub [2, 1, 0] rfl (hI0 ((l1 + 1), (l2 + 1)) ht)
set_option maxHeartbeats 4000000 in
set_option maxRecDepth 100000 in
theorem w_X7_takeFirst_21 {x : Cx} {g : Gb} {E : Int32 × WD → Prop} (C : CF x g RX7 cX7_takeFirst 3 (rmk 3 50))  {l1 : Int32} {l2 : Int32} {σ : WD} (hE : ∀ (a : Int32) (s2 : WD), E (a, s2) → ∀ pc lv, decode cX7_takeFirst pc = .ok (.ireturn, 1) → WW x g 3 0 0 pc lv [.int a] s2) {t : Int32 × WD} (h : f_X7_takeFirst_21 l1 l2 σ = some t) (ht : E t) : WW x g 3 0 0 21 [(0, .ref (adr g 29)), (1, .int l1), (2, .int l2)] [] σ := by
  unfold f_X7_takeFirst_21 at h
  exact lp_ind (fun s : Int32 × Int32 => WW x g 3 0 0 21 [(0, .ref (adr g 29)), (1, .int s.1), (2, .int s.2)] [] σ) E h ht (fun s y hb hy => w_X7_takeFirst_b21 (E := Sum.elim (fun s : Int32 × Int32 => WW x g 3 0 0 21 [(0, .ref (adr g 29)), (1, .int s.1), (2, .int s.2)] [] σ) E) C  (fun _ h => h)  hE hb hy)
set_option maxHeartbeats 4000000 in
set_option maxRecDepth 100000 in
theorem w_X7_takeFirst {x : Cx} {g : Gb} {E : Int32 × WD → Prop} (C : CF x g RX7 cX7_takeFirst 3 (rmk 3 50))   {σ : WD} (hE : ∀ (a : Int32) (s2 : WD), E (a, s2) → ∀ pc lv, decode cX7_takeFirst pc = .ok (.ireturn, 1) → WW x g 3 0 0 pc lv [.int a] s2) {t : Int32 × WD} (h : f_X7_takeFirst  σ = some t) (ht : E t) : WW x g 3 0 0 0 [(0, .ref (adr g 29))] [] σ := by
  unfold f_X7_takeFirst at h
  refine x_aload_n C dX7_takeFirst_0 rfl 0 rfl 1 rfl ?_
  refine x_iconst C (v := 0) dX7_takeFirst_1 (by decide) 2 rfl ?_
  refine pf_758_29 C dX7_takeFirst_2 5 rfl ?_
  obtain ⟨σ2, e2, h⟩ := lt_some h
  refine x_we e2 ?_
  refine x_aload_n C dX7_takeFirst_5 rfl 0 rfl 6 rfl ?_
  obtain ⟨σ6, h6, h⟩ := bv_some h
  refine x_callV C 29 [] (c_X7_keep  h6) mi_X7_keep (gt_29 g _) rfl q_835 rfl ⟨rfl, rfl⟩ ⟨Nat.le_of_ble_eq_true rfl, Nat.le_of_ble_eq_true rfl⟩ ⟨Nat.zero_le _, Nat.zero_le _⟩ _ rfl (Nat.le_of_ble_eq_true rfl) dX7_takeFirst_6 9 rfl ?_
  refine x_aload_n C dX7_takeFirst_9 rfl 0 rfl 10 rfl ?_
  obtain ⟨σ10, h10, h⟩ := bv_some h
  refine x_callV C 29 [] (c_X7_laySets  h10) mi_X7_laySets (gt_29 g _) rfl q_926 rfl ⟨rfl, rfl⟩ ⟨Nat.le_of_ble_eq_true rfl, Nat.le_of_ble_eq_true rfl⟩ ⟨Nat.zero_le _, Nat.zero_le _⟩ _ rfl (Nat.le_of_ble_eq_true rfl) dX7_takeFirst_10 13 rfl ?_
  refine x_aload_n C dX7_takeFirst_13 rfl 0 rfl 14 rfl ?_
  obtain ⟨σ14, h14, h⟩ := bv_some h
  refine x_callV C 29 [] (c_X7_layFirst  h14) mi_X7_layFirst (gt_29 g _) rfl q_938 rfl ⟨rfl, rfl⟩ ⟨Nat.le_of_ble_eq_true rfl, Nat.le_of_ble_eq_true rfl⟩ ⟨Nat.zero_le _, Nat.zero_le _⟩ _ rfl (Nat.le_of_ble_eq_true rfl) dX7_takeFirst_14 17 rfl ?_
  refine x_iconst C (v := 0) dX7_takeFirst_17 (by decide) 18 rfl ?_
  refine x_istore_n C [(1, .int 0), (0, .ref (adr g 29))] dX7_takeFirst_18 rfl (by decide) rfl 19 rfl ?_
  refine x_iconst C (v := 0) dX7_takeFirst_19 (by decide) 20 rfl ?_
  refine x_istore_n C [(2, .int 0), (1, .int 0), (0, .ref (adr g 29))] dX7_takeFirst_20 rfl (by decide) rfl 21 rfl ?_
  exact x_sub [2, 1, 0] rfl (w_X7_takeFirst_21 C  hE h ht)
set_option maxHeartbeats 4000000 in
set_option maxRecDepth 100000 in
theorem c_X7_takeFirst {g : Gb} {l : Launch}   {σ : WD} {r : Int32} {σ2 : WD} (h : f_X7_takeFirst  σ = some (r, σ2)) : MC l g yX7_takeFirst (.code yX7_takeFirst cX7_takeFirst 3 (some (.int))) (rmk 3 50) [.ref (adr g 29)] σ (some (.int r)) σ2 := by
  refine MC.of (by decide) (Nat.le_of_ble_eq_true rfl) (fun x C hl hr hq => ?_)
  subst hl
  exact w_X7_takeFirst (E := fun z => z = (r, σ2)) C  (fun a s2 he pc lv hd => by cases he; exact x_iret C hr hq hd) h rfl
set_option maxHeartbeats 4000000 in
set_option maxRecDepth 100000 in
theorem w_X7_undo_92 {x : Cx} {g : Gb} {E : Int32 × WD → Prop} (C : CF x g RX7 cX7_undo 2 (rmk 1 1))   {σ : WD} (hE : ∀ (a : Int32) (s2 : WD), E (a, s2) → ∀ pc lv, decode cX7_undo pc = .ok (.ireturn, 1) → WW x g 2 0 0 pc lv [.int a] s2) {t : Int32 × WD} (h : f_X7_undo_92  σ = some t) (ht : E t) : WW x g 2 0 0 92 [(0, .ref (adr g 29))] [] σ := by
  unfold f_X7_undo_92 at h
  refine x_aload_n C dX7_undo_92 rfl 0 rfl 93 rfl ?_
  refine gf_762_29 C dX7_undo_93 96 rfl ?_
  cases h
  exact hE _ _ ht 96 _ dX7_undo_96
set_option maxHeartbeats 4000000 in
set_option maxRecDepth 100000 in
theorem w_X7_undo_b37 {x : Cx} {g : Gb} {E : (Int32 × WD) ⊕ (Int32 × WD) → Prop} (C : CF x g RX7 cX7_undo 2 (rmk 1 1))  {l1 : Int32} {σ : WD} (hI0 : ∀ s, E (.inl s) → WW x g 2 0 0 37 [(0, .ref (adr g 29)), (1, .int s.1)] [] s.2) (hE : ∀ (a : Int32) (s2 : WD), E (.inr (a, s2)) → ∀ pc lv, decode cX7_undo pc = .ok (.ireturn, 1) → WW x g 2 0 0 pc lv [.int a] s2) {t : (Int32 × WD) ⊕ (Int32 × WD)} (h : f_X7_undo_b37 l1 σ = some t) (ht : E t) : WW x g 2 0 0 37 [(0, .ref (adr g 29)), (1, .int l1)] [] σ := by
  unfold f_X7_undo_b37 at h
  refine x_iload_n C dX7_undo_37 rfl 1 rfl 38 rfl ?_
  refine x_bipush C (v := 12) dX7_undo_38 (by decide) 40 rfl ?_
  refine x_icmp_ge C dX7_undo_40 92 (by decide) 43 rfl (fun hc => ?_) (fun hc => ?_)
  · have h := ip hc h
    obtain ⟨_, hm0, rfl⟩ := mr_some h
    exact x_sub [0] rfl (w_X7_undo_92 (E := fun r => E (.inr r)) C  hE hm0 ht)
  · have h := iq hc h
    refine x_aload_n C dX7_undo_43 rfl 0 rfl 44 rfl ?_
    refine gf_760_29 C dX7_undo_44 47 rfl ?_
    refine x_iload_n C dX7_undo_47 rfl 1 rfl 48 rfl ?_
    refine x_aload_n C dX7_undo_48 rfl 0 rfl 49 rfl ?_
    refine gf_763_29 C dX7_undo_49 52 rfl ?_
    refine x_bipush C (v := 24) dX7_undo_52 (by decide) 54 rfl ?_
    refine x_aload_n C dX7_undo_54 rfl 0 rfl 55 rfl ?_
    refine gf_762_29 C dX7_undo_55 58 rfl ?_
    refine x_imul C dX7_undo_58 59 rfl ?_
    refine x_iload_n C dX7_undo_59 rfl 1 rfl 60 rfl ?_
    refine x_iadd C dX7_undo_60 61 rfl ?_
    obtain ⟨hin, h⟩ := gi_some h
    refine x_iald C 32 (gt_32 g _) hin dX7_undo_61 62 rfl ?_
    obtain ⟨hin, h⟩ := gi_some h
    refine x_iast C 30 (gt_30 g _) (st_30 g _) hin dX7_undo_62 63 rfl ?_
    obtain ⟨σ62, e62, h⟩ := lt_some h
    refine x_we e62 ?_
    refine x_aload_n C dX7_undo_63 rfl 0 rfl 64 rfl ?_
    refine gf_761_29 C dX7_undo_64 67 rfl ?_
    refine x_iload_n C dX7_undo_67 rfl 1 rfl 68 rfl ?_
    refine x_aload_n C dX7_undo_68 rfl 0 rfl 69 rfl ?_
    refine gf_763_29 C dX7_undo_69 72 rfl ?_
    refine x_bipush C (v := 24) dX7_undo_72 (by decide) 74 rfl ?_
    refine x_aload_n C dX7_undo_74 rfl 0 rfl 75 rfl ?_
    refine gf_762_29 C dX7_undo_75 78 rfl ?_
    refine x_imul C dX7_undo_78 79 rfl ?_
    refine x_bipush C (v := 12) dX7_undo_79 (by decide) 81 rfl ?_
    refine x_iadd C dX7_undo_81 82 rfl ?_
    refine x_iload_n C dX7_undo_82 rfl 1 rfl 83 rfl ?_
    refine x_iadd C dX7_undo_83 84 rfl ?_
    obtain ⟨hin, h⟩ := gi_some h
    refine x_iald C 32 (gt_32 g _) hin dX7_undo_84 85 rfl ?_
    obtain ⟨hin, h⟩ := gi_some h
    refine x_iast C 31 (gt_31 g _) (st_31 g _) hin dX7_undo_85 86 rfl ?_
    obtain ⟨σ85, e85, h⟩ := lt_some h
    refine x_we e85 ?_
    refine x_iinc C [(1, .int (l1 + 1)), (0, .ref (adr g 29))] dX7_undo_86 1 rfl rfl (by decide) rfl 89 rfl ?_
    refine x_goto C dX7_undo_89 37 (by decide) ?_
    cases h
    exact x_sub [1, 0] rfl (hI0 ((l1 + 1), σ85) ht)
set_option maxHeartbeats 4000000 in
set_option maxRecDepth 100000 in
theorem w_X7_undo_37 {x : Cx} {g : Gb} {E : Int32 × WD → Prop} (C : CF x g RX7 cX7_undo 2 (rmk 1 1))  {l1 : Int32} {σ : WD} (hE : ∀ (a : Int32) (s2 : WD), E (a, s2) → ∀ pc lv, decode cX7_undo pc = .ok (.ireturn, 1) → WW x g 2 0 0 pc lv [.int a] s2) {t : Int32 × WD} (h : f_X7_undo_37 l1 σ = some t) (ht : E t) : WW x g 2 0 0 37 [(0, .ref (adr g 29)), (1, .int l1)] [] σ := by
  unfold f_X7_undo_37 at h
  exact lp_ind (fun s : Int32 × WD => WW x g 2 0 0 37 [(0, .ref (adr g 29)), (1, .int s.1)] [] s.2) E h ht (fun s y hb hy => w_X7_undo_b37 (E := Sum.elim (fun s : Int32 × WD => WW x g 2 0 0 37 [(0, .ref (adr g 29)), (1, .int s.1)] [] s.2) E) C  (fun _ h => h)  hE hb hy)
set_option maxHeartbeats 4000000 in
set_option maxRecDepth 100000 in
theorem w_X7_undo_13 {x : Cx} {g : Gb} {E : Int32 × WD → Prop} (C : CF x g RX7 cX7_undo 2 (rmk 1 1))  {s0 : Int32} {σ : WD} (hE : ∀ (a : Int32) (s2 : WD), E (a, s2) → ∀ pc lv, decode cX7_undo pc = .ok (.ireturn, 1) → WW x g 2 0 0 pc lv [.int a] s2) {t : Int32 × WD} (h : f_X7_undo_13 s0 σ = some t) (ht : E t) : WW x g 2 0 0 13 [(0, .ref (adr g 29))] [.int s0, .ref (adr g 29)] σ := by
  unfold f_X7_undo_13 at h
  refine pf_758_29 C dX7_undo_13 16 rfl ?_
  obtain ⟨σ13, e13, h⟩ := lt_some h
  refine x_we e13 ?_
  refine x_aload_n C dX7_undo_16 rfl 0 rfl 17 rfl ?_
  refine gf_758_29 C dX7_undo_17 20 rfl ?_
  refine x_if_le C dX7_undo_20 25 (by decide) 23 rfl (fun hc => ?_) (fun hc => ?_)
  · have h := ip hc h
    refine x_aload_n C dX7_undo_25 rfl 0 rfl 26 rfl ?_
    refine x_dup C dX7_undo_26 rfl 27 rfl ?_
    refine gf_762_29 C dX7_undo_27 30 rfl ?_
    refine x_iconst C (v := 1) dX7_undo_30 (by decide) 31 rfl ?_
    refine x_isub C dX7_undo_31 32 rfl ?_
    refine pf_762_29 C dX7_undo_32 35 rfl ?_
    obtain ⟨σ32, e32, h⟩ := lt_some h
    refine x_we e32 ?_
    refine x_iconst C (v := 0) dX7_undo_35 (by decide) 36 rfl ?_
    refine x_istore_n C [(1, .int 0), (0, .ref (adr g 29))] dX7_undo_36 rfl (by decide) rfl 37 rfl ?_
    exact x_sub [1, 0] rfl (w_X7_undo_37 C  hE h ht)
  · have h := iq hc h
    refine x_iconst C (v := 0) dX7_undo_23 (by decide) 24 rfl ?_
    cases h
    exact hE _ _ ht 24 _ dX7_undo_24
set_option maxHeartbeats 4000000 in
set_option maxRecDepth 100000 in
theorem w_X7_undo {x : Cx} {g : Gb} {E : Int32 × WD → Prop} (C : CF x g RX7 cX7_undo 2 (rmk 1 1))   {σ : WD} (hE : ∀ (a : Int32) (s2 : WD), E (a, s2) → ∀ pc lv, decode cX7_undo pc = .ok (.ireturn, 1) → WW x g 2 0 0 pc lv [.int a] s2) {t : Int32 × WD} (h : f_X7_undo  σ = some t) (ht : E t) : WW x g 2 0 0 0 [(0, .ref (adr g 29))] [] σ := by
  unfold f_X7_undo at h
  refine x_aload_n C dX7_undo_0 rfl 0 rfl 1 rfl ?_
  refine x_aload_n C dX7_undo_1 rfl 0 rfl 2 rfl ?_
  refine gf_762_29 C dX7_undo_2 5 rfl ?_
  refine x_if_le C dX7_undo_5 12 (by decide) 8 rfl (fun hc => ?_) (fun hc => ?_)
  · have h := ip hc h
    refine x_iconst C (v := 1) dX7_undo_12 (by decide) 13 rfl ?_
    exact x_sub [0] rfl (w_X7_undo_13 C  hE h ht)
  · have h := iq hc h
    refine x_iconst C (v := 0) dX7_undo_8 (by decide) 9 rfl ?_
    refine x_goto C dX7_undo_9 13 (by decide) ?_
    exact x_sub [0] rfl (w_X7_undo_13 C  hE h ht)
set_option maxHeartbeats 4000000 in
set_option maxRecDepth 100000 in
theorem c_X7_undo {g : Gb} {l : Launch}   {σ : WD} {r : Int32} {σ2 : WD} (h : f_X7_undo  σ = some (r, σ2)) : MC l g yX7_undo (.code yX7_undo cX7_undo 2 (some (.int))) (rmk 1 1) [.ref (adr g 29)] σ (some (.int r)) σ2 := by
  refine MC.of (by decide) (Nat.le_of_ble_eq_true rfl) (fun x C hl hr hq => ?_)
  subst hl
  exact w_X7_undo (E := fun z => z = (r, σ2)) C  (fun a s2 he pc lv hd => by cases he; exact x_iret C hr hq hd) h rfl
set_option maxHeartbeats 4000000 in
set_option maxRecDepth 100000 in
theorem w_X7_way {x : Cx} {g : Gb} {E : Int32 × WD → Prop} (C : CF x g RX7 cX7_way 2 (rmk 5 97))  {a1 : Int32} {σ : WD} (hE : ∀ (a : Int32) (s2 : WD), E (a, s2) → ∀ pc lv, decode cX7_way pc = .ok (.ireturn, 1) → WW x g 2 0 0 pc lv [.int a] s2) {t : Int32 × WD} (h : f_X7_way a1 σ = some t) (ht : E t) : WW x g 2 0 0 0 [(0, .ref (adr g 29)), (1, .int a1)] [] σ := by
  unfold f_X7_way at h
  refine x_aload_n C dX7_way_0 rfl 0 rfl 1 rfl ?_
  refine x_aload_n C dX7_way_1 rfl 0 rfl 2 rfl ?_
  refine x_iload_n C dX7_way_2 rfl 1 rfl 3 rfl ?_
  obtain ⟨r3, h3, h⟩ := bv_some h
  refine x_callV C 29 [.int a1] (c_X7_exposedFault  h3) mi_X7_exposedFault (gt_29 g _) rfl q_894 rfl ⟨rfl, rfl⟩ ⟨Nat.le_of_ble_eq_true rfl, Nat.le_of_ble_eq_true rfl⟩ ⟨Nat.zero_le _, Nat.zero_le _⟩ _ rfl (Nat.le_of_ble_eq_true rfl) dX7_way_3 6 rfl ?_
  refine pf_758_29 C dX7_way_6 9 rfl ?_
  obtain ⟨σ6, e6, h⟩ := lt_some h
  refine x_we e6 ?_
  refine x_aload_n C dX7_way_9 rfl 0 rfl 10 rfl ?_
  refine gf_758_29 C dX7_way_10 13 rfl ?_
  refine x_if_le C dX7_way_13 20 (by decide) 16 rfl (fun hc => ?_) (fun hc => ?_)
  · have h := ip hc h
    refine x_aload_n C dX7_way_20 rfl 0 rfl 21 rfl ?_
    refine x_iload_n C dX7_way_21 rfl 1 rfl 22 rfl ?_
    obtain ⟨r22, σ22, h22, h⟩ := bn_some h
    refine x_callV C 29 [.int a1] (c_X7_layWay  h22) mi_X7_layWay (gt_29 g _) rfl q_902 rfl ⟨rfl, rfl⟩ ⟨Nat.le_of_ble_eq_true rfl, Nat.le_of_ble_eq_true rfl⟩ ⟨Nat.zero_le _, Nat.zero_le _⟩ _ rfl (Nat.le_of_ble_eq_true rfl) dX7_way_22 25 rfl ?_
    cases h
    exact hE _ _ ht 25 _ dX7_way_25
  · have h := iq hc h
    refine x_iconst C (v := 0) dX7_way_16 (by decide) 17 rfl ?_
    refine x_goto C dX7_way_17 25 (by decide) ?_
    cases h
    exact hE _ _ ht 25 _ dX7_way_25
set_option maxHeartbeats 4000000 in
set_option maxRecDepth 100000 in
theorem c_X7_way {g : Gb} {l : Launch}  {a1 : Int32} {σ : WD} {r : Int32} {σ2 : WD} (h : f_X7_way a1 σ = some (r, σ2)) : MC l g yX7_way (.code yX7_way cX7_way 2 (some (.int))) (rmk 5 97) [.ref (adr g 29), .int a1] σ (some (.int r)) σ2 := by
  refine MC.of (by decide) (Nat.le_of_ble_eq_true rfl) (fun x C hl hr hq => ?_)
  subst hl
  exact w_X7_way (E := fun z => z = (r, σ2)) C  (fun a s2 he pc lv hd => by cases he; exact x_iret C hr hq hd) h rfl
set_option maxHeartbeats 4000000 in
set_option maxRecDepth 100000 in
theorem w_X7_wayNode {x : Cx} {g : Gb} {E : Int32 × WD → Prop} (C : CF x g RX7 cX7_wayNode 4 (rmk 5 97))  {a1 : Int32} {a2 : Int32} {σ : WD} (hE : ∀ (a : Int32) (s2 : WD), E (a, s2) → ∀ pc lv, decode cX7_wayNode pc = .ok (.ireturn, 1) → WW x g 4 0 0 pc lv [.int a] s2) {t : Int32 × WD} (h : f_X7_wayNode a1 a2 σ = some t) (ht : E t) : WW x g 4 0 0 0 [(0, .ref (adr g 29)), (1, .int a1), (2, .int a2)] [] σ := by
  unfold f_X7_wayNode at h
  refine x_aload_n C dX7_wayNode_0 rfl 0 rfl 1 rfl ?_
  refine x_aload_n C dX7_wayNode_1 rfl 0 rfl 2 rfl ?_
  refine x_iload_n C dX7_wayNode_2 rfl 1 rfl 3 rfl ?_
  obtain ⟨r3, h3, h⟩ := bv_some h
  refine x_callV C 29 [.int a1] (c_X7_exposedFault  h3) mi_X7_exposedFault (gt_29 g _) rfl q_894 rfl ⟨rfl, rfl⟩ ⟨Nat.le_of_ble_eq_true rfl, Nat.le_of_ble_eq_true rfl⟩ ⟨Nat.zero_le _, Nat.zero_le _⟩ _ rfl (Nat.le_of_ble_eq_true rfl) dX7_wayNode_3 6 rfl ?_
  refine pf_758_29 C dX7_wayNode_6 9 rfl ?_
  obtain ⟨σ6, e6, h⟩ := lt_some h
  refine x_we e6 ?_
  refine x_aload_n C dX7_wayNode_9 rfl 0 rfl 10 rfl ?_
  refine gf_758_29 C dX7_wayNode_10 13 rfl ?_
  refine x_if_le C dX7_wayNode_13 18 (by decide) 16 rfl (fun hc => ?_) (fun hc => ?_)
  · have h := ip hc h
    refine x_aload_n C dX7_wayNode_18 rfl 0 rfl 19 rfl ?_
    refine x_iload_n C dX7_wayNode_19 rfl 1 rfl 20 rfl ?_
    obtain ⟨r20, σ20, h20, h⟩ := bn_some h
    refine x_callV C 29 [.int a1] (c_X7_layWay  h20) mi_X7_layWay (gt_29 g _) rfl q_902 rfl ⟨rfl, rfl⟩ ⟨Nat.le_of_ble_eq_true rfl, Nat.le_of_ble_eq_true rfl⟩ ⟨Nat.zero_le _, Nat.zero_le _⟩ _ rfl (Nat.le_of_ble_eq_true rfl) dX7_wayNode_20 23 rfl ?_
    refine x_istore_n C [(3, .int r20), (0, .ref (adr g 29)), (1, .int a1), (2, .int a2)] dX7_wayNode_23 rfl (by decide) rfl 24 rfl ?_
    refine x_iload_n C dX7_wayNode_24 rfl 0 rfl 25 rfl ?_
    refine x_if_le C dX7_wayNode_25 46 (by decide) 28 rfl (fun hc => ?_) (fun hc => ?_)
    · have h := ip hc h
      refine x_iconst C (v := -1) dX7_wayNode_46 (by decide) 47 rfl ?_
      cases h
      exact hE _ _ ht 47 _ dX7_wayNode_47
    · have h := iq hc h
      refine x_iload_n C dX7_wayNode_28 rfl 3 rfl 29 rfl ?_
      refine x_iconst C (v := 0) dX7_wayNode_29 (by decide) 30 rfl ?_
      refine x_iload_n C dX7_wayNode_30 rfl 0 rfl 31 rfl ?_
      obtain ⟨r31, h31, h⟩ := bv_some h
      refine x_callS C [.int a2, .int 0, .int r20] (c_X7_within  h31) mi_X7_within q_824 rfl ⟨rfl, rfl⟩ ⟨Nat.le_of_ble_eq_true rfl, Nat.le_of_ble_eq_true rfl⟩ ⟨Nat.zero_le _, Nat.zero_le _⟩ _ rfl (Nat.le_of_ble_eq_true rfl) dX7_wayNode_31 34 rfl ?_
      refine x_if_eq C dX7_wayNode_34 46 (by decide) 37 rfl (fun hc => ?_) (fun hc => ?_)
      · have h := ip hc h
        refine x_iconst C (v := -1) dX7_wayNode_46 (by decide) 47 rfl ?_
        cases h
        exact hE _ _ ht 47 _ dX7_wayNode_47
      · have h := iq hc h
        refine x_aload_n C dX7_wayNode_37 rfl 1 rfl 38 rfl ?_
        refine gf_769_29 C dX7_wayNode_38 41 rfl ?_
        refine x_iload_n C dX7_wayNode_41 rfl 3 rfl 42 rfl ?_
        obtain ⟨hin, h⟩ := gi_some h
        refine x_iald C 37 (gt_37 g _) hin dX7_wayNode_42 43 rfl ?_
        refine x_goto C dX7_wayNode_43 47 (by decide) ?_
        cases h
        exact hE _ _ ht 47 _ dX7_wayNode_47
  · have h := iq hc h
    refine x_iconst C (v := 0) dX7_wayNode_16 (by decide) 17 rfl ?_
    cases h
    exact hE _ _ ht 17 _ dX7_wayNode_17
set_option maxHeartbeats 4000000 in
set_option maxRecDepth 100000 in
theorem c_X7_wayNode {g : Gb} {l : Launch}  {a1 : Int32} {a2 : Int32} {σ : WD} {r : Int32} {σ2 : WD} (h : f_X7_wayNode a1 a2 σ = some (r, σ2)) : MC l g yX7_wayNode (.code yX7_wayNode cX7_wayNode 4 (some (.int))) (rmk 5 97) [.ref (adr g 29), .int a1, .int a2] σ (some (.int r)) σ2 := by
  refine MC.of (by decide) (Nat.le_of_ble_eq_true rfl) (fun x C hl hr hq => ?_)
  subst hl
  exact w_X7_wayNode (E := fun z => z = (r, σ2)) C  (fun a s2 he pc lv hd => by cases he; exact x_iret C hr hq hd) h rfl
set_option maxHeartbeats 4000000 in
set_option maxRecDepth 100000 in
theorem w_X7_reach_14 {x : Cx} {g : Gb} {E : Int32 × WD → Prop} (C : CF x g RX7 cX7_reach 3 (rmk 5 96))  {l1 : Int32} {l2 : Int32} {s0 : Int32} {σ : WD} (hE : ∀ (a : Int32) (s2 : WD), E (a, s2) → ∀ pc lv, decode cX7_reach pc = .ok (.ireturn, 1) → WW x g 3 0 0 pc lv [.int a] s2) {t : Int32 × WD} (h : f_X7_reach_14 l1 l2 s0 σ = some t) (ht : E t) : WW x g 3 0 0 14 [(0, .ref (adr g 29)), (1, .int l1), (2, .int l2)] [.int s0, .ref (adr g 29)] σ := by
  unfold f_X7_reach_14 at h
  refine pf_758_29 C dX7_reach_14 17 rfl ?_
  obtain ⟨σ14, e14, h⟩ := lt_some h
  refine x_we e14 ?_
  refine x_aload_n C dX7_reach_17 rfl 0 rfl 18 rfl ?_
  refine gf_758_29 C dX7_reach_18 21 rfl ?_
  refine x_if_le C dX7_reach_21 26 (by decide) 24 rfl (fun hc => ?_) (fun hc => ?_)
  · have h := ip hc h
    refine x_aload_n C dX7_reach_26 rfl 0 rfl 27 rfl ?_
    refine x_iload_n C dX7_reach_27 rfl 1 rfl 28 rfl ?_
    obtain ⟨σ28, h28, h⟩ := bv_some h
    refine x_callV C 29 [.int l1] (c_X7_layReach  h28) mi_X7_layReach (gt_29 g _) rfl q_958 rfl ⟨rfl, rfl⟩ ⟨Nat.le_of_ble_eq_true rfl, Nat.le_of_ble_eq_true rfl⟩ ⟨Nat.zero_le _, Nat.zero_le _⟩ _ rfl (Nat.le_of_ble_eq_true rfl) dX7_reach_28 31 rfl ?_
    refine x_iload_n C dX7_reach_31 rfl 2 rfl 32 rfl ?_
    refine x_if_eq C dX7_reach_32 42 (by decide) 35 rfl (fun hc => ?_) (fun hc => ?_)
    · have h := ip hc h
      refine x_aload_n C dX7_reach_42 rfl 0 rfl 43 rfl ?_
      refine gf_771_29 C dX7_reach_43 46 rfl ?_
      cases h
      exact hE _ _ ht 46 _ dX7_reach_46
    · have h := iq hc h
      refine x_aload_n C dX7_reach_35 rfl 0 rfl 36 rfl ?_
      refine gf_772_29 C dX7_reach_36 39 rfl ?_
      refine x_goto C dX7_reach_39 46 (by decide) ?_
      cases h
      exact hE _ _ ht 46 _ dX7_reach_46
  · have h := iq hc h
    refine x_iconst C (v := 0) dX7_reach_24 (by decide) 25 rfl ?_
    cases h
    exact hE _ _ ht 25 _ dX7_reach_25
set_option maxHeartbeats 4000000 in
set_option maxRecDepth 100000 in
theorem w_X7_reach {x : Cx} {g : Gb} {E : Int32 × WD → Prop} (C : CF x g RX7 cX7_reach 3 (rmk 5 96))  {a1 : Int32} {a2 : Int32} {σ : WD} (hE : ∀ (a : Int32) (s2 : WD), E (a, s2) → ∀ pc lv, decode cX7_reach pc = .ok (.ireturn, 1) → WW x g 3 0 0 pc lv [.int a] s2) {t : Int32 × WD} (h : f_X7_reach a1 a2 σ = some t) (ht : E t) : WW x g 3 0 0 0 [(0, .ref (adr g 29)), (1, .int a1), (2, .int a2)] [] σ := by
  unfold f_X7_reach at h
  refine x_aload_n C dX7_reach_0 rfl 0 rfl 1 rfl ?_
  refine x_aload_n C dX7_reach_1 rfl 0 rfl 2 rfl ?_
  refine x_iload_n C dX7_reach_2 rfl 1 rfl 3 rfl ?_
  obtain ⟨r3, h3, h⟩ := bv_some h
  refine x_callV C 29 [.int a1] (c_X7_isNode  h3) mi_X7_isNode (gt_29 g _) rfl q_831 rfl ⟨rfl, rfl⟩ ⟨Nat.le_of_ble_eq_true rfl, Nat.le_of_ble_eq_true rfl⟩ ⟨Nat.zero_le _, Nat.zero_le _⟩ _ rfl (Nat.le_of_ble_eq_true rfl) dX7_reach_3 6 rfl ?_
  refine x_if_eq C dX7_reach_6 13 (by decide) 9 rfl (fun hc => ?_) (fun hc => ?_)
  · have h := ip hc h
    refine x_iconst C (v := 1) dX7_reach_13 (by decide) 14 rfl ?_
    exact x_sub [0, 1, 2] rfl (w_X7_reach_14 C  hE h ht)
  · have h := iq hc h
    refine x_iconst C (v := 0) dX7_reach_9 (by decide) 10 rfl ?_
    refine x_goto C dX7_reach_10 14 (by decide) ?_
    exact x_sub [0, 1, 2] rfl (w_X7_reach_14 C  hE h ht)
set_option maxHeartbeats 4000000 in
set_option maxRecDepth 100000 in
theorem c_X7_reach {g : Gb} {l : Launch}  {a1 : Int32} {a2 : Int32} {σ : WD} {r : Int32} {σ2 : WD} (h : f_X7_reach a1 a2 σ = some (r, σ2)) : MC l g yX7_reach (.code yX7_reach cX7_reach 3 (some (.int))) (rmk 5 96) [.ref (adr g 29), .int a1, .int a2] σ (some (.int r)) σ2 := by
  refine MC.of (by decide) (Nat.le_of_ble_eq_true rfl) (fun x C hl hr hq => ?_)
  subst hl
  exact w_X7_reach (E := fun z => z = (r, σ2)) C  (fun a s2 he pc lv hd => by cases he; exact x_iret C hr hq hd) h rfl
set_option maxHeartbeats 4000000 in
set_option maxRecDepth 100000 in
theorem w_X7_oddWalk_113 {x : Cx} {g : Gb} {E : (Int32 × Int32 × Int32) ⊕ (Int32) → Prop} (C : CF x g RX7 cX7_oddWalk 8 (rmk 2 23))  {l1 : Int32} {l2 : Int32} {l4 : Int32} {s0 : Int32} {s1 : Int32} {σ : WD} (hI0 : ∀ s, E (.inl s) → WW x g 8 0 0 9 [(0, .ref (adr g 29)), (1, .int l1), (2, .int s.1), (3, .int s.2.1), (4, .int s.2.2)] [] σ) (hE : ∀ (a : Int32), E (.inr a) → ∀ pc lv, decode cX7_oddWalk pc = .ok (.ireturn, 1) → WW x g 8 0 0 pc lv [.int a] σ) {t : (Int32 × Int32 × Int32) ⊕ (Int32)} (h : f_X7_oddWalk_113 l1 l2 l4 s0 s1 σ = some t) (ht : E t) : WW x g 8 0 0 113 [(0, .ref (adr g 29)), (1, .int l1), (2, .int l2), (4, .int l4)] [.int s0, .int s1] σ := by
  unfold f_X7_oddWalk_113 at h
  refine x_ior C dX7_oddWalk_113 114 rfl ?_
  refine x_istore_n C [(3, .int (s1 ||| s0)), (0, .ref (adr g 29)), (1, .int l1), (2, .int l2), (4, .int l4)] dX7_oddWalk_114 rfl (by decide) rfl 115 rfl ?_
  refine x_iload_n C dX7_oddWalk_115 rfl 0 rfl 116 rfl ?_
  refine x_iload_n C dX7_oddWalk_116 rfl 2 rfl 117 rfl ?_
  obtain ⟨r117, h117, h⟩ := bv_some h
  refine x_callS C [.int (s1 ||| s0), .int l1] (c_X7_has  h117) mi_X7_has q_839 rfl ⟨rfl, rfl⟩ ⟨Nat.le_of_ble_eq_true rfl, Nat.le_of_ble_eq_true rfl⟩ ⟨Nat.zero_le _, Nat.zero_le _⟩ _ rfl (Nat.le_of_ble_eq_true rfl) dX7_oddWalk_117 120 rfl ?_
  refine x_if_eq C dX7_oddWalk_120 126 (by decide) 123 rfl (fun hc => ?_) (fun hc => ?_)
  · have h := ip hc h
    refine x_iinc C [(4, .int (l4 + 1)), (3, .int (s1 ||| s0)), (0, .ref (adr g 29)), (1, .int l1), (2, .int l2)] dX7_oddWalk_126 4 rfl rfl (by decide) rfl 129 rfl ?_
    refine x_goto C dX7_oddWalk_129 9 (by decide) ?_
    cases h
    exact x_sub [2, 3, 4, 1, 0] rfl (hI0 (l2, (s1 ||| s0), (l4 + 1)) ht)
  · have h := iq hc h
    refine x_iload C dX7_oddWalk_123 4 rfl 125 rfl ?_
    cases h
    exact hE _ ht 125 _ dX7_oddWalk_125
set_option maxHeartbeats 4000000 in
set_option maxRecDepth 100000 in
theorem w_X7_oddWalk_96 {x : Cx} {g : Gb} {E : (Int32 × Int32 × Int32) ⊕ (Int32) → Prop} (C : CF x g RX7 cX7_oddWalk 8 (rmk 2 23))  {l1 : Int32} {l3 : Int32} {l4 : Int32} {l6 : Int32} {s0 : Int32} {s1 : Int32} {σ : WD} (hI0 : ∀ s, E (.inl s) → WW x g 8 0 0 9 [(0, .ref (adr g 29)), (1, .int l1), (2, .int s.1), (3, .int s.2.1), (4, .int s.2.2)] [] σ) (hE : ∀ (a : Int32), E (.inr a) → ∀ pc lv, decode cX7_oddWalk pc = .ok (.ireturn, 1) → WW x g 8 0 0 pc lv [.int a] σ) {t : (Int32 × Int32 × Int32) ⊕ (Int32)} (h : f_X7_oddWalk_96 l1 l3 l4 l6 s0 s1 σ = some t) (ht : E t) : WW x g 8 0 0 96 [(0, .ref (adr g 29)), (1, .int l1), (3, .int l3), (4, .int l4), (6, .int l6)] [.int s0, .int s1] σ := by
  unfold f_X7_oddWalk_96 at h
  refine x_ior C dX7_oddWalk_96 97 rfl ?_
  refine x_istore_n C [(2, .int (s1 ||| s0)), (0, .ref (adr g 29)), (1, .int l1), (3, .int l3), (4, .int l4), (6, .int l6)] dX7_oddWalk_97 rfl (by decide) rfl 98 rfl ?_
  refine x_iload_n C dX7_oddWalk_98 rfl 3 rfl 99 rfl ?_
  refine x_iload C dX7_oddWalk_99 4 rfl 101 rfl ?_
  refine x_iconst C (v := 2) dX7_oddWalk_101 (by decide) 102 rfl ?_
  obtain ⟨hz, h⟩ := gz_some h
  refine x_irem C dX7_oddWalk_102 hz 103 rfl ?_
  refine x_iconst C (v := 1) dX7_oddWalk_103 (by decide) 104 rfl ?_
  refine x_icmp_ne C dX7_oddWalk_104 112 (by decide) 107 rfl (fun hc => ?_) (fun hc => ?_)
  · have h := iq hc h
    refine x_iconst C (v := 0) dX7_oddWalk_112 (by decide) 113 rfl ?_
    exact x_sub [1, 2, 0, 4] rfl (w_X7_oddWalk_113 C  hI0 hE h ht)
  · have h := ip hc h
    refine x_iload C dX7_oddWalk_107 5 rfl 109 rfl ?_
    refine x_goto C dX7_oddWalk_109 113 (by decide) ?_
    exact x_sub [1, 2, 0, 4] rfl (w_X7_oddWalk_113 C  hI0 hE h ht)
set_option maxHeartbeats 4000000 in
set_option maxRecDepth 100000 in
theorem w_X7_oddWalk_82 {x : Cx} {g : Gb} {E : (Int32 × Int32 × Int32) ⊕ (Int32) → Prop} (C : CF x g RX7 cX7_oddWalk 8 (rmk 2 23))  {l1 : Int32} {l2 : Int32} {l3 : Int32} {l4 : Int32} {l6 : Int32} {σ : WD} (hI0 : ∀ s, E (.inl s) → WW x g 8 0 0 9 [(0, .ref (adr g 29)), (1, .int l1), (2, .int s.1), (3, .int s.2.1), (4, .int s.2.2)] [] σ) (hE : ∀ (a : Int32), E (.inr a) → ∀ pc lv, decode cX7_oddWalk pc = .ok (.ireturn, 1) → WW x g 8 0 0 pc lv [.int a] σ) {t : (Int32 × Int32 × Int32) ⊕ (Int32)} (h : f_X7_oddWalk_82 l1 l2 l3 l4 l6 σ = some t) (ht : E t) : WW x g 8 0 0 82 [(0, .ref (adr g 29)), (1, .int l1), (2, .int l2), (3, .int l3), (4, .int l4), (6, .int l6)] [] σ := by
  unfold f_X7_oddWalk_82 at h
  refine x_iload_n C dX7_oddWalk_82 rfl 2 rfl 83 rfl ?_
  refine x_iload C dX7_oddWalk_83 4 rfl 85 rfl ?_
  refine x_iconst C (v := 2) dX7_oddWalk_85 (by decide) 86 rfl ?_
  obtain ⟨hz, h⟩ := gz_some h
  refine x_irem C dX7_oddWalk_86 hz 87 rfl ?_
  refine x_if_ne C dX7_oddWalk_87 95 (by decide) 90 rfl (fun hc => ?_) (fun hc => ?_)
  · have h := iq hc h
    refine x_iconst C (v := 0) dX7_oddWalk_95 (by decide) 96 rfl ?_
    exact x_sub [0, 1, 3, 4, 5] rfl (w_X7_oddWalk_96 C  hI0 hE h ht)
  · have h := ip hc h
    refine x_iload C dX7_oddWalk_90 5 rfl 92 rfl ?_
    refine x_goto C dX7_oddWalk_92 96 (by decide) ?_
    exact x_sub [0, 1, 3, 4, 5] rfl (w_X7_oddWalk_96 C  hI0 hE h ht)
set_option maxHeartbeats 4000000 in
set_option maxRecDepth 100000 in
theorem w_X7_oddWalk_73 {x : Cx} {g : Gb} {E : (Int32 × Int32) ⊕ ((Int32 × Int32 × Int32) ⊕ (Int32)) → Prop} (C : CF x g RX7 cX7_oddWalk 8 (rmk 2 23))  {l1 : Int32} {l2 : Int32} {l3 : Int32} {l4 : Int32} {l5 : Int32} {l7 : Int32} {s0 : Int32} {s1 : Int32} {σ : WD} (hI0 : ∀ s, E (.inl s) → WW x g 8 0 0 41 [(0, .ref (adr g 29)), (1, .int l1), (2, .int l2), (3, .int l3), (4, .int l4), (5, .int l5), (6, .int s.1), (7, .int s.2)] [] σ) (hI1 : ∀ s, E (.inr (.inl s)) → WW x g 8 0 0 9 [(0, .ref (adr g 29)), (1, .int l1), (2, .int s.1), (3, .int s.2.1), (4, .int s.2.2)] [] σ) (hE : ∀ (a : Int32), E (.inr (.inr a)) → ∀ pc lv, decode cX7_oddWalk pc = .ok (.ireturn, 1) → WW x g 8 0 0 pc lv [.int a] σ) {t : (Int32 × Int32) ⊕ ((Int32 × Int32 × Int32) ⊕ (Int32))} (h : f_X7_oddWalk_73 l1 l2 l3 l4 l5 l7 s0 s1 σ = some t) (ht : E t) : WW x g 8 0 0 73 [(0, .ref (adr g 29)), (1, .int l1), (2, .int l2), (3, .int l3), (4, .int l4), (5, .int l5), (7, .int l7)] [.int s0, .int s1] σ := by
  unfold f_X7_oddWalk_73 at h
  refine x_ior C dX7_oddWalk_73 74 rfl ?_
  refine x_istore C [(6, .int (s1 ||| s0)), (0, .ref (adr g 29)), (1, .int l1), (2, .int l2), (3, .int l3), (4, .int l4), (5, .int l5), (7, .int l7)] dX7_oddWalk_74 (by decide) rfl 76 rfl ?_
  refine x_iinc C [(7, .int (l7 + 1)), (6, .int (s1 ||| s0)), (0, .ref (adr g 29)), (1, .int l1), (2, .int l2), (3, .int l3), (4, .int l4), (5, .int l5)] dX7_oddWalk_76 7 rfl rfl (by decide) rfl 79 rfl ?_
  refine x_goto C dX7_oddWalk_79 41 (by decide) ?_
  cases h
  exact x_sub [2, 3, 4, 5, 6, 7, 1, 0] rfl (hI0 ((s1 ||| s0), (l7 + 1)) ht)
set_option maxHeartbeats 4000000 in
set_option maxRecDepth 100000 in
theorem w_X7_oddWalk_b41 {x : Cx} {g : Gb} {E : (Int32 × Int32) ⊕ ((Int32 × Int32 × Int32) ⊕ (Int32)) → Prop} (C : CF x g RX7 cX7_oddWalk 8 (rmk 2 23))  {l1 : Int32} {l2 : Int32} {l3 : Int32} {l4 : Int32} {l5 : Int32} {l6 : Int32} {l7 : Int32} {σ : WD} (hI0 : ∀ s, E (.inl s) → WW x g 8 0 0 41 [(0, .ref (adr g 29)), (1, .int l1), (2, .int l2), (3, .int l3), (4, .int l4), (5, .int l5), (6, .int s.1), (7, .int s.2)] [] σ) (hI1 : ∀ s, E (.inr (.inl s)) → WW x g 8 0 0 9 [(0, .ref (adr g 29)), (1, .int l1), (2, .int s.1), (3, .int s.2.1), (4, .int s.2.2)] [] σ) (hE : ∀ (a : Int32), E (.inr (.inr a)) → ∀ pc lv, decode cX7_oddWalk pc = .ok (.ireturn, 1) → WW x g 8 0 0 pc lv [.int a] σ) {t : (Int32 × Int32) ⊕ ((Int32 × Int32 × Int32) ⊕ (Int32))} (h : f_X7_oddWalk_b41 l1 l2 l3 l4 l5 l6 l7 σ = some t) (ht : E t) : WW x g 8 0 0 41 [(0, .ref (adr g 29)), (1, .int l1), (2, .int l2), (3, .int l3), (4, .int l4), (5, .int l5), (6, .int l6), (7, .int l7)] [] σ := by
  unfold f_X7_oddWalk_b41 at h
  refine x_iload C dX7_oddWalk_41 7 rfl 43 rfl ?_
  refine x_aload_n C dX7_oddWalk_43 rfl 0 rfl 44 rfl ?_
  refine gf_759_29 C dX7_oddWalk_44 47 rfl ?_
  refine x_icmp_ge C dX7_oddWalk_47 82 (by decide) 50 rfl (fun hc => ?_) (fun hc => ?_)
  · have h := ip hc h
    obtain ⟨_, hm0, rfl⟩ := mr_some h
    exact x_sub [0, 1, 2, 3, 4, 6] rfl (w_X7_oddWalk_82 (E := fun r => E (.inr r)) C  hI1 hE hm0 ht)
  · have h := iq hc h
    refine x_iload C dX7_oddWalk_50 6 rfl 52 rfl ?_
    refine x_iload C dX7_oddWalk_52 5 rfl 54 rfl ?_
    refine x_iload C dX7_oddWalk_54 7 rfl 56 rfl ?_
    obtain ⟨r56, h56, h⟩ := bv_some h
    refine x_callS C [.int l5, .int l7] (c_X7_has  h56) mi_X7_has q_839 rfl ⟨rfl, rfl⟩ ⟨Nat.le_of_ble_eq_true rfl, Nat.le_of_ble_eq_true rfl⟩ ⟨Nat.zero_le _, Nat.zero_le _⟩ _ rfl (Nat.le_of_ble_eq_true rfl) dX7_oddWalk_56 59 rfl ?_
    refine x_if_eq C dX7_oddWalk_59 72 (by decide) 62 rfl (fun hc => ?_) (fun hc => ?_)
    · have h := ip hc h
      refine x_iconst C (v := 0) dX7_oddWalk_72 (by decide) 73 rfl ?_
      exact x_sub [0, 1, 2, 3, 4, 5, 7] rfl (w_X7_oddWalk_73 C  hI0 hI1 hE h ht)
    · have h := iq hc h
      refine x_aload_n C dX7_oddWalk_62 rfl 0 rfl 63 rfl ?_
      refine gf_760_29 C dX7_oddWalk_63 66 rfl ?_
      refine x_iload C dX7_oddWalk_66 7 rfl 68 rfl ?_
      obtain ⟨hin, h⟩ := gi_some h
      refine x_iald C 30 (gt_30 g _) hin dX7_oddWalk_68 69 rfl ?_
      refine x_goto C dX7_oddWalk_69 73 (by decide) ?_
      exact x_sub [0, 1, 2, 3, 4, 5, 7] rfl (w_X7_oddWalk_73 C  hI0 hI1 hE h ht)
set_option maxHeartbeats 4000000 in
set_option maxRecDepth 100000 in
theorem w_X7_oddWalk_41 {x : Cx} {g : Gb} {E : (Int32 × Int32 × Int32) ⊕ (Int32) → Prop} (C : CF x g RX7 cX7_oddWalk 8 (rmk 2 23))  {l1 : Int32} {l2 : Int32} {l3 : Int32} {l4 : Int32} {l5 : Int32} {l6 : Int32} {l7 : Int32} {σ : WD} (hI0 : ∀ s, E (.inl s) → WW x g 8 0 0 9 [(0, .ref (adr g 29)), (1, .int l1), (2, .int s.1), (3, .int s.2.1), (4, .int s.2.2)] [] σ) (hE : ∀ (a : Int32), E (.inr a) → ∀ pc lv, decode cX7_oddWalk pc = .ok (.ireturn, 1) → WW x g 8 0 0 pc lv [.int a] σ) {t : (Int32 × Int32 × Int32) ⊕ (Int32)} (h : f_X7_oddWalk_41 l1 l2 l3 l4 l5 l6 l7 σ = some t) (ht : E t) : WW x g 8 0 0 41 [(0, .ref (adr g 29)), (1, .int l1), (2, .int l2), (3, .int l3), (4, .int l4), (5, .int l5), (6, .int l6), (7, .int l7)] [] σ := by
  unfold f_X7_oddWalk_41 at h
  exact lp_ind (fun s : Int32 × Int32 => WW x g 8 0 0 41 [(0, .ref (adr g 29)), (1, .int l1), (2, .int l2), (3, .int l3), (4, .int l4), (5, .int l5), (6, .int s.1), (7, .int s.2)] [] σ) E h ht (fun s y hb hy => w_X7_oddWalk_b41 (E := Sum.elim (fun s : Int32 × Int32 => WW x g 8 0 0 41 [(0, .ref (adr g 29)), (1, .int l1), (2, .int l2), (3, .int l3), (4, .int l4), (5, .int l5), (6, .int s.1), (7, .int s.2)] [] σ) E) C  (fun _ h => h) hI0 hE hb hy)
set_option maxHeartbeats 4000000 in
set_option maxRecDepth 100000 in
theorem w_X7_oddWalk_b9 {x : Cx} {g : Gb} {E : (Int32 × Int32 × Int32) ⊕ (Int32) → Prop} (C : CF x g RX7 cX7_oddWalk 8 (rmk 2 23))  {l1 : Int32} {l2 : Int32} {l3 : Int32} {l4 : Int32} {σ : WD} (hI0 : ∀ s, E (.inl s) → WW x g 8 0 0 9 [(0, .ref (adr g 29)), (1, .int l1), (2, .int s.1), (3, .int s.2.1), (4, .int s.2.2)] [] σ) (hE : ∀ (a : Int32), E (.inr a) → ∀ pc lv, decode cX7_oddWalk pc = .ok (.ireturn, 1) → WW x g 8 0 0 pc lv [.int a] σ) {t : (Int32 × Int32 × Int32) ⊕ (Int32)} (h : f_X7_oddWalk_b9 l1 l2 l3 l4 σ = some t) (ht : E t) : WW x g 8 0 0 9 [(0, .ref (adr g 29)), (1, .int l1), (2, .int l2), (3, .int l3), (4, .int l4)] [] σ := by
  unfold f_X7_oddWalk_b9 at h
  refine x_iload C dX7_oddWalk_9 4 rfl 11 rfl ?_
  refine x_iconst C (v := 2) dX7_oddWalk_11 (by decide) 12 rfl ?_
  refine x_aload_n C dX7_oddWalk_12 rfl 0 rfl 13 rfl ?_
  refine gf_759_29 C dX7_oddWalk_13 16 rfl ?_
  refine x_imul C dX7_oddWalk_16 17 rfl ?_
  refine x_icmp_gt C dX7_oddWalk_17 132 (by decide) 20 rfl (fun hc => ?_) (fun hc => ?_)
  · have h := ip hc h
    refine x_iconst C (v := -1) dX7_oddWalk_132 (by decide) 133 rfl ?_
    cases h
    exact hE _ ht 133 _ dX7_oddWalk_133
  · have h := iq hc h
    refine x_iload C dX7_oddWalk_20 4 rfl 22 rfl ?_
    refine x_iconst C (v := 2) dX7_oddWalk_22 (by decide) 23 rfl ?_
    obtain ⟨hz, h⟩ := gz_some h
    refine x_irem C dX7_oddWalk_23 hz 24 rfl ?_
    refine x_iconst C (v := 1) dX7_oddWalk_24 (by decide) 25 rfl ?_
    refine x_icmp_ne C dX7_oddWalk_25 32 (by decide) 28 rfl (fun hc => ?_) (fun hc => ?_)
    · have h := iq hc h
      refine x_iload_n C dX7_oddWalk_32 rfl 3 rfl 33 rfl ?_
      refine x_istore C [(5, .int l3), (0, .ref (adr g 29)), (1, .int l1), (2, .int l2), (3, .int l3), (4, .int l4)] dX7_oddWalk_33 (by decide) rfl 35 rfl ?_
      refine x_iconst C (v := 0) dX7_oddWalk_35 (by decide) 36 rfl ?_
      refine x_istore C [(6, .int 0), (5, .int l3), (0, .ref (adr g 29)), (1, .int l1), (2, .int l2), (3, .int l3), (4, .int l4)] dX7_oddWalk_36 (by decide) rfl 38 rfl ?_
      refine x_iconst C (v := 0) dX7_oddWalk_38 (by decide) 39 rfl ?_
      refine x_istore C [(7, .int 0), (6, .int 0), (5, .int l3), (0, .ref (adr g 29)), (1, .int l1), (2, .int l2), (3, .int l3), (4, .int l4)] dX7_oddWalk_39 (by decide) rfl 41 rfl ?_
      exact x_sub [3, 4, 5, 6, 7, 2, 1, 0] rfl (w_X7_oddWalk_41 C  hI0 hE h ht)
    · have h := ip hc h
      refine x_iload_n C dX7_oddWalk_28 rfl 2 rfl 29 rfl ?_
      refine x_goto C dX7_oddWalk_29 33 (by decide) ?_
      refine x_istore C [(5, .int l2), (0, .ref (adr g 29)), (1, .int l1), (2, .int l2), (3, .int l3), (4, .int l4)] dX7_oddWalk_33 (by decide) rfl 35 rfl ?_
      refine x_iconst C (v := 0) dX7_oddWalk_35 (by decide) 36 rfl ?_
      refine x_istore C [(6, .int 0), (5, .int l2), (0, .ref (adr g 29)), (1, .int l1), (2, .int l2), (3, .int l3), (4, .int l4)] dX7_oddWalk_36 (by decide) rfl 38 rfl ?_
      refine x_iconst C (v := 0) dX7_oddWalk_38 (by decide) 39 rfl ?_
      refine x_istore C [(7, .int 0), (6, .int 0), (5, .int l2), (0, .ref (adr g 29)), (1, .int l1), (2, .int l2), (3, .int l3), (4, .int l4)] dX7_oddWalk_39 (by decide) rfl 41 rfl ?_
      exact x_sub [3, 4, 5, 6, 7, 2, 1, 0] rfl (w_X7_oddWalk_41 C  hI0 hE h ht)
set_option maxHeartbeats 4000000 in
set_option maxRecDepth 100000 in
theorem w_X7_oddWalk_9 {x : Cx} {g : Gb} {E : Int32 → Prop} (C : CF x g RX7 cX7_oddWalk 8 (rmk 2 23))  {l1 : Int32} {l2 : Int32} {l3 : Int32} {l4 : Int32} {σ : WD} (hE : ∀ (a : Int32), E a → ∀ pc lv, decode cX7_oddWalk pc = .ok (.ireturn, 1) → WW x g 8 0 0 pc lv [.int a] σ) {t : Int32} (h : f_X7_oddWalk_9 l1 l2 l3 l4 σ = some t) (ht : E t) : WW x g 8 0 0 9 [(0, .ref (adr g 29)), (1, .int l1), (2, .int l2), (3, .int l3), (4, .int l4)] [] σ := by
  unfold f_X7_oddWalk_9 at h
  exact lp_ind (fun s : Int32 × Int32 × Int32 => WW x g 8 0 0 9 [(0, .ref (adr g 29)), (1, .int l1), (2, .int s.1), (3, .int s.2.1), (4, .int s.2.2)] [] σ) E h ht (fun s y hb hy => w_X7_oddWalk_b9 (E := Sum.elim (fun s : Int32 × Int32 × Int32 => WW x g 8 0 0 9 [(0, .ref (adr g 29)), (1, .int l1), (2, .int s.1), (3, .int s.2.1), (4, .int s.2.2)] [] σ) E) C  (fun _ h => h)  hE hb hy)
set_option maxHeartbeats 4000000 in
set_option maxRecDepth 100000 in
theorem w_X7_oddWalk {x : Cx} {g : Gb} {E : Int32 → Prop} (C : CF x g RX7 cX7_oddWalk 8 (rmk 2 23))  {a1 : Int32} {σ : WD} (hE : ∀ (a : Int32), E a → ∀ pc lv, decode cX7_oddWalk pc = .ok (.ireturn, 1) → WW x g 8 0 0 pc lv [.int a] σ) {t : Int32} (h : f_X7_oddWalk a1 σ = some t) (ht : E t) : WW x g 8 0 0 0 [(0, .ref (adr g 29)), (1, .int a1)] [] σ := by
  unfold f_X7_oddWalk at h
  refine x_iconst C (v := 1) dX7_oddWalk_0 (by decide) 1 rfl ?_
  refine x_iload_n C dX7_oddWalk_1 rfl 1 rfl 2 rfl ?_
  refine x_ishl C dX7_oddWalk_2 3 rfl ?_
  obtain ⟨v3, e3, h⟩ := li_some h
  refine x_te e3 ?_
  refine x_istore_n C [(2, .int v3), (0, .ref (adr g 29)), (1, .int a1)] dX7_oddWalk_3 rfl (by decide) rfl 4 rfl ?_
  refine x_iconst C (v := 0) dX7_oddWalk_4 (by decide) 5 rfl ?_
  refine x_istore_n C [(3, .int 0), (2, .int v3), (0, .ref (adr g 29)), (1, .int a1)] dX7_oddWalk_5 rfl (by decide) rfl 6 rfl ?_
  refine x_iconst C (v := 1) dX7_oddWalk_6 (by decide) 7 rfl ?_
  refine x_istore C [(4, .int 1), (3, .int 0), (2, .int v3), (0, .ref (adr g 29)), (1, .int a1)] dX7_oddWalk_7 (by decide) rfl 9 rfl ?_
  exact x_sub [3, 4, 2, 1, 0] rfl (w_X7_oddWalk_9 C  hE h ht)
set_option maxHeartbeats 4000000 in
set_option maxRecDepth 100000 in
theorem c_X7_oddWalk {g : Gb} {l : Launch}  {a1 : Int32} {σ : WD} {r : Int32} (h : f_X7_oddWalk a1 σ = some r) : MC l g yX7_oddWalk (.code yX7_oddWalk cX7_oddWalk 8 (some (.int))) (rmk 2 23) [.ref (adr g 29), .int a1] σ (some (.int r)) σ := by
  refine MC.of (by decide) (Nat.le_of_ble_eq_true rfl) (fun x C hl hr hq => ?_)
  subst hl
  exact w_X7_oddWalk (E := fun z => z = r) C  (fun a he pc lv hd => by cases he; exact x_iret C hr hq hd) h rfl
set_option maxHeartbeats 4000000 in
set_option maxRecDepth 100000 in
theorem w_X7_oddCycleNow_b4 {x : Cx} {g : Gb} {E : (Int32 × Int32) ⊕ (Int32) → Prop} (C : CF x g RX7 cX7_oddCycleNow 4 (rmk 3 51))  {l1 : Int32} {l2 : Int32} {σ : WD} (hI0 : ∀ s, E (.inl s) → WW x g 4 0 0 4 [(0, .ref (adr g 29)), (1, .int s.1), (2, .int s.2)] [] σ) (hE : ∀ (a : Int32), E (.inr a) → ∀ pc lv, decode cX7_oddCycleNow pc = .ok (.ireturn, 1) → WW x g 4 0 0 pc lv [.int a] σ) {t : (Int32 × Int32) ⊕ (Int32)} (h : f_X7_oddCycleNow_b4 l1 l2 σ = some t) (ht : E t) : WW x g 4 0 0 4 [(0, .ref (adr g 29)), (1, .int l1), (2, .int l2)] [] σ := by
  unfold f_X7_oddCycleNow_b4 at h
  refine x_iload_n C dX7_oddCycleNow_4 rfl 2 rfl 5 rfl ?_
  refine x_aload_n C dX7_oddCycleNow_5 rfl 0 rfl 6 rfl ?_
  refine gf_759_29 C dX7_oddCycleNow_6 9 rfl ?_
  refine x_icmp_ge C dX7_oddCycleNow_9 45 (by decide) 12 rfl (fun hc => ?_) (fun hc => ?_)
  · have h := ip hc h
    refine x_iload_n C dX7_oddCycleNow_45 rfl 1 rfl 46 rfl ?_
    cases h
    exact hE _ ht 46 _ dX7_oddCycleNow_46
  · have h := iq hc h
    refine x_aload_n C dX7_oddCycleNow_12 rfl 0 rfl 13 rfl ?_
    refine x_iload_n C dX7_oddCycleNow_13 rfl 2 rfl 14 rfl ?_
    obtain ⟨r14, h14, h⟩ := bv_some h
    refine x_callV C 29 [.int l2] (c_X7_oddWalk  h14) mi_X7_oddWalk (gt_29 g _) rfl q_970 rfl ⟨rfl, rfl⟩ ⟨Nat.le_of_ble_eq_true rfl, Nat.le_of_ble_eq_true rfl⟩ ⟨Nat.zero_le _, Nat.zero_le _⟩ _ rfl (Nat.le_of_ble_eq_true rfl) dX7_oddCycleNow_14 17 rfl ?_
    refine x_istore_n C [(3, .int r14), (0, .ref (adr g 29)), (1, .int l1), (2, .int l2)] dX7_oddCycleNow_17 rfl (by decide) rfl 18 rfl ?_
    refine x_iload_n C dX7_oddCycleNow_18 rfl 0 rfl 19 rfl ?_
    refine x_iconst C (v := -1) dX7_oddCycleNow_19 (by decide) 20 rfl ?_
    refine x_icmp_eq C dX7_oddCycleNow_20 37 (by decide) 23 rfl (fun hc => ?_) (fun hc => ?_)
    · have h := ip hc h
      refine x_iload_n C dX7_oddCycleNow_37 rfl 2 rfl 38 rfl ?_
      refine x_istore_n C [(1, .int l1), (3, .int r14), (0, .ref (adr g 29)), (2, .int l2)] dX7_oddCycleNow_38 rfl (by decide) rfl 39 rfl ?_
      refine x_iinc C [(2, .int (l2 + 1)), (1, .int l1), (3, .int r14), (0, .ref (adr g 29))] dX7_oddCycleNow_39 3 rfl rfl (by decide) rfl 42 rfl ?_
      refine x_goto C dX7_oddCycleNow_42 4 (by decide) ?_
      cases h
      exact x_sub [3, 1, 0] rfl (hI0 (l1, (l2 + 1)) ht)
    · have h := iq hc h
      refine x_iload_n C dX7_oddCycleNow_23 rfl 2 rfl 24 rfl ?_
      refine x_iconst C (v := -1) dX7_oddCycleNow_24 (by decide) 25 rfl ?_
      refine x_icmp_eq C dX7_oddCycleNow_25 33 (by decide) 28 rfl (fun hc => ?_) (fun hc => ?_)
      · have h := ip hc h
        refine x_iload_n C dX7_oddCycleNow_33 rfl 0 rfl 34 rfl ?_
        refine x_goto C dX7_oddCycleNow_34 38 (by decide) ?_
        refine x_istore_n C [(1, .int r14), (3, .int r14), (0, .ref (adr g 29)), (2, .int l2)] dX7_oddCycleNow_38 rfl (by decide) rfl 39 rfl ?_
        refine x_iinc C [(2, .int (l2 + 1)), (1, .int r14), (3, .int r14), (0, .ref (adr g 29))] dX7_oddCycleNow_39 3 rfl rfl (by decide) rfl 42 rfl ?_
        refine x_goto C dX7_oddCycleNow_42 4 (by decide) ?_
        cases h
        exact x_sub [3, 1, 0] rfl (hI0 (r14, (l2 + 1)) ht)
      · have h := iq hc h
        refine x_iload_n C dX7_oddCycleNow_28 rfl 0 rfl 29 rfl ?_
        refine x_iload_n C dX7_oddCycleNow_29 rfl 2 rfl 30 rfl ?_
        refine x_icmp_ge C dX7_oddCycleNow_30 37 (by decide) 33 rfl (fun hc => ?_) (fun hc => ?_)
        · have h := ip hc h
          refine x_iload_n C dX7_oddCycleNow_37 rfl 2 rfl 38 rfl ?_
          refine x_istore_n C [(1, .int l1), (3, .int r14), (0, .ref (adr g 29)), (2, .int l2)] dX7_oddCycleNow_38 rfl (by decide) rfl 39 rfl ?_
          refine x_iinc C [(2, .int (l2 + 1)), (1, .int l1), (3, .int r14), (0, .ref (adr g 29))] dX7_oddCycleNow_39 3 rfl rfl (by decide) rfl 42 rfl ?_
          refine x_goto C dX7_oddCycleNow_42 4 (by decide) ?_
          cases h
          exact x_sub [3, 1, 0] rfl (hI0 (l1, (l2 + 1)) ht)
        · have h := iq hc h
          refine x_iload_n C dX7_oddCycleNow_33 rfl 0 rfl 34 rfl ?_
          refine x_goto C dX7_oddCycleNow_34 38 (by decide) ?_
          refine x_istore_n C [(1, .int r14), (3, .int r14), (0, .ref (adr g 29)), (2, .int l2)] dX7_oddCycleNow_38 rfl (by decide) rfl 39 rfl ?_
          refine x_iinc C [(2, .int (l2 + 1)), (1, .int r14), (3, .int r14), (0, .ref (adr g 29))] dX7_oddCycleNow_39 3 rfl rfl (by decide) rfl 42 rfl ?_
          refine x_goto C dX7_oddCycleNow_42 4 (by decide) ?_
          cases h
          exact x_sub [3, 1, 0] rfl (hI0 (r14, (l2 + 1)) ht)
set_option maxHeartbeats 4000000 in
set_option maxRecDepth 100000 in
theorem w_X7_oddCycleNow_4 {x : Cx} {g : Gb} {E : Int32 → Prop} (C : CF x g RX7 cX7_oddCycleNow 4 (rmk 3 51))  {l1 : Int32} {l2 : Int32} {σ : WD} (hE : ∀ (a : Int32), E a → ∀ pc lv, decode cX7_oddCycleNow pc = .ok (.ireturn, 1) → WW x g 4 0 0 pc lv [.int a] σ) {t : Int32} (h : f_X7_oddCycleNow_4 l1 l2 σ = some t) (ht : E t) : WW x g 4 0 0 4 [(0, .ref (adr g 29)), (1, .int l1), (2, .int l2)] [] σ := by
  unfold f_X7_oddCycleNow_4 at h
  exact lp_ind (fun s : Int32 × Int32 => WW x g 4 0 0 4 [(0, .ref (adr g 29)), (1, .int s.1), (2, .int s.2)] [] σ) E h ht (fun s y hb hy => w_X7_oddCycleNow_b4 (E := Sum.elim (fun s : Int32 × Int32 => WW x g 4 0 0 4 [(0, .ref (adr g 29)), (1, .int s.1), (2, .int s.2)] [] σ) E) C  (fun _ h => h)  hE hb hy)
set_option maxHeartbeats 4000000 in
set_option maxRecDepth 100000 in
theorem w_X7_oddCycleNow {x : Cx} {g : Gb} {E : Int32 → Prop} (C : CF x g RX7 cX7_oddCycleNow 4 (rmk 3 51))   {σ : WD} (hE : ∀ (a : Int32), E a → ∀ pc lv, decode cX7_oddCycleNow pc = .ok (.ireturn, 1) → WW x g 4 0 0 pc lv [.int a] σ) {t : Int32} (h : f_X7_oddCycleNow  σ = some t) (ht : E t) : WW x g 4 0 0 0 [(0, .ref (adr g 29))] [] σ := by
  unfold f_X7_oddCycleNow at h
  refine x_iconst C (v := -1) dX7_oddCycleNow_0 (by decide) 1 rfl ?_
  refine x_istore_n C [(1, .int (-1)), (0, .ref (adr g 29))] dX7_oddCycleNow_1 rfl (by decide) rfl 2 rfl ?_
  refine x_iconst C (v := 0) dX7_oddCycleNow_2 (by decide) 3 rfl ?_
  refine x_istore_n C [(2, .int 0), (1, .int (-1)), (0, .ref (adr g 29))] dX7_oddCycleNow_3 rfl (by decide) rfl 4 rfl ?_
  exact x_sub [2, 1, 0] rfl (w_X7_oddCycleNow_4 C  hE h ht)
set_option maxHeartbeats 4000000 in
set_option maxRecDepth 100000 in
theorem c_X7_oddCycleNow {g : Gb} {l : Launch}   {σ : WD} {r : Int32} (h : f_X7_oddCycleNow  σ = some r) : MC l g yX7_oddCycleNow (.code yX7_oddCycleNow cX7_oddCycleNow 4 (some (.int))) (rmk 3 51) [.ref (adr g 29)] σ (some (.int r)) σ := by
  refine MC.of (by decide) (Nat.le_of_ble_eq_true rfl) (fun x C hl hr hq => ?_)
  subst hl
  exact w_X7_oddCycleNow (E := fun z => z = r) C  (fun a he pc lv hd => by cases he; exact x_iret C hr hq hd) h rfl
set_option maxHeartbeats 4000000 in
set_option maxRecDepth 100000 in
theorem w_X7_oddCycle {x : Cx} {g : Gb} {E : Int32 × WD → Prop} (C : CF x g RX7 cX7_oddCycle 1 (rmk 4 75))   {σ : WD} (hE : ∀ (a : Int32) (s2 : WD), E (a, s2) → ∀ pc lv, decode cX7_oddCycle pc = .ok (.ireturn, 1) → WW x g 1 0 0 pc lv [.int a] s2) {t : Int32 × WD} (h : f_X7_oddCycle  σ = some t) (ht : E t) : WW x g 1 0 0 0 [(0, .ref (adr g 29))] [] σ := by
  unfold f_X7_oddCycle at h
  refine x_aload_n C dX7_oddCycle_0 rfl 0 rfl 1 rfl ?_
  refine x_iconst C (v := 0) dX7_oddCycle_1 (by decide) 2 rfl ?_
  refine pf_758_29 C dX7_oddCycle_2 5 rfl ?_
  obtain ⟨σ2, e2, h⟩ := lt_some h
  refine x_we e2 ?_
  refine x_aload_n C dX7_oddCycle_5 rfl 0 rfl 6 rfl ?_
  obtain ⟨r6, h6, h⟩ := bv_some h
  refine x_callV C 29 [] (c_X7_oddCycleNow  h6) mi_X7_oddCycleNow (gt_29 g _) rfl q_966 rfl ⟨rfl, rfl⟩ ⟨Nat.le_of_ble_eq_true rfl, Nat.le_of_ble_eq_true rfl⟩ ⟨Nat.zero_le _, Nat.zero_le _⟩ _ rfl (Nat.le_of_ble_eq_true rfl) dX7_oddCycle_6 9 rfl ?_
  cases h
  exact hE _ _ ht 9 _ dX7_oddCycle_9
set_option maxHeartbeats 4000000 in
set_option maxRecDepth 100000 in
theorem c_X7_oddCycle {g : Gb} {l : Launch}   {σ : WD} {r : Int32} {σ2 : WD} (h : f_X7_oddCycle  σ = some (r, σ2)) : MC l g yX7_oddCycle (.code yX7_oddCycle cX7_oddCycle 1 (some (.int))) (rmk 4 75) [.ref (adr g 29)] σ (some (.int r)) σ2 := by
  refine MC.of (by decide) (Nat.le_of_ble_eq_true rfl) (fun x C hl hr hq => ?_)
  subst hl
  exact w_X7_oddCycle (E := fun z => z = (r, σ2)) C  (fun a s2 he pc lv hd => by cases he; exact x_iret C hr hq hd) h rfl
set_option maxHeartbeats 4000000 in
set_option maxRecDepth 100000 in
theorem w_X7_firstMate_14 {x : Cx} {g : Gb} {E : Int32 × WD → Prop} (C : CF x g RX7 cX7_firstMate 2 (rmk 3 50))  {l1 : Int32} {s0 : Int32} {σ : WD} (hE : ∀ (a : Int32) (s2 : WD), E (a, s2) → ∀ pc lv, decode cX7_firstMate pc = .ok (.ireturn, 1) → WW x g 2 0 0 pc lv [.int a] s2) {t : Int32 × WD} (h : f_X7_firstMate_14 l1 s0 σ = some t) (ht : E t) : WW x g 2 0 0 14 [(0, .ref (adr g 29)), (1, .int l1)] [.int s0, .ref (adr g 29)] σ := by
  unfold f_X7_firstMate_14 at h
  refine pf_758_29 C dX7_firstMate_14 17 rfl ?_
  obtain ⟨σ14, e14, h⟩ := lt_some h
  refine x_we e14 ?_
  refine x_aload_n C dX7_firstMate_17 rfl 0 rfl 18 rfl ?_
  refine gf_758_29 C dX7_firstMate_18 21 rfl ?_
  refine x_if_le C dX7_firstMate_21 26 (by decide) 24 rfl (fun hc => ?_) (fun hc => ?_)
  · have h := ip hc h
    refine x_aload_n C dX7_firstMate_26 rfl 0 rfl 27 rfl ?_
    obtain ⟨σ27, h27, h⟩ := bv_some h
    refine x_callV C 29 [] (c_X7_laySets  h27) mi_X7_laySets (gt_29 g _) rfl q_926 rfl ⟨rfl, rfl⟩ ⟨Nat.le_of_ble_eq_true rfl, Nat.le_of_ble_eq_true rfl⟩ ⟨Nat.zero_le _, Nat.zero_le _⟩ _ rfl (Nat.le_of_ble_eq_true rfl) dX7_firstMate_27 30 rfl ?_
    refine x_aload_n C dX7_firstMate_30 rfl 0 rfl 31 rfl ?_
    obtain ⟨σ31, h31, h⟩ := bv_some h
    refine x_callV C 29 [] (c_X7_layFirst  h31) mi_X7_layFirst (gt_29 g _) rfl q_938 rfl ⟨rfl, rfl⟩ ⟨Nat.le_of_ble_eq_true rfl, Nat.le_of_ble_eq_true rfl⟩ ⟨Nat.zero_le _, Nat.zero_le _⟩ _ rfl (Nat.le_of_ble_eq_true rfl) dX7_firstMate_31 34 rfl ?_
    refine x_aload_n C dX7_firstMate_34 rfl 0 rfl 35 rfl ?_
    refine gf_768_29 C dX7_firstMate_35 38 rfl ?_
    refine x_iload_n C dX7_firstMate_38 rfl 1 rfl 39 rfl ?_
    obtain ⟨hin, h⟩ := gi_some h
    refine x_iald C 36 (gt_36 g _) hin dX7_firstMate_39 40 rfl ?_
    cases h
    exact hE _ _ ht 40 _ dX7_firstMate_40
  · have h := iq hc h
    refine x_iconst C (v := 0) dX7_firstMate_24 (by decide) 25 rfl ?_
    cases h
    exact hE _ _ ht 25 _ dX7_firstMate_25
set_option maxHeartbeats 4000000 in
set_option maxRecDepth 100000 in
theorem w_X7_firstMate {x : Cx} {g : Gb} {E : Int32 × WD → Prop} (C : CF x g RX7 cX7_firstMate 2 (rmk 3 50))  {a1 : Int32} {σ : WD} (hE : ∀ (a : Int32) (s2 : WD), E (a, s2) → ∀ pc lv, decode cX7_firstMate pc = .ok (.ireturn, 1) → WW x g 2 0 0 pc lv [.int a] s2) {t : Int32 × WD} (h : f_X7_firstMate a1 σ = some t) (ht : E t) : WW x g 2 0 0 0 [(0, .ref (adr g 29)), (1, .int a1)] [] σ := by
  unfold f_X7_firstMate at h
  refine x_aload_n C dX7_firstMate_0 rfl 0 rfl 1 rfl ?_
  refine x_aload_n C dX7_firstMate_1 rfl 0 rfl 2 rfl ?_
  refine x_iload_n C dX7_firstMate_2 rfl 1 rfl 3 rfl ?_
  obtain ⟨r3, h3, h⟩ := bv_some h
  refine x_callV C 29 [.int a1] (c_X7_isNode  h3) mi_X7_isNode (gt_29 g _) rfl q_831 rfl ⟨rfl, rfl⟩ ⟨Nat.le_of_ble_eq_true rfl, Nat.le_of_ble_eq_true rfl⟩ ⟨Nat.zero_le _, Nat.zero_le _⟩ _ rfl (Nat.le_of_ble_eq_true rfl) dX7_firstMate_3 6 rfl ?_
  refine x_if_eq C dX7_firstMate_6 13 (by decide) 9 rfl (fun hc => ?_) (fun hc => ?_)
  · have h := ip hc h
    refine x_iconst C (v := 1) dX7_firstMate_13 (by decide) 14 rfl ?_
    exact x_sub [0, 1] rfl (w_X7_firstMate_14 C  hE h ht)
  · have h := iq hc h
    refine x_iconst C (v := 0) dX7_firstMate_9 (by decide) 10 rfl ?_
    refine x_goto C dX7_firstMate_10 14 (by decide) ?_
    exact x_sub [0, 1] rfl (w_X7_firstMate_14 C  hE h ht)
set_option maxHeartbeats 4000000 in
set_option maxRecDepth 100000 in
theorem c_X7_firstMate {g : Gb} {l : Launch}  {a1 : Int32} {σ : WD} {r : Int32} {σ2 : WD} (h : f_X7_firstMate a1 σ = some (r, σ2)) : MC l g yX7_firstMate (.code yX7_firstMate cX7_firstMate 2 (some (.int))) (rmk 3 50) [.ref (adr g 29), .int a1] σ (some (.int r)) σ2 := by
  refine MC.of (by decide) (Nat.le_of_ble_eq_true rfl) (fun x C hl hr hq => ?_)
  subst hl
  exact w_X7_firstMate (E := fun z => z = (r, σ2)) C  (fun a s2 he pc lv hd => by cases he; exact x_iret C hr hq hd) h rfl
set_option maxHeartbeats 4000000 in
set_option maxRecDepth 100000 in
theorem w_X7_proof {x : Cx} {g : Gb} {E : Int32 × WD → Prop} (C : CF x g RX7 cX7_proof 1 (rmk 5 102))   {σ : WD} (hE : ∀ (a : Int32) (s2 : WD), E (a, s2) → ∀ pc lv, decode cX7_proof pc = .ok (.ireturn, 1) → WW x g 1 0 0 pc lv [.int a] s2) {t : Int32 × WD} (h : f_X7_proof  σ = some t) (ht : E t) : WW x g 1 0 0 0 [(0, .ref (adr g 29))] [] σ := by
  unfold f_X7_proof at h
  refine x_aload_n C dX7_proof_0 rfl 0 rfl 1 rfl ?_
  refine x_iconst C (v := 0) dX7_proof_1 (by decide) 2 rfl ?_
  refine pf_758_29 C dX7_proof_2 5 rfl ?_
  obtain ⟨σ2, e2, h⟩ := lt_some h
  refine x_we e2 ?_
  refine x_aload_n C dX7_proof_5 rfl 0 rfl 6 rfl ?_
  obtain ⟨σ6, h6, h⟩ := bv_some h
  refine x_callV C 29 [] (c_X7_laySets  h6) mi_X7_laySets (gt_29 g _) rfl q_926 rfl ⟨rfl, rfl⟩ ⟨Nat.le_of_ble_eq_true rfl, Nat.le_of_ble_eq_true rfl⟩ ⟨Nat.zero_le _, Nat.zero_le _⟩ _ rfl (Nat.le_of_ble_eq_true rfl) dX7_proof_6 9 rfl ?_
  refine x_aload_n C dX7_proof_9 rfl 0 rfl 10 rfl ?_
  obtain ⟨r10, h10, h⟩ := bv_some h
  refine x_callV C 29 [] (c_X7_proofNow  h10) mi_X7_proofNow (gt_29 g _) rfl q_982 rfl ⟨rfl, rfl⟩ ⟨Nat.le_of_ble_eq_true rfl, Nat.le_of_ble_eq_true rfl⟩ ⟨Nat.zero_le _, Nat.zero_le _⟩ _ rfl (Nat.le_of_ble_eq_true rfl) dX7_proof_10 13 rfl ?_
  cases h
  exact hE _ _ ht 13 _ dX7_proof_13
set_option maxHeartbeats 4000000 in
set_option maxRecDepth 100000 in
theorem c_X7_proof {g : Gb} {l : Launch}   {σ : WD} {r : Int32} {σ2 : WD} (h : f_X7_proof  σ = some (r, σ2)) : MC l g yX7_proof (.code yX7_proof cX7_proof 1 (some (.int))) (rmk 5 102) [.ref (adr g 29)] σ (some (.int r)) σ2 := by
  refine MC.of (by decide) (Nat.le_of_ble_eq_true rfl) (fun x C hl hr hq => ?_)
  subst hl
  exact w_X7_proof (E := fun z => z = (r, σ2)) C  (fun a s2 he pc lv hd => by cases he; exact x_iret C hr hq hd) h rfl
set_option maxHeartbeats 4000000 in
set_option maxRecDepth 100000 in
theorem w_X7_components_18 {x : Cx} {g : Gb} {E : Int32 × WD → Prop} (C : CF x g RX7 cX7_components 3 (rmk 4 76))  {l1 : Int32} {l2 : Int32} {s0 : Int32} {σ : WD} (hE : ∀ (a : Int32) (s2 : WD), E (a, s2) → ∀ pc lv, decode cX7_components pc = .ok (.ireturn, 1) → WW x g 3 0 0 pc lv [.int a] s2) {t : Int32 × WD} (h : f_X7_components_18 l1 l2 s0 σ = some t) (ht : E t) : WW x g 3 0 0 18 [(0, .ref (adr g 29)), (1, .int l1), (2, .int l2)] [.int s0, .ref (adr g 29)] σ := by
  unfold f_X7_components_18 at h
  refine pf_758_29 C dX7_components_18 21 rfl ?_
  obtain ⟨σ18, e18, h⟩ := lt_some h
  refine x_we e18 ?_
  refine x_aload_n C dX7_components_21 rfl 0 rfl 22 rfl ?_
  refine gf_758_29 C dX7_components_22 25 rfl ?_
  refine x_if_le C dX7_components_25 32 (by decide) 28 rfl (fun hc => ?_) (fun hc => ?_)
  · have h := ip hc h
    refine x_aload_n C dX7_components_32 rfl 0 rfl 33 rfl ?_
    refine x_aload_n C dX7_components_33 rfl 0 rfl 34 rfl ?_
    obtain ⟨r34, h34, h⟩ := bv_some h
    refine x_callV C 29 [] (c_X7_all  h34) mi_X7_all (gt_29 g _) rfl q_930 rfl ⟨rfl, rfl⟩ ⟨Nat.le_of_ble_eq_true rfl, Nat.le_of_ble_eq_true rfl⟩ ⟨Nat.zero_le _, Nat.zero_le _⟩ _ rfl (Nat.le_of_ble_eq_true rfl) dX7_components_34 37 rfl ?_
    refine x_iload_n C dX7_components_37 rfl 1 rfl 38 rfl ?_
    refine x_iconst C (v := -1) dX7_components_38 (by decide) 39 rfl ?_
    refine x_ixor C dX7_components_39 40 rfl ?_
    refine x_iand C dX7_components_40 41 rfl ?_
    refine x_iload_n C dX7_components_41 rfl 2 rfl 42 rfl ?_
    obtain ⟨r42, h42, h⟩ := bv_some h
    refine x_callV C 29 [.int (r34 &&& (l1 ^^^ (-1))), .int l2] (c_X7_componentsOf  h42) mi_X7_componentsOf (gt_29 g _) rfl q_989 rfl ⟨rfl, rfl⟩ ⟨Nat.le_of_ble_eq_true rfl, Nat.le_of_ble_eq_true rfl⟩ ⟨Nat.zero_le _, Nat.zero_le _⟩ _ rfl (Nat.le_of_ble_eq_true rfl) dX7_components_42 45 rfl ?_
    cases h
    exact hE _ _ ht 45 _ dX7_components_45
  · have h := iq hc h
    refine x_iconst C (v := 0) dX7_components_28 (by decide) 29 rfl ?_
    refine x_goto C dX7_components_29 45 (by decide) ?_
    cases h
    exact hE _ _ ht 45 _ dX7_components_45
set_option maxHeartbeats 4000000 in
set_option maxRecDepth 100000 in
theorem w_X7_components {x : Cx} {g : Gb} {E : Int32 × WD → Prop} (C : CF x g RX7 cX7_components 3 (rmk 4 76))  {a1 : Int32} {a2 : Int32} {σ : WD} (hE : ∀ (a : Int32) (s2 : WD), E (a, s2) → ∀ pc lv, decode cX7_components pc = .ok (.ireturn, 1) → WW x g 3 0 0 pc lv [.int a] s2) {t : Int32 × WD} (h : f_X7_components a1 a2 σ = some t) (ht : E t) : WW x g 3 0 0 0 [(0, .ref (adr g 29)), (1, .int a1), (2, .int a2)] [] σ := by
  unfold f_X7_components at h
  refine x_aload_n C dX7_components_0 rfl 0 rfl 1 rfl ?_
  refine x_iload_n C dX7_components_1 rfl 1 rfl 2 rfl ?_
  refine x_iconst C (v := 0) dX7_components_2 (by decide) 3 rfl ?_
  refine x_aload_n C dX7_components_3 rfl 0 rfl 4 rfl ?_
  obtain ⟨r4, h4, h⟩ := bv_some h
  refine x_callV C 29 [] (c_X7_all  h4) mi_X7_all (gt_29 g _) rfl q_930 rfl ⟨rfl, rfl⟩ ⟨Nat.le_of_ble_eq_true rfl, Nat.le_of_ble_eq_true rfl⟩ ⟨Nat.zero_le _, Nat.zero_le _⟩ _ rfl (Nat.le_of_ble_eq_true rfl) dX7_components_4 7 rfl ?_
  obtain ⟨r7, h7, h⟩ := bv_some h
  refine x_callS C [.int a1, .int 0, .int r4] (c_X7_within  h7) mi_X7_within q_824 rfl ⟨rfl, rfl⟩ ⟨Nat.le_of_ble_eq_true rfl, Nat.le_of_ble_eq_true rfl⟩ ⟨Nat.zero_le _, Nat.zero_le _⟩ _ rfl (Nat.le_of_ble_eq_true rfl) dX7_components_7 10 rfl ?_
  refine x_if_eq C dX7_components_10 17 (by decide) 13 rfl (fun hc => ?_) (fun hc => ?_)
  · have h := ip hc h
    refine x_iconst C (v := 1) dX7_components_17 (by decide) 18 rfl ?_
    exact x_sub [0, 1, 2] rfl (w_X7_components_18 C  hE h ht)
  · have h := iq hc h
    refine x_iconst C (v := 0) dX7_components_13 (by decide) 14 rfl ?_
    refine x_goto C dX7_components_14 18 (by decide) ?_
    exact x_sub [0, 1, 2] rfl (w_X7_components_18 C  hE h ht)
set_option maxHeartbeats 4000000 in
set_option maxRecDepth 100000 in
theorem c_X7_components {g : Gb} {l : Launch}  {a1 : Int32} {a2 : Int32} {σ : WD} {r : Int32} {σ2 : WD} (h : f_X7_components a1 a2 σ = some (r, σ2)) : MC l g yX7_components (.code yX7_components cX7_components 3 (some (.int))) (rmk 4 76) [.ref (adr g 29), .int a1, .int a2] σ (some (.int r)) σ2 := by
  refine MC.of (by decide) (Nat.le_of_ble_eq_true rfl) (fun x C hl hr hq => ?_)
  subst hl
  exact w_X7_components (E := fun z => z = (r, σ2)) C  (fun a s2 he pc lv hd => by cases he; exact x_iret C hr hq hd) h rfl
set_option maxHeartbeats 4000000 in
set_option maxRecDepth 100000 in
theorem w_X7_ifChanged_31 {x : Cx} {g : Gb} {E : Int32 × WD → Prop} (C : CF x g RX7 cX7_ifChanged 3 (rmk 3 50))  {l1 : Int32} {l2 : Int32} {s0 : Int32} {σ : WD} (hE : ∀ (a : Int32) (s2 : WD), E (a, s2) → ∀ pc lv, decode cX7_ifChanged pc = .ok (.ireturn, 1) → WW x g 3 0 0 pc lv [.int a] s2) {t : Int32 × WD} (h : f_X7_ifChanged_31 l1 l2 s0 σ = some t) (ht : E t) : WW x g 3 0 0 31 [(0, .ref (adr g 29)), (1, .int l1), (2, .int l2)] [.int s0, .ref (adr g 29)] σ := by
  unfold f_X7_ifChanged_31 at h
  refine pf_758_29 C dX7_ifChanged_31 34 rfl ?_
  obtain ⟨σ31, e31, h⟩ := lt_some h
  refine x_we e31 ?_
  refine x_aload_n C dX7_ifChanged_34 rfl 0 rfl 35 rfl ?_
  refine gf_758_29 C dX7_ifChanged_35 38 rfl ?_
  refine x_if_le C dX7_ifChanged_38 43 (by decide) 41 rfl (fun hc => ?_) (fun hc => ?_)
  · have h := ip hc h
    refine x_aload_n C dX7_ifChanged_43 rfl 0 rfl 44 rfl ?_
    refine x_iload_n C dX7_ifChanged_44 rfl 1 rfl 45 rfl ?_
    refine x_iload_n C dX7_ifChanged_45 rfl 2 rfl 46 rfl ?_
    obtain ⟨σ46, h46, h⟩ := bv_some h
    refine x_callV C 29 [.int l1, .int l2] (c_X7_flip  h46) mi_X7_flip (gt_29 g _) rfl q_842 rfl ⟨rfl, rfl⟩ ⟨Nat.le_of_ble_eq_true rfl, Nat.le_of_ble_eq_true rfl⟩ ⟨Nat.zero_le _, Nat.zero_le _⟩ _ rfl (Nat.le_of_ble_eq_true rfl) dX7_ifChanged_46 49 rfl ?_
    refine x_aload_n C dX7_ifChanged_49 rfl 0 rfl 50 rfl ?_
    obtain ⟨σ50, h50, h⟩ := bv_some h
    refine x_callV C 29 [] (c_X7_laySets  h50) mi_X7_laySets (gt_29 g _) rfl q_926 rfl ⟨rfl, rfl⟩ ⟨Nat.le_of_ble_eq_true rfl, Nat.le_of_ble_eq_true rfl⟩ ⟨Nat.zero_le _, Nat.zero_le _⟩ _ rfl (Nat.le_of_ble_eq_true rfl) dX7_ifChanged_50 53 rfl ?_
    refine x_aload_n C dX7_ifChanged_53 rfl 0 rfl 54 rfl ?_
    refine x_iload_n C dX7_ifChanged_54 rfl 1 rfl 55 rfl ?_
    refine x_iload_n C dX7_ifChanged_55 rfl 2 rfl 56 rfl ?_
    obtain ⟨σ56, h56, h⟩ := bv_some h
    refine x_callV C 29 [.int l1, .int l2] (c_X7_flip  h56) mi_X7_flip (gt_29 g _) rfl q_842 rfl ⟨rfl, rfl⟩ ⟨Nat.le_of_ble_eq_true rfl, Nat.le_of_ble_eq_true rfl⟩ ⟨Nat.zero_le _, Nat.zero_le _⟩ _ rfl (Nat.le_of_ble_eq_true rfl) dX7_ifChanged_56 59 rfl ?_
    refine x_aload_n C dX7_ifChanged_59 rfl 0 rfl 60 rfl ?_
    refine gf_766_29 C dX7_ifChanged_60 63 rfl ?_
    refine x_aload_n C dX7_ifChanged_63 rfl 0 rfl 64 rfl ?_
    obtain ⟨r64, h64, h⟩ := bv_some h
    refine x_callV C 29 [] (c_X7_all  h64) mi_X7_all (gt_29 g _) rfl q_930 rfl ⟨rfl, rfl⟩ ⟨Nat.le_of_ble_eq_true rfl, Nat.le_of_ble_eq_true rfl⟩ ⟨Nat.zero_le _, Nat.zero_le _⟩ _ rfl (Nat.le_of_ble_eq_true rfl) dX7_ifChanged_64 67 rfl ?_
    obtain ⟨hin, h⟩ := gi_some h
    refine x_iald C 34 (gt_34 g _) hin dX7_ifChanged_67 68 rfl ?_
    cases h
    exact hE _ _ ht 68 _ dX7_ifChanged_68
  · have h := iq hc h
    refine x_iconst C (v := 0) dX7_ifChanged_41 (by decide) 42 rfl ?_
    cases h
    exact hE _ _ ht 42 _ dX7_ifChanged_42
set_option maxHeartbeats 4000000 in
set_option maxRecDepth 100000 in
theorem w_X7_ifChanged_17 {x : Cx} {g : Gb} {E : Int32 × WD → Prop} (C : CF x g RX7 cX7_ifChanged 3 (rmk 3 50))  {l1 : Int32} {l2 : Int32} {σ : WD} (hE : ∀ (a : Int32) (s2 : WD), E (a, s2) → ∀ pc lv, decode cX7_ifChanged pc = .ok (.ireturn, 1) → WW x g 3 0 0 pc lv [.int a] s2) {t : Int32 × WD} (h : f_X7_ifChanged_17 l1 l2 σ = some t) (ht : E t) : WW x g 3 0 0 17 [(0, .ref (adr g 29)), (1, .int l1), (2, .int l2)] [.ref (adr g 29)] σ := by
  unfold f_X7_ifChanged_17 at h
  refine x_iconst C (v := 1) dX7_ifChanged_17 (by decide) 18 rfl ?_
  refine x_goto C dX7_ifChanged_18 31 (by decide) ?_
  exact x_sub [0, 1, 2] rfl (w_X7_ifChanged_31 C  hE h ht)
set_option maxHeartbeats 4000000 in
set_option maxRecDepth 100000 in
theorem w_X7_ifChanged {x : Cx} {g : Gb} {E : Int32 × WD → Prop} (C : CF x g RX7 cX7_ifChanged 3 (rmk 3 50))  {a1 : Int32} {a2 : Int32} {σ : WD} (hE : ∀ (a : Int32) (s2 : WD), E (a, s2) → ∀ pc lv, decode cX7_ifChanged pc = .ok (.ireturn, 1) → WW x g 3 0 0 pc lv [.int a] s2) {t : Int32 × WD} (h : f_X7_ifChanged a1 a2 σ = some t) (ht : E t) : WW x g 3 0 0 0 [(0, .ref (adr g 29)), (1, .int a1), (2, .int a2)] [] σ := by
  unfold f_X7_ifChanged at h
  refine x_aload_n C dX7_ifChanged_0 rfl 0 rfl 1 rfl ?_
  refine x_aload_n C dX7_ifChanged_1 rfl 0 rfl 2 rfl ?_
  refine x_iload_n C dX7_ifChanged_2 rfl 1 rfl 3 rfl ?_
  obtain ⟨r3, h3, h⟩ := bv_some h
  refine x_callV C 29 [.int a1] (c_X7_isNode  h3) mi_X7_isNode (gt_29 g _) rfl q_831 rfl ⟨rfl, rfl⟩ ⟨Nat.le_of_ble_eq_true rfl, Nat.le_of_ble_eq_true rfl⟩ ⟨Nat.zero_le _, Nat.zero_le _⟩ _ rfl (Nat.le_of_ble_eq_true rfl) dX7_ifChanged_3 6 rfl ?_
  refine x_if_eq C dX7_ifChanged_6 17 (by decide) 9 rfl (fun hc => ?_) (fun hc => ?_)
  · have h := ip hc h
    exact x_sub [0, 1, 2] rfl (w_X7_ifChanged_17 C  hE h ht)
  · have h := iq hc h
    refine x_aload_n C dX7_ifChanged_9 rfl 0 rfl 10 rfl ?_
    refine x_iload_n C dX7_ifChanged_10 rfl 2 rfl 11 rfl ?_
    obtain ⟨r11, h11, h⟩ := bv_some h
    refine x_callV C 29 [.int a2] (c_X7_isNode  h11) mi_X7_isNode (gt_29 g _) rfl q_831 rfl ⟨rfl, rfl⟩ ⟨Nat.le_of_ble_eq_true rfl, Nat.le_of_ble_eq_true rfl⟩ ⟨Nat.zero_le _, Nat.zero_le _⟩ _ rfl (Nat.le_of_ble_eq_true rfl) dX7_ifChanged_11 14 rfl ?_
    refine x_if_ne C dX7_ifChanged_14 21 (by decide) 17 rfl (fun hc => ?_) (fun hc => ?_)
    · have h := iq hc h
      refine x_iload_n C dX7_ifChanged_21 rfl 1 rfl 22 rfl ?_
      refine x_iload_n C dX7_ifChanged_22 rfl 2 rfl 23 rfl ?_
      refine x_icmp_ne C dX7_ifChanged_23 30 (by decide) 26 rfl (fun hc => ?_) (fun hc => ?_)
      · have h := iq hc h
        refine x_iconst C (v := 0) dX7_ifChanged_30 (by decide) 31 rfl ?_
        exact x_sub [0, 1, 2] rfl (w_X7_ifChanged_31 C  hE h ht)
      · have h := ip hc h
        refine x_iconst C (v := 2) dX7_ifChanged_26 (by decide) 27 rfl ?_
        refine x_goto C dX7_ifChanged_27 31 (by decide) ?_
        exact x_sub [0, 1, 2] rfl (w_X7_ifChanged_31 C  hE h ht)
    · have h := ip hc h
      exact x_sub [0, 1, 2] rfl (w_X7_ifChanged_17 C  hE h ht)
set_option maxHeartbeats 4000000 in
set_option maxRecDepth 100000 in
theorem c_X7_ifChanged {g : Gb} {l : Launch}  {a1 : Int32} {a2 : Int32} {σ : WD} {r : Int32} {σ2 : WD} (h : f_X7_ifChanged a1 a2 σ = some (r, σ2)) : MC l g yX7_ifChanged (.code yX7_ifChanged cX7_ifChanged 3 (some (.int))) (rmk 3 50) [.ref (adr g 29), .int a1, .int a2] σ (some (.int r)) σ2 := by
  refine MC.of (by decide) (Nat.le_of_ble_eq_true rfl) (fun x C hl hr hq => ?_)
  subst hl
  exact w_X7_ifChanged (E := fun z => z = (r, σ2)) C  (fun a s2 he pc lv hd => by cases he; exact x_iret C hr hq hd) h rfl
set_option maxHeartbeats 4000000 in
set_option maxRecDepth 100000 in
theorem w_X7_nodeNow {x : Cx} {g : Gb} {E : Int32 → Prop} (C : CF x g RX7 cX7_nodeNow 3 (rmk 4 73))  {a1 : Int32} {a2 : Int32} {σ : WD} (hE : ∀ (a : Int32), E a → ∀ pc lv, decode cX7_nodeNow pc = .ok (.ireturn, 1) → WW x g 3 0 0 pc lv [.int a] σ) {t : Int32} (h : f_X7_nodeNow a1 a2 σ = some t) (ht : E t) : WW x g 3 0 0 0 [(0, .ref (adr g 29)), (1, .int a1), (2, .int a2)] [] σ := by
  unfold f_X7_nodeNow at h
  refine x_iload_n C dX7_nodeNow_0 rfl 2 rfl 1 rfl ?_
  by_cases hc0 : a2 = 0
  · have h := ip hc0 h
    refine x_tabIn C 0 hc0 dX7_nodeNow_1 31 (by decide +kernel) 32 (by decide) ?_
    refine x_aload_n C dX7_nodeNow_32 rfl 0 rfl 33 rfl ?_
    refine gf_760_29 C dX7_nodeNow_33 36 rfl ?_
    refine x_iload_n C dX7_nodeNow_36 rfl 1 rfl 37 rfl ?_
    obtain ⟨hin, h⟩ := gi_some h
    refine x_iald C 30 (gt_30 g _) hin dX7_nodeNow_37 38 rfl ?_
    obtain ⟨r38, h38, h⟩ := bv_some h
    refine x_callS C [.int (σ.1 30 (a1 : Int32).toNatClampNeg)] (c_X7_bits  h38) mi_X7_bits q_986 rfl ⟨rfl, rfl⟩ ⟨Nat.le_of_ble_eq_true rfl, Nat.le_of_ble_eq_true rfl⟩ ⟨Nat.zero_le _, Nat.zero_le _⟩ _ rfl (Nat.le_of_ble_eq_true rfl) dX7_nodeNow_38 41 rfl ?_
    cases h
    exact hE _ ht 41 _ dX7_nodeNow_41
  · have h := iq hc0 h
    by_cases hc1 : a2 = 1
    · have h := ip hc1 h
      refine x_tabIn C 1 hc1 dX7_nodeNow_1 41 (by decide +kernel) 42 (by decide) ?_
      refine x_aload_n C dX7_nodeNow_42 rfl 0 rfl 43 rfl ?_
      refine gf_761_29 C dX7_nodeNow_43 46 rfl ?_
      refine x_iload_n C dX7_nodeNow_46 rfl 1 rfl 47 rfl ?_
      obtain ⟨hin, h⟩ := gi_some h
      refine x_iald C 31 (gt_31 g _) hin dX7_nodeNow_47 48 rfl ?_
      cases h
      exact hE _ ht 48 _ dX7_nodeNow_48
    · have h := iq hc1 h
      by_cases hc2 : a2 = 2
      · have h := ip hc2 h
        refine x_tabIn C 2 hc2 dX7_nodeNow_1 48 (by decide +kernel) 49 (by decide) ?_
        refine x_aload_n C dX7_nodeNow_49 rfl 0 rfl 50 rfl ?_
        refine x_iload_n C dX7_nodeNow_50 rfl 1 rfl 51 rfl ?_
        obtain ⟨r51, h51, h⟩ := bv_some h
        refine x_callV C 29 [.int a1] (c_X7_partOf  h51) mi_X7_partOf (gt_29 g _) rfl q_1013 rfl ⟨rfl, rfl⟩ ⟨Nat.le_of_ble_eq_true rfl, Nat.le_of_ble_eq_true rfl⟩ ⟨Nat.zero_le _, Nat.zero_le _⟩ _ rfl (Nat.le_of_ble_eq_true rfl) dX7_nodeNow_51 54 rfl ?_
        cases h
        exact hE _ ht 54 _ dX7_nodeNow_54
      · have h := iq hc2 h
        by_cases hc3 : a2 = 3
        · have h := ip hc3 h
          refine x_tabIn C 3 hc3 dX7_nodeNow_1 54 (by decide +kernel) 55 (by decide) ?_
          refine x_aload_n C dX7_nodeNow_55 rfl 0 rfl 56 rfl ?_
          refine x_iload_n C dX7_nodeNow_56 rfl 1 rfl 57 rfl ?_
          obtain ⟨r57, h57, h⟩ := bv_some h
          refine x_callV C 29 [.int a1] (c_X7_exposing  h57) mi_X7_exposing (gt_29 g _) rfl q_1017 rfl ⟨rfl, rfl⟩ ⟨Nat.le_of_ble_eq_true rfl, Nat.le_of_ble_eq_true rfl⟩ ⟨Nat.zero_le _, Nat.zero_le _⟩ _ rfl (Nat.le_of_ble_eq_true rfl) dX7_nodeNow_57 60 rfl ?_
          cases h
          exact hE _ ht 60 _ dX7_nodeNow_60
        · have h := iq hc3 h
          refine x_tabOut C dX7_nodeNow_1 (sw_out 3 (by decide) (fun k hk => by
            have hk : k = 0 ∨ k = 1 ∨ k = 2 ∨ k = 3 := by omega
            rcases hk with rfl | rfl | rfl | rfl <;> assumption)) 61 (by decide) ?_
          refine x_aload_n C dX7_nodeNow_61 rfl 0 rfl 62 rfl ?_
          refine x_iload_n C dX7_nodeNow_62 rfl 1 rfl 63 rfl ?_
          obtain ⟨r63, h63, h⟩ := bv_some h
          refine x_callV C 29 [.int a1] (c_X7_lowest  h63) mi_X7_lowest (gt_29 g _) rfl q_1021 rfl ⟨rfl, rfl⟩ ⟨Nat.le_of_ble_eq_true rfl, Nat.le_of_ble_eq_true rfl⟩ ⟨Nat.zero_le _, Nat.zero_le _⟩ _ rfl (Nat.le_of_ble_eq_true rfl) dX7_nodeNow_63 66 rfl ?_
          cases h
          exact hE _ ht 66 _ dX7_nodeNow_66
set_option maxHeartbeats 4000000 in
set_option maxRecDepth 100000 in
theorem c_X7_nodeNow {g : Gb} {l : Launch}  {a1 : Int32} {a2 : Int32} {σ : WD} {r : Int32} (h : f_X7_nodeNow a1 a2 σ = some r) : MC l g yX7_nodeNow (.code yX7_nodeNow cX7_nodeNow 3 (some (.int))) (rmk 4 73) [.ref (adr g 29), .int a1, .int a2] σ (some (.int r)) σ := by
  refine MC.of (by decide) (Nat.le_of_ble_eq_true rfl) (fun x C hl hr hq => ?_)
  subst hl
  exact w_X7_nodeNow (E := fun z => z = r) C  (fun a he pc lv hd => by cases he; exact x_iret C hr hq hd) h rfl
set_option maxHeartbeats 4000000 in
set_option maxRecDepth 100000 in
theorem w_X7_node_27 {x : Cx} {g : Gb} {E : Int32 × WD → Prop} (C : CF x g RX7 cX7_node 3 (rmk 5 96))  {l1 : Int32} {l2 : Int32} {s0 : Int32} {σ : WD} (hE : ∀ (a : Int32) (s2 : WD), E (a, s2) → ∀ pc lv, decode cX7_node pc = .ok (.ireturn, 1) → WW x g 3 0 0 pc lv [.int a] s2) {t : Int32 × WD} (h : f_X7_node_27 l1 l2 s0 σ = some t) (ht : E t) : WW x g 3 0 0 27 [(0, .ref (adr g 29)), (1, .int l1), (2, .int l2)] [.int s0, .ref (adr g 29)] σ := by
  unfold f_X7_node_27 at h
  refine pf_758_29 C dX7_node_27 30 rfl ?_
  obtain ⟨σ27, e27, h⟩ := lt_some h
  refine x_we e27 ?_
  refine x_aload_n C dX7_node_30 rfl 0 rfl 31 rfl ?_
  refine gf_758_29 C dX7_node_31 34 rfl ?_
  refine x_if_le C dX7_node_34 39 (by decide) 37 rfl (fun hc => ?_) (fun hc => ?_)
  · have h := ip hc h
    refine x_aload_n C dX7_node_39 rfl 0 rfl 40 rfl ?_
    obtain ⟨σ40, h40, h⟩ := bv_some h
    refine x_callV C 29 [] (c_X7_laySets  h40) mi_X7_laySets (gt_29 g _) rfl q_926 rfl ⟨rfl, rfl⟩ ⟨Nat.le_of_ble_eq_true rfl, Nat.le_of_ble_eq_true rfl⟩ ⟨Nat.zero_le _, Nat.zero_le _⟩ _ rfl (Nat.le_of_ble_eq_true rfl) dX7_node_40 43 rfl ?_
    refine x_aload_n C dX7_node_43 rfl 0 rfl 44 rfl ?_
    refine x_iload_n C dX7_node_44 rfl 1 rfl 45 rfl ?_
    refine x_iload_n C dX7_node_45 rfl 2 rfl 46 rfl ?_
    obtain ⟨r46, h46, h⟩ := bv_some h
    refine x_callV C 29 [.int l1, .int l2] (c_X7_nodeNow  h46) mi_X7_nodeNow (gt_29 g _) rfl q_1009 rfl ⟨rfl, rfl⟩ ⟨Nat.le_of_ble_eq_true rfl, Nat.le_of_ble_eq_true rfl⟩ ⟨Nat.zero_le _, Nat.zero_le _⟩ _ rfl (Nat.le_of_ble_eq_true rfl) dX7_node_46 49 rfl ?_
    cases h
    exact hE _ _ ht 49 _ dX7_node_49
  · have h := iq hc h
    refine x_iconst C (v := 0) dX7_node_37 (by decide) 38 rfl ?_
    cases h
    exact hE _ _ ht 38 _ dX7_node_38
set_option maxHeartbeats 4000000 in
set_option maxRecDepth 100000 in
theorem w_X7_node {x : Cx} {g : Gb} {E : Int32 × WD → Prop} (C : CF x g RX7 cX7_node 3 (rmk 5 96))  {a1 : Int32} {a2 : Int32} {σ : WD} (hE : ∀ (a : Int32) (s2 : WD), E (a, s2) → ∀ pc lv, decode cX7_node pc = .ok (.ireturn, 1) → WW x g 3 0 0 pc lv [.int a] s2) {t : Int32 × WD} (h : f_X7_node a1 a2 σ = some t) (ht : E t) : WW x g 3 0 0 0 [(0, .ref (adr g 29)), (1, .int a1), (2, .int a2)] [] σ := by
  unfold f_X7_node at h
  refine x_aload_n C dX7_node_0 rfl 0 rfl 1 rfl ?_
  refine x_aload_n C dX7_node_1 rfl 0 rfl 2 rfl ?_
  refine x_iload_n C dX7_node_2 rfl 1 rfl 3 rfl ?_
  obtain ⟨r3, h3, h⟩ := bv_some h
  refine x_callV C 29 [.int a1] (c_X7_isNode  h3) mi_X7_isNode (gt_29 g _) rfl q_831 rfl ⟨rfl, rfl⟩ ⟨Nat.le_of_ble_eq_true rfl, Nat.le_of_ble_eq_true rfl⟩ ⟨Nat.zero_le _, Nat.zero_le _⟩ _ rfl (Nat.le_of_ble_eq_true rfl) dX7_node_3 6 rfl ?_
  refine x_if_ne C dX7_node_6 13 (by decide) 9 rfl (fun hc => ?_) (fun hc => ?_)
  · have h := iq hc h
    refine x_iload_n C dX7_node_13 rfl 2 rfl 14 rfl ?_
    refine x_iconst C (v := 0) dX7_node_14 (by decide) 15 rfl ?_
    refine x_iconst C (v := 4) dX7_node_15 (by decide) 16 rfl ?_
    obtain ⟨r16, h16, h⟩ := bv_some h
    refine x_callS C [.int a2, .int 0, .int 4] (c_X7_within  h16) mi_X7_within q_824 rfl ⟨rfl, rfl⟩ ⟨Nat.le_of_ble_eq_true rfl, Nat.le_of_ble_eq_true rfl⟩ ⟨Nat.zero_le _, Nat.zero_le _⟩ _ rfl (Nat.le_of_ble_eq_true rfl) dX7_node_16 19 rfl ?_
    refine x_if_eq C dX7_node_19 26 (by decide) 22 rfl (fun hc => ?_) (fun hc => ?_)
    · have h := ip hc h
      refine x_iconst C (v := 2) dX7_node_26 (by decide) 27 rfl ?_
      exact x_sub [0, 1, 2] rfl (w_X7_node_27 C  hE h ht)
    · have h := iq hc h
      refine x_iconst C (v := 0) dX7_node_22 (by decide) 23 rfl ?_
      refine x_goto C dX7_node_23 27 (by decide) ?_
      exact x_sub [0, 1, 2] rfl (w_X7_node_27 C  hE h ht)
  · have h := ip hc h
    refine x_iconst C (v := 1) dX7_node_9 (by decide) 10 rfl ?_
    refine x_goto C dX7_node_10 27 (by decide) ?_
    exact x_sub [0, 1, 2] rfl (w_X7_node_27 C  hE h ht)
set_option maxHeartbeats 4000000 in
set_option maxRecDepth 100000 in
theorem c_X7_node {g : Gb} {l : Launch}  {a1 : Int32} {a2 : Int32} {σ : WD} {r : Int32} {σ2 : WD} (h : f_X7_node a1 a2 σ = some (r, σ2)) : MC l g yX7_node (.code yX7_node cX7_node 3 (some (.int))) (rmk 5 96) [.ref (adr g 29), .int a1, .int a2] σ (some (.int r)) σ2 := by
  refine MC.of (by decide) (Nat.le_of_ble_eq_true rfl) (fun x C hl hr hq => ?_)
  subst hl
  exact w_X7_node (E := fun z => z = (r, σ2)) C  (fun a s2 he pc lv hd => by cases he; exact x_iret C hr hq hd) h rfl
set_option maxHeartbeats 4000000 in
set_option maxRecDepth 100000 in
theorem w_X7_edgeNow_23 {x : Cx} {g : Gb} {E : Int32 → Prop} (C : CF x g RX7 cX7_edgeNow 5 (rmk 3 48))  {l1 : Int32} {l2 : Int32} {l3 : Int32} {s0 : Int32} {σ : WD} (hE : ∀ (a : Int32), E a → ∀ pc lv, decode cX7_edgeNow pc = .ok (.ireturn, 1) → WW x g 5 0 0 pc lv [.int a] σ) {t : Int32} (h : f_X7_edgeNow_23 l1 l2 l3 s0 σ = some t) (ht : E t) : WW x g 5 0 0 23 [(0, .ref (adr g 29)), (1, .int l1), (2, .int l2), (3, .int l3)] [.int s0] σ := by
  unfold f_X7_edgeNow_23 at h
  refine x_istore C [(4, .int s0), (0, .ref (adr g 29)), (1, .int l1), (2, .int l2), (3, .int l3)] dX7_edgeNow_23 (by decide) rfl 25 rfl ?_
  refine x_iload_n C dX7_edgeNow_25 rfl 4 rfl 26 rfl ?_
  refine x_if_ne C dX7_edgeNow_26 34 (by decide) 29 rfl (fun hc => ?_) (fun hc => ?_)
  · have h := iq hc h
    refine x_iload_n C dX7_edgeNow_34 rfl 4 rfl 35 rfl ?_
    refine x_iconst C (v := 1) dX7_edgeNow_35 (by decide) 36 rfl ?_
    refine x_icmp_ne C dX7_edgeNow_36 63 (by decide) 39 rfl (fun hc => ?_) (fun hc => ?_)
    · have h := iq hc h
      refine x_aload_n C dX7_edgeNow_63 rfl 1 rfl 64 rfl ?_
      refine x_iload_n C dX7_edgeNow_64 rfl 2 rfl 65 rfl ?_
      refine x_iload_n C dX7_edgeNow_65 rfl 3 rfl 66 rfl ?_
      obtain ⟨r66, h66, h⟩ := bv_some h
      refine x_callV C 29 [.int l1, .int l2] (c_X7_using  h66) mi_X7_using (gt_29 g _) rfl q_1033 rfl ⟨rfl, rfl⟩ ⟨Nat.le_of_ble_eq_true rfl, Nat.le_of_ble_eq_true rfl⟩ ⟨Nat.zero_le _, Nat.zero_le _⟩ _ rfl (Nat.le_of_ble_eq_true rfl) dX7_edgeNow_66 69 rfl ?_
      cases h
      exact hE _ ht 69 _ dX7_edgeNow_69
    · have h := ip hc h
      refine x_iload C dX7_edgeNow_39 0 rfl 41 rfl ?_
      refine x_iconst C (v := 1) dX7_edgeNow_41 (by decide) 42 rfl ?_
      refine x_icmp_ne C dX7_edgeNow_42 59 (by decide) 45 rfl (fun hc => ?_) (fun hc => ?_)
      · have h := iq hc h
        refine x_iconst C (v := 0) dX7_edgeNow_59 (by decide) 60 rfl ?_
        refine x_goto C dX7_edgeNow_60 69 (by decide) ?_
        cases h
        exact hE _ ht 69 _ dX7_edgeNow_69
      · have h := ip hc h
        refine x_aload_n C dX7_edgeNow_45 rfl 1 rfl 46 rfl ?_
        refine gf_761_29 C dX7_edgeNow_46 49 rfl ?_
        refine x_iload_n C dX7_edgeNow_49 rfl 2 rfl 50 rfl ?_
        obtain ⟨hin, h⟩ := gi_some h
        refine x_iald C 31 (gt_31 g _) hin dX7_edgeNow_50 51 rfl ?_
        refine x_iload_n C dX7_edgeNow_51 rfl 3 rfl 52 rfl ?_
        refine x_icmp_ne C dX7_edgeNow_52 59 (by decide) 55 rfl (fun hc => ?_) (fun hc => ?_)
        · have h := iq hc h
          refine x_iconst C (v := 0) dX7_edgeNow_59 (by decide) 60 rfl ?_
          refine x_goto C dX7_edgeNow_60 69 (by decide) ?_
          cases h
          exact hE _ ht 69 _ dX7_edgeNow_69
        · have h := ip hc h
          refine x_iconst C (v := 1) dX7_edgeNow_55 (by decide) 56 rfl ?_
          refine x_goto C dX7_edgeNow_56 69 (by decide) ?_
          cases h
          exact hE _ ht 69 _ dX7_edgeNow_69
  · have h := ip hc h
    refine x_iload C dX7_edgeNow_29 0 rfl 31 rfl ?_
    refine x_goto C dX7_edgeNow_31 69 (by decide) ?_
    cases h
    exact hE _ ht 69 _ dX7_edgeNow_69
set_option maxHeartbeats 4000000 in
set_option maxRecDepth 100000 in
theorem w_X7_edgeNow_22 {x : Cx} {g : Gb} {E : Int32 → Prop} (C : CF x g RX7 cX7_edgeNow 5 (rmk 3 48))  {l1 : Int32} {l2 : Int32} {l3 : Int32} {σ : WD} (hE : ∀ (a : Int32), E a → ∀ pc lv, decode cX7_edgeNow pc = .ok (.ireturn, 1) → WW x g 5 0 0 pc lv [.int a] σ) {t : Int32} (h : f_X7_edgeNow_22 l1 l2 l3 σ = some t) (ht : E t) : WW x g 5 0 0 22 [(0, .ref (adr g 29)), (1, .int l1), (2, .int l2), (3, .int l3)] [] σ := by
  unfold f_X7_edgeNow_22 at h
  refine x_iconst C (v := 0) dX7_edgeNow_22 (by decide) 23 rfl ?_
  exact x_sub [0, 1, 2, 3] rfl (w_X7_edgeNow_23 C  hE h ht)
set_option maxHeartbeats 4000000 in
set_option maxRecDepth 100000 in
theorem w_X7_edgeNow {x : Cx} {g : Gb} {E : Int32 → Prop} (C : CF x g RX7 cX7_edgeNow 5 (rmk 3 48))  {a1 : Int32} {a2 : Int32} {a3 : Int32} {σ : WD} (hE : ∀ (a : Int32), E a → ∀ pc lv, decode cX7_edgeNow pc = .ok (.ireturn, 1) → WW x g 5 0 0 pc lv [.int a] σ) {t : Int32} (h : f_X7_edgeNow a1 a2 a3 σ = some t) (ht : E t) : WW x g 5 0 0 0 [(0, .ref (adr g 29)), (1, .int a1), (2, .int a2), (3, .int a3)] [] σ := by
  unfold f_X7_edgeNow at h
  refine x_iload_n C dX7_edgeNow_0 rfl 1 rfl 1 rfl ?_
  refine x_iload_n C dX7_edgeNow_1 rfl 2 rfl 2 rfl ?_
  refine x_icmp_eq C dX7_edgeNow_2 22 (by decide) 5 rfl (fun hc => ?_) (fun hc => ?_)
  · have h := ip hc h
    exact x_sub [0, 1, 2, 3] rfl (w_X7_edgeNow_22 C  hE h ht)
  · have h := iq hc h
    refine x_aload_n C dX7_edgeNow_5 rfl 0 rfl 6 rfl ?_
    refine gf_760_29 C dX7_edgeNow_6 9 rfl ?_
    refine x_iload_n C dX7_edgeNow_9 rfl 1 rfl 10 rfl ?_
    obtain ⟨hin, h⟩ := gi_some h
    refine x_iald C 30 (gt_30 g _) hin dX7_edgeNow_10 11 rfl ?_
    refine x_iload_n C dX7_edgeNow_11 rfl 2 rfl 12 rfl ?_
    obtain ⟨r12, h12, h⟩ := bv_some h
    refine x_callS C [.int (σ.1 30 (a1 : Int32).toNatClampNeg), .int a2] (c_X7_has  h12) mi_X7_has q_839 rfl ⟨rfl, rfl⟩ ⟨Nat.le_of_ble_eq_true rfl, Nat.le_of_ble_eq_true rfl⟩ ⟨Nat.zero_le _, Nat.zero_le _⟩ _ rfl (Nat.le_of_ble_eq_true rfl) dX7_edgeNow_12 15 rfl ?_
    refine x_if_eq C dX7_edgeNow_15 22 (by decide) 18 rfl (fun hc => ?_) (fun hc => ?_)
    · have h := ip hc h
      exact x_sub [0, 1, 2, 3] rfl (w_X7_edgeNow_22 C  hE h ht)
    · have h := iq hc h
      refine x_iconst C (v := 1) dX7_edgeNow_18 (by decide) 19 rfl ?_
      refine x_goto C dX7_edgeNow_19 23 (by decide) ?_
      exact x_sub [0, 1, 2, 3] rfl (w_X7_edgeNow_23 C  hE h ht)
set_option maxHeartbeats 4000000 in
set_option maxRecDepth 100000 in
theorem c_X7_edgeNow {g : Gb} {l : Launch}  {a1 : Int32} {a2 : Int32} {a3 : Int32} {σ : WD} {r : Int32} (h : f_X7_edgeNow a1 a2 a3 σ = some r) : MC l g yX7_edgeNow (.code yX7_edgeNow cX7_edgeNow 5 (some (.int))) (rmk 3 48) [.ref (adr g 29), .int a1, .int a2, .int a3] σ (some (.int r)) σ := by
  refine MC.of (by decide) (Nat.le_of_ble_eq_true rfl) (fun x C hl hr hq => ?_)
  subst hl
  exact w_X7_edgeNow (E := fun z => z = r) C  (fun a he pc lv hd => by cases he; exact x_iret C hr hq hd) h rfl
set_option maxHeartbeats 4000000 in
set_option maxRecDepth 100000 in
theorem w_X7_edge_35 {x : Cx} {g : Gb} {E : Int32 × WD → Prop} (C : CF x g RX7 cX7_edge 4 (rmk 4 73))  {l1 : Int32} {l2 : Int32} {l3 : Int32} {s0 : Int32} {σ : WD} (hE : ∀ (a : Int32) (s2 : WD), E (a, s2) → ∀ pc lv, decode cX7_edge pc = .ok (.ireturn, 1) → WW x g 4 0 0 pc lv [.int a] s2) {t : Int32 × WD} (h : f_X7_edge_35 l1 l2 l3 s0 σ = some t) (ht : E t) : WW x g 4 0 0 35 [(0, .ref (adr g 29)), (1, .int l1), (2, .int l2), (3, .int l3)] [.int s0, .ref (adr g 29)] σ := by
  unfold f_X7_edge_35 at h
  refine pf_758_29 C dX7_edge_35 38 rfl ?_
  obtain ⟨σ35, e35, h⟩ := lt_some h
  refine x_we e35 ?_
  refine x_aload_n C dX7_edge_38 rfl 0 rfl 39 rfl ?_
  refine gf_758_29 C dX7_edge_39 42 rfl ?_
  refine x_if_le C dX7_edge_42 47 (by decide) 45 rfl (fun hc => ?_) (fun hc => ?_)
  · have h := ip hc h
    refine x_aload_n C dX7_edge_47 rfl 0 rfl 48 rfl ?_
    obtain ⟨σ48, h48, h⟩ := bv_some h
    refine x_callV C 29 [] (c_X7_laySets  h48) mi_X7_laySets (gt_29 g _) rfl q_926 rfl ⟨rfl, rfl⟩ ⟨Nat.le_of_ble_eq_true rfl, Nat.le_of_ble_eq_true rfl⟩ ⟨Nat.zero_le _, Nat.zero_le _⟩ _ rfl (Nat.le_of_ble_eq_true rfl) dX7_edge_48 51 rfl ?_
    refine x_aload_n C dX7_edge_51 rfl 0 rfl 52 rfl ?_
    refine x_iload_n C dX7_edge_52 rfl 1 rfl 53 rfl ?_
    refine x_iload_n C dX7_edge_53 rfl 2 rfl 54 rfl ?_
    refine x_iload_n C dX7_edge_54 rfl 3 rfl 55 rfl ?_
    obtain ⟨r55, h55, h⟩ := bv_some h
    refine x_callV C 29 [.int l1, .int l2, .int l3] (c_X7_edgeNow  h55) mi_X7_edgeNow (gt_29 g _) rfl q_1029 rfl ⟨rfl, rfl⟩ ⟨Nat.le_of_ble_eq_true rfl, Nat.le_of_ble_eq_true rfl⟩ ⟨Nat.zero_le _, Nat.zero_le _⟩ _ rfl (Nat.le_of_ble_eq_true rfl) dX7_edge_55 58 rfl ?_
    cases h
    exact hE _ _ ht 58 _ dX7_edge_58
  · have h := iq hc h
    refine x_iconst C (v := 0) dX7_edge_45 (by decide) 46 rfl ?_
    cases h
    exact hE _ _ ht 46 _ dX7_edge_46
set_option maxHeartbeats 4000000 in
set_option maxRecDepth 100000 in
theorem w_X7_edge_17 {x : Cx} {g : Gb} {E : Int32 × WD → Prop} (C : CF x g RX7 cX7_edge 4 (rmk 4 73))  {l1 : Int32} {l2 : Int32} {l3 : Int32} {σ : WD} (hE : ∀ (a : Int32) (s2 : WD), E (a, s2) → ∀ pc lv, decode cX7_edge pc = .ok (.ireturn, 1) → WW x g 4 0 0 pc lv [.int a] s2) {t : Int32 × WD} (h : f_X7_edge_17 l1 l2 l3 σ = some t) (ht : E t) : WW x g 4 0 0 17 [(0, .ref (adr g 29)), (1, .int l1), (2, .int l2), (3, .int l3)] [.ref (adr g 29)] σ := by
  unfold f_X7_edge_17 at h
  refine x_iconst C (v := 1) dX7_edge_17 (by decide) 18 rfl ?_
  refine x_goto C dX7_edge_18 35 (by decide) ?_
  exact x_sub [0, 1, 2, 3] rfl (w_X7_edge_35 C  hE h ht)
set_option maxHeartbeats 4000000 in
set_option maxRecDepth 100000 in
theorem w_X7_edge {x : Cx} {g : Gb} {E : Int32 × WD → Prop} (C : CF x g RX7 cX7_edge 4 (rmk 4 73))  {a1 : Int32} {a2 : Int32} {a3 : Int32} {σ : WD} (hE : ∀ (a : Int32) (s2 : WD), E (a, s2) → ∀ pc lv, decode cX7_edge pc = .ok (.ireturn, 1) → WW x g 4 0 0 pc lv [.int a] s2) {t : Int32 × WD} (h : f_X7_edge a1 a2 a3 σ = some t) (ht : E t) : WW x g 4 0 0 0 [(0, .ref (adr g 29)), (1, .int a1), (2, .int a2), (3, .int a3)] [] σ := by
  unfold f_X7_edge at h
  refine x_aload_n C dX7_edge_0 rfl 0 rfl 1 rfl ?_
  refine x_aload_n C dX7_edge_1 rfl 0 rfl 2 rfl ?_
  refine x_iload_n C dX7_edge_2 rfl 1 rfl 3 rfl ?_
  obtain ⟨r3, h3, h⟩ := bv_some h
  refine x_callV C 29 [.int a1] (c_X7_isNode  h3) mi_X7_isNode (gt_29 g _) rfl q_831 rfl ⟨rfl, rfl⟩ ⟨Nat.le_of_ble_eq_true rfl, Nat.le_of_ble_eq_true rfl⟩ ⟨Nat.zero_le _, Nat.zero_le _⟩ _ rfl (Nat.le_of_ble_eq_true rfl) dX7_edge_3 6 rfl ?_
  refine x_if_eq C dX7_edge_6 17 (by decide) 9 rfl (fun hc => ?_) (fun hc => ?_)
  · have h := ip hc h
    exact x_sub [0, 1, 2, 3] rfl (w_X7_edge_17 C  hE h ht)
  · have h := iq hc h
    refine x_aload_n C dX7_edge_9 rfl 0 rfl 10 rfl ?_
    refine x_iload_n C dX7_edge_10 rfl 2 rfl 11 rfl ?_
    obtain ⟨r11, h11, h⟩ := bv_some h
    refine x_callV C 29 [.int a2] (c_X7_isNode  h11) mi_X7_isNode (gt_29 g _) rfl q_831 rfl ⟨rfl, rfl⟩ ⟨Nat.le_of_ble_eq_true rfl, Nat.le_of_ble_eq_true rfl⟩ ⟨Nat.zero_le _, Nat.zero_le _⟩ _ rfl (Nat.le_of_ble_eq_true rfl) dX7_edge_11 14 rfl ?_
    refine x_if_ne C dX7_edge_14 21 (by decide) 17 rfl (fun hc => ?_) (fun hc => ?_)
    · have h := iq hc h
      refine x_iload_n C dX7_edge_21 rfl 3 rfl 22 rfl ?_
      refine x_iconst C (v := 0) dX7_edge_22 (by decide) 23 rfl ?_
      refine x_iconst C (v := 2) dX7_edge_23 (by decide) 24 rfl ?_
      obtain ⟨r24, h24, h⟩ := bv_some h
      refine x_callS C [.int a3, .int 0, .int 2] (c_X7_within  h24) mi_X7_within q_824 rfl ⟨rfl, rfl⟩ ⟨Nat.le_of_ble_eq_true rfl, Nat.le_of_ble_eq_true rfl⟩ ⟨Nat.zero_le _, Nat.zero_le _⟩ _ rfl (Nat.le_of_ble_eq_true rfl) dX7_edge_24 27 rfl ?_
      refine x_if_eq C dX7_edge_27 34 (by decide) 30 rfl (fun hc => ?_) (fun hc => ?_)
      · have h := ip hc h
        refine x_iconst C (v := 2) dX7_edge_34 (by decide) 35 rfl ?_
        exact x_sub [0, 1, 2, 3] rfl (w_X7_edge_35 C  hE h ht)
      · have h := iq hc h
        refine x_iconst C (v := 0) dX7_edge_30 (by decide) 31 rfl ?_
        refine x_goto C dX7_edge_31 35 (by decide) ?_
        exact x_sub [0, 1, 2, 3] rfl (w_X7_edge_35 C  hE h ht)
    · have h := ip hc h
      exact x_sub [0, 1, 2, 3] rfl (w_X7_edge_17 C  hE h ht)
set_option maxHeartbeats 4000000 in
set_option maxRecDepth 100000 in
theorem c_X7_edge {g : Gb} {l : Launch}  {a1 : Int32} {a2 : Int32} {a3 : Int32} {σ : WD} {r : Int32} {σ2 : WD} (h : f_X7_edge a1 a2 a3 σ = some (r, σ2)) : MC l g yX7_edge (.code yX7_edge cX7_edge 4 (some (.int))) (rmk 4 73) [.ref (adr g 29), .int a1, .int a2, .int a3] σ (some (.int r)) σ2 := by
  refine MC.of (by decide) (Nat.le_of_ble_eq_true rfl) (fun x C hl hr hq => ?_)
  subst hl
  exact w_X7_edge (E := fun z => z = (r, σ2)) C  (fun a s2 he pc lv hd => by cases he; exact x_iret C hr hq hd) h rfl
set_option maxHeartbeats 4000000 in
set_option maxRecDepth 100000 in
theorem w_X7_edgeCount_30 {x : Cx} {g : Gb} {E : Int32 → Prop} (C : CF x g RX7 cX7_edgeCount 3 (rmk 2 24))  {l1 : Int32} {σ : WD} (hE : ∀ (a : Int32), E a → ∀ pc lv, decode cX7_edgeCount pc = .ok (.ireturn, 1) → WW x g 3 0 0 pc lv [.int a] σ) {t : Int32} (h : f_X7_edgeCount_30 l1 σ = some t) (ht : E t) : WW x g 3 0 0 30 [(1, .int l1)] [] σ := by
  unfold f_X7_edgeCount_30 at h
  refine x_iload_n C dX7_edgeCount_30 rfl 0 rfl 31 rfl ?_
  refine x_iconst C (v := 2) dX7_edgeCount_31 (by decide) 32 rfl ?_
  obtain ⟨hz, h⟩ := gz_some h
  refine x_idiv C dX7_edgeCount_32 hz 33 rfl ?_
  cases h
  exact hE _ ht 33 _ dX7_edgeCount_33
set_option maxHeartbeats 4000000 in
set_option maxRecDepth 100000 in
theorem w_X7_edgeCount_b4 {x : Cx} {g : Gb} {E : (Int32 × Int32) ⊕ (Int32) → Prop} (C : CF x g RX7 cX7_edgeCount 3 (rmk 2 24))  {l1 : Int32} {l2 : Int32} {σ : WD} (hI0 : ∀ s, E (.inl s) → WW x g 3 0 0 4 [(0, .ref (adr g 29)), (1, .int s.1), (2, .int s.2)] [] σ) (hE : ∀ (a : Int32), E (.inr a) → ∀ pc lv, decode cX7_edgeCount pc = .ok (.ireturn, 1) → WW x g 3 0 0 pc lv [.int a] σ) {t : (Int32 × Int32) ⊕ (Int32)} (h : f_X7_edgeCount_b4 l1 l2 σ = some t) (ht : E t) : WW x g 3 0 0 4 [(0, .ref (adr g 29)), (1, .int l1), (2, .int l2)] [] σ := by
  unfold f_X7_edgeCount_b4 at h
  refine x_iload_n C dX7_edgeCount_4 rfl 2 rfl 5 rfl ?_
  refine x_aload_n C dX7_edgeCount_5 rfl 0 rfl 6 rfl ?_
  refine gf_759_29 C dX7_edgeCount_6 9 rfl ?_
  refine x_icmp_ge C dX7_edgeCount_9 30 (by decide) 12 rfl (fun hc => ?_) (fun hc => ?_)
  · have h := ip hc h
    obtain ⟨_, hm0, rfl⟩ := mr_some h
    exact x_sub [1] rfl (w_X7_edgeCount_30 (E := fun r => E (.inr r)) C  hE hm0 ht)
  · have h := iq hc h
    refine x_iload_n C dX7_edgeCount_12 rfl 1 rfl 13 rfl ?_
    refine x_aload_n C dX7_edgeCount_13 rfl 0 rfl 14 rfl ?_
    refine gf_760_29 C dX7_edgeCount_14 17 rfl ?_
    refine x_iload_n C dX7_edgeCount_17 rfl 2 rfl 18 rfl ?_
    obtain ⟨hin, h⟩ := gi_some h
    refine x_iald C 30 (gt_30 g _) hin dX7_edgeCount_18 19 rfl ?_
    obtain ⟨r19, h19, h⟩ := bv_some h
    refine x_callS C [.int (σ.1 30 (l2 : Int32).toNatClampNeg)] (c_X7_bits  h19) mi_X7_bits q_986 rfl ⟨rfl, rfl⟩ ⟨Nat.le_of_ble_eq_true rfl, Nat.le_of_ble_eq_true rfl⟩ ⟨Nat.zero_le _, Nat.zero_le _⟩ _ rfl (Nat.le_of_ble_eq_true rfl) dX7_edgeCount_19 22 rfl ?_
    refine x_iadd C dX7_edgeCount_22 23 rfl ?_
    refine x_istore_n C [(1, .int (l1 + r19)), (0, .ref (adr g 29)), (2, .int l2)] dX7_edgeCount_23 rfl (by decide) rfl 24 rfl ?_
    refine x_iinc C [(2, .int (l2 + 1)), (1, .int (l1 + r19)), (0, .ref (adr g 29))] dX7_edgeCount_24 2 rfl rfl (by decide) rfl 27 rfl ?_
    refine x_goto C dX7_edgeCount_27 4 (by decide) ?_
    cases h
    exact x_sub [2, 1, 0] rfl (hI0 ((l1 + r19), (l2 + 1)) ht)
set_option maxHeartbeats 4000000 in
set_option maxRecDepth 100000 in
theorem w_X7_edgeCount_4 {x : Cx} {g : Gb} {E : Int32 → Prop} (C : CF x g RX7 cX7_edgeCount 3 (rmk 2 24))  {l1 : Int32} {l2 : Int32} {σ : WD} (hE : ∀ (a : Int32), E a → ∀ pc lv, decode cX7_edgeCount pc = .ok (.ireturn, 1) → WW x g 3 0 0 pc lv [.int a] σ) {t : Int32} (h : f_X7_edgeCount_4 l1 l2 σ = some t) (ht : E t) : WW x g 3 0 0 4 [(0, .ref (adr g 29)), (1, .int l1), (2, .int l2)] [] σ := by
  unfold f_X7_edgeCount_4 at h
  exact lp_ind (fun s : Int32 × Int32 => WW x g 3 0 0 4 [(0, .ref (adr g 29)), (1, .int s.1), (2, .int s.2)] [] σ) E h ht (fun s y hb hy => w_X7_edgeCount_b4 (E := Sum.elim (fun s : Int32 × Int32 => WW x g 3 0 0 4 [(0, .ref (adr g 29)), (1, .int s.1), (2, .int s.2)] [] σ) E) C  (fun _ h => h)  hE hb hy)
set_option maxHeartbeats 4000000 in
set_option maxRecDepth 100000 in
theorem w_X7_edgeCount {x : Cx} {g : Gb} {E : Int32 → Prop} (C : CF x g RX7 cX7_edgeCount 3 (rmk 2 24))   {σ : WD} (hE : ∀ (a : Int32), E a → ∀ pc lv, decode cX7_edgeCount pc = .ok (.ireturn, 1) → WW x g 3 0 0 pc lv [.int a] σ) {t : Int32} (h : f_X7_edgeCount  σ = some t) (ht : E t) : WW x g 3 0 0 0 [(0, .ref (adr g 29))] [] σ := by
  unfold f_X7_edgeCount at h
  refine x_iconst C (v := 0) dX7_edgeCount_0 (by decide) 1 rfl ?_
  refine x_istore_n C [(1, .int 0), (0, .ref (adr g 29))] dX7_edgeCount_1 rfl (by decide) rfl 2 rfl ?_
  refine x_iconst C (v := 0) dX7_edgeCount_2 (by decide) 3 rfl ?_
  refine x_istore_n C [(2, .int 0), (1, .int 0), (0, .ref (adr g 29))] dX7_edgeCount_3 rfl (by decide) rfl 4 rfl ?_
  exact x_sub [2, 1, 0] rfl (w_X7_edgeCount_4 C  hE h ht)
set_option maxHeartbeats 4000000 in
set_option maxRecDepth 100000 in
theorem c_X7_edgeCount {g : Gb} {l : Launch}   {σ : WD} {r : Int32} (h : f_X7_edgeCount  σ = some r) : MC l g yX7_edgeCount (.code yX7_edgeCount cX7_edgeCount 3 (some (.int))) (rmk 2 24) [.ref (adr g 29)] σ (some (.int r)) σ := by
  refine MC.of (by decide) (Nat.le_of_ble_eq_true rfl) (fun x C hl hr hq => ?_)
  subst hl
  exact w_X7_edgeCount (E := fun z => z = r) C  (fun a he pc lv hd => by cases he; exact x_iret C hr hq hd) h rfl
set_option maxHeartbeats 4000000 in
set_option maxRecDepth 100000 in
theorem w_X7_edgesIn_b17 {x : Cx} {g : Gb} {E : (Int32 × Int32) ⊕ ((Int32 × Int32) ⊕ (Int32)) → Prop} (C : CF x g RX7 cX7_edgesIn 5 (rmk 3 48))  {l1 : Int32} {l2 : Int32} {l3 : Int32} {l4 : Int32} {σ : WD} (hI0 : ∀ s, E (.inl s) → WW x g 5 0 0 17 [(0, .ref (adr g 29)), (1, .int l1), (2, .int s.1), (3, .int l3), (4, .int s.2)] [] σ) (hI1 : ∀ s, E (.inr (.inl s)) → WW x g 5 0 0 4 [(0, .ref (adr g 29)), (1, .int l1), (2, .int s.1), (3, .int s.2)] [] σ) (hE : ∀ (a : Int32), E (.inr (.inr a)) → ∀ pc lv, decode cX7_edgesIn pc = .ok (.ireturn, 1) → WW x g 5 0 0 pc lv [.int a] σ) {t : (Int32 × Int32) ⊕ ((Int32 × Int32) ⊕ (Int32))} (h : f_X7_edgesIn_b17 l1 l2 l3 l4 σ = some t) (ht : E t) : WW x g 5 0 0 17 [(0, .ref (adr g 29)), (1, .int l1), (2, .int l2), (3, .int l3), (4, .int l4)] [] σ := by
  unfold f_X7_edgesIn_b17 at h
  refine x_iload C dX7_edgesIn_17 4 rfl 19 rfl ?_
  refine x_aload_n C dX7_edgesIn_19 rfl 0 rfl 20 rfl ?_
  refine gf_759_29 C dX7_edgesIn_20 23 rfl ?_
  refine x_icmp_ge C dX7_edgesIn_23 65 (by decide) 26 rfl (fun hc => ?_) (fun hc => ?_)
  · have h := ip hc h
    refine x_iinc C [(3, .int (l3 + 1)), (0, .ref (adr g 29)), (1, .int l1), (2, .int l2), (4, .int l4)] dX7_edgesIn_65 3 rfl rfl (by decide) rfl 68 rfl ?_
    refine x_goto C dX7_edgesIn_68 4 (by decide) ?_
    cases h
    exact x_sub [1, 2, 3, 0] rfl (hI1 (l2, (l3 + 1)) ht)
  · have h := iq hc h
    refine x_iload_n C dX7_edgesIn_26 rfl 2 rfl 27 rfl ?_
    refine x_aload_n C dX7_edgesIn_27 rfl 0 rfl 28 rfl ?_
    refine gf_760_29 C dX7_edgesIn_28 31 rfl ?_
    refine x_iload_n C dX7_edgesIn_31 rfl 3 rfl 32 rfl ?_
    obtain ⟨hin, h⟩ := gi_some h
    refine x_iald C 30 (gt_30 g _) hin dX7_edgesIn_32 33 rfl ?_
    refine x_iload C dX7_edgesIn_33 4 rfl 35 rfl ?_
    obtain ⟨r35, h35, h⟩ := bv_some h
    refine x_callS C [.int (σ.1 30 (l3 : Int32).toNatClampNeg), .int l4] (c_X7_has  h35) mi_X7_has q_839 rfl ⟨rfl, rfl⟩ ⟨Nat.le_of_ble_eq_true rfl, Nat.le_of_ble_eq_true rfl⟩ ⟨Nat.zero_le _, Nat.zero_le _⟩ _ rfl (Nat.le_of_ble_eq_true rfl) dX7_edgesIn_35 38 rfl ?_
    refine x_if_eq C dX7_edgesIn_38 56 (by decide) 41 rfl (fun hc => ?_) (fun hc => ?_)
    · have h := ip hc h
      refine x_iconst C (v := 0) dX7_edgesIn_56 (by decide) 57 rfl ?_
      refine x_iadd C dX7_edgesIn_57 58 rfl ?_
      refine x_istore_n C [(2, .int (l2 + 0)), (0, .ref (adr g 29)), (1, .int l1), (3, .int l3), (4, .int l4)] dX7_edgesIn_58 rfl (by decide) rfl 59 rfl ?_
      refine x_iinc C [(4, .int (l4 + 1)), (2, .int (l2 + 0)), (0, .ref (adr g 29)), (1, .int l1), (3, .int l3)] dX7_edgesIn_59 4 rfl rfl (by decide) rfl 62 rfl ?_
      refine x_goto C dX7_edgesIn_62 17 (by decide) ?_
      cases h
      exact x_sub [2, 3, 1, 4, 0] rfl (hI0 ((l2 + 0), (l4 + 1)) ht)
    · have h := iq hc h
      refine x_aload_n C dX7_edgesIn_41 rfl 0 rfl 42 rfl ?_
      refine x_iload_n C dX7_edgesIn_42 rfl 3 rfl 43 rfl ?_
      refine x_iload C dX7_edgesIn_43 4 rfl 45 rfl ?_
      obtain ⟨r45, h45, h⟩ := bv_some h
      refine x_callV C 29 [.int l3, .int l4] (c_X7_using  h45) mi_X7_using (gt_29 g _) rfl q_1033 rfl ⟨rfl, rfl⟩ ⟨Nat.le_of_ble_eq_true rfl, Nat.le_of_ble_eq_true rfl⟩ ⟨Nat.zero_le _, Nat.zero_le _⟩ _ rfl (Nat.le_of_ble_eq_true rfl) dX7_edgesIn_45 48 rfl ?_
      refine x_iload_n C dX7_edgesIn_48 rfl 1 rfl 49 rfl ?_
      refine x_icmp_ne C dX7_edgesIn_49 56 (by decide) 52 rfl (fun hc => ?_) (fun hc => ?_)
      · have h := iq hc h
        refine x_iconst C (v := 0) dX7_edgesIn_56 (by decide) 57 rfl ?_
        refine x_iadd C dX7_edgesIn_57 58 rfl ?_
        refine x_istore_n C [(2, .int (l2 + 0)), (0, .ref (adr g 29)), (1, .int l1), (3, .int l3), (4, .int l4)] dX7_edgesIn_58 rfl (by decide) rfl 59 rfl ?_
        refine x_iinc C [(4, .int (l4 + 1)), (2, .int (l2 + 0)), (0, .ref (adr g 29)), (1, .int l1), (3, .int l3)] dX7_edgesIn_59 4 rfl rfl (by decide) rfl 62 rfl ?_
        refine x_goto C dX7_edgesIn_62 17 (by decide) ?_
        cases h
        exact x_sub [2, 3, 1, 4, 0] rfl (hI0 ((l2 + 0), (l4 + 1)) ht)
      · have h := ip hc h
        refine x_iconst C (v := 1) dX7_edgesIn_52 (by decide) 53 rfl ?_
        refine x_goto C dX7_edgesIn_53 57 (by decide) ?_
        refine x_iadd C dX7_edgesIn_57 58 rfl ?_
        refine x_istore_n C [(2, .int (l2 + 1)), (0, .ref (adr g 29)), (1, .int l1), (3, .int l3), (4, .int l4)] dX7_edgesIn_58 rfl (by decide) rfl 59 rfl ?_
        refine x_iinc C [(4, .int (l4 + 1)), (2, .int (l2 + 1)), (0, .ref (adr g 29)), (1, .int l1), (3, .int l3)] dX7_edgesIn_59 4 rfl rfl (by decide) rfl 62 rfl ?_
        refine x_goto C dX7_edgesIn_62 17 (by decide) ?_
        cases h
        exact x_sub [2, 3, 1, 4, 0] rfl (hI0 ((l2 + 1), (l4 + 1)) ht)
set_option maxHeartbeats 4000000 in
set_option maxRecDepth 100000 in
theorem w_X7_edgesIn_17 {x : Cx} {g : Gb} {E : (Int32 × Int32) ⊕ (Int32) → Prop} (C : CF x g RX7 cX7_edgesIn 5 (rmk 3 48))  {l1 : Int32} {l2 : Int32} {l3 : Int32} {l4 : Int32} {σ : WD} (hI0 : ∀ s, E (.inl s) → WW x g 5 0 0 4 [(0, .ref (adr g 29)), (1, .int l1), (2, .int s.1), (3, .int s.2)] [] σ) (hE : ∀ (a : Int32), E (.inr a) → ∀ pc lv, decode cX7_edgesIn pc = .ok (.ireturn, 1) → WW x g 5 0 0 pc lv [.int a] σ) {t : (Int32 × Int32) ⊕ (Int32)} (h : f_X7_edgesIn_17 l1 l2 l3 l4 σ = some t) (ht : E t) : WW x g 5 0 0 17 [(0, .ref (adr g 29)), (1, .int l1), (2, .int l2), (3, .int l3), (4, .int l4)] [] σ := by
  unfold f_X7_edgesIn_17 at h
  exact lp_ind (fun s : Int32 × Int32 => WW x g 5 0 0 17 [(0, .ref (adr g 29)), (1, .int l1), (2, .int s.1), (3, .int l3), (4, .int s.2)] [] σ) E h ht (fun s y hb hy => w_X7_edgesIn_b17 (E := Sum.elim (fun s : Int32 × Int32 => WW x g 5 0 0 17 [(0, .ref (adr g 29)), (1, .int l1), (2, .int s.1), (3, .int l3), (4, .int s.2)] [] σ) E) C  (fun _ h => h) hI0 hE hb hy)
set_option maxHeartbeats 4000000 in
set_option maxRecDepth 100000 in
theorem w_X7_edgesIn_b4 {x : Cx} {g : Gb} {E : (Int32 × Int32) ⊕ (Int32) → Prop} (C : CF x g RX7 cX7_edgesIn 5 (rmk 3 48))  {l1 : Int32} {l2 : Int32} {l3 : Int32} {σ : WD} (hI0 : ∀ s, E (.inl s) → WW x g 5 0 0 4 [(0, .ref (adr g 29)), (1, .int l1), (2, .int s.1), (3, .int s.2)] [] σ) (hE : ∀ (a : Int32), E (.inr a) → ∀ pc lv, decode cX7_edgesIn pc = .ok (.ireturn, 1) → WW x g 5 0 0 pc lv [.int a] σ) {t : (Int32 × Int32) ⊕ (Int32)} (h : f_X7_edgesIn_b4 l1 l2 l3 σ = some t) (ht : E t) : WW x g 5 0 0 4 [(0, .ref (adr g 29)), (1, .int l1), (2, .int l2), (3, .int l3)] [] σ := by
  unfold f_X7_edgesIn_b4 at h
  refine x_iload_n C dX7_edgesIn_4 rfl 3 rfl 5 rfl ?_
  refine x_aload_n C dX7_edgesIn_5 rfl 0 rfl 6 rfl ?_
  refine gf_759_29 C dX7_edgesIn_6 9 rfl ?_
  refine x_icmp_ge C dX7_edgesIn_9 71 (by decide) 12 rfl (fun hc => ?_) (fun hc => ?_)
  · have h := ip hc h
    refine x_iload_n C dX7_edgesIn_71 rfl 2 rfl 72 rfl ?_
    cases h
    exact hE _ ht 72 _ dX7_edgesIn_72
  · have h := iq hc h
    refine x_iload_n C dX7_edgesIn_12 rfl 3 rfl 13 rfl ?_
    refine x_iconst C (v := 1) dX7_edgesIn_13 (by decide) 14 rfl ?_
    refine x_iadd C dX7_edgesIn_14 15 rfl ?_
    refine x_istore C [(4, .int (l3 + 1)), (0, .ref (adr g 29)), (1, .int l1), (2, .int l2), (3, .int l3)] dX7_edgesIn_15 (by decide) rfl 17 rfl ?_
    exact x_sub [1, 2, 3, 4, 0] rfl (w_X7_edgesIn_17 C  hI0 hE h ht)
set_option maxHeartbeats 4000000 in
set_option maxRecDepth 100000 in
theorem w_X7_edgesIn_4 {x : Cx} {g : Gb} {E : Int32 → Prop} (C : CF x g RX7 cX7_edgesIn 5 (rmk 3 48))  {l1 : Int32} {l2 : Int32} {l3 : Int32} {σ : WD} (hE : ∀ (a : Int32), E a → ∀ pc lv, decode cX7_edgesIn pc = .ok (.ireturn, 1) → WW x g 5 0 0 pc lv [.int a] σ) {t : Int32} (h : f_X7_edgesIn_4 l1 l2 l3 σ = some t) (ht : E t) : WW x g 5 0 0 4 [(0, .ref (adr g 29)), (1, .int l1), (2, .int l2), (3, .int l3)] [] σ := by
  unfold f_X7_edgesIn_4 at h
  exact lp_ind (fun s : Int32 × Int32 => WW x g 5 0 0 4 [(0, .ref (adr g 29)), (1, .int l1), (2, .int s.1), (3, .int s.2)] [] σ) E h ht (fun s y hb hy => w_X7_edgesIn_b4 (E := Sum.elim (fun s : Int32 × Int32 => WW x g 5 0 0 4 [(0, .ref (adr g 29)), (1, .int l1), (2, .int s.1), (3, .int s.2)] [] σ) E) C  (fun _ h => h)  hE hb hy)
set_option maxHeartbeats 4000000 in
set_option maxRecDepth 100000 in
theorem w_X7_edgesIn {x : Cx} {g : Gb} {E : Int32 → Prop} (C : CF x g RX7 cX7_edgesIn 5 (rmk 3 48))  {a1 : Int32} {σ : WD} (hE : ∀ (a : Int32), E a → ∀ pc lv, decode cX7_edgesIn pc = .ok (.ireturn, 1) → WW x g 5 0 0 pc lv [.int a] σ) {t : Int32} (h : f_X7_edgesIn a1 σ = some t) (ht : E t) : WW x g 5 0 0 0 [(0, .ref (adr g 29)), (1, .int a1)] [] σ := by
  unfold f_X7_edgesIn at h
  refine x_iconst C (v := 0) dX7_edgesIn_0 (by decide) 1 rfl ?_
  refine x_istore_n C [(2, .int 0), (0, .ref (adr g 29)), (1, .int a1)] dX7_edgesIn_1 rfl (by decide) rfl 2 rfl ?_
  refine x_iconst C (v := 0) dX7_edgesIn_2 (by decide) 3 rfl ?_
  refine x_istore_n C [(3, .int 0), (2, .int 0), (0, .ref (adr g 29)), (1, .int a1)] dX7_edgesIn_3 rfl (by decide) rfl 4 rfl ?_
  exact x_sub [2, 3, 1, 0] rfl (w_X7_edgesIn_4 C  hE h ht)
set_option maxHeartbeats 4000000 in
set_option maxRecDepth 100000 in
theorem c_X7_edgesIn {g : Gb} {l : Launch}  {a1 : Int32} {σ : WD} {r : Int32} (h : f_X7_edgesIn a1 σ = some r) : MC l g yX7_edgesIn (.code yX7_edgesIn cX7_edgesIn 5 (some (.int))) (rmk 3 48) [.ref (adr g 29), .int a1] σ (some (.int r)) σ := by
  refine MC.of (by decide) (Nat.le_of_ble_eq_true rfl) (fun x C hl hr hq => ?_)
  subst hl
  exact w_X7_edgesIn (E := fun z => z = r) C  (fun a he pc lv hd => by cases he; exact x_iret C hr hq hd) h rfl
set_option maxHeartbeats 4000000 in
set_option maxRecDepth 100000 in
theorem w_X7_counted {x : Cx} {g : Gb} {E : Int32 → Prop} (C : CF x g RX7 cX7_counted 2 (rmk 4 76))  {a1 : Int32} {σ : WD} (hE : ∀ (a : Int32), E a → ∀ pc lv, decode cX7_counted pc = .ok (.ireturn, 1) → WW x g 2 0 0 pc lv [.int a] σ) {t : Int32} (h : f_X7_counted a1 σ = some t) (ht : E t) : WW x g 2 0 0 0 [(0, .ref (adr g 29)), (1, .int a1)] [] σ := by
  unfold f_X7_counted at h
  refine x_iload_n C dX7_counted_0 rfl 1 rfl 1 rfl ?_
  by_cases hc0 : a1 = 0
  · have h := ip hc0 h
    refine x_tabIn C 0 hc0 dX7_counted_1 55 (by decide +kernel) 56 (by decide) ?_
    refine x_aload_n C dX7_counted_56 rfl 0 rfl 57 rfl ?_
    refine gf_759_29 C dX7_counted_57 60 rfl ?_
    cases h
    exact hE _ ht 60 _ dX7_counted_60
  · have h := iq hc0 h
    by_cases hc1 : a1 = 1
    · have h := ip hc1 h
      refine x_tabIn C 1 hc1 dX7_counted_1 60 (by decide +kernel) 61 (by decide) ?_
      refine x_aload_n C dX7_counted_61 rfl 0 rfl 62 rfl ?_
      obtain ⟨r62, h62, h⟩ := bv_some h
      refine x_callV C 29 [] (c_X7_edgeCount  h62) mi_X7_edgeCount (gt_29 g _) rfl q_1045 rfl ⟨rfl, rfl⟩ ⟨Nat.le_of_ble_eq_true rfl, Nat.le_of_ble_eq_true rfl⟩ ⟨Nat.zero_le _, Nat.zero_le _⟩ _ rfl (Nat.le_of_ble_eq_true rfl) dX7_counted_62 65 rfl ?_
      cases h
      exact hE _ ht 65 _ dX7_counted_65
    · have h := iq hc1 h
      by_cases hc2 : a1 = 2
      · have h := ip hc2 h
        refine x_tabIn C 2 hc2 dX7_counted_1 65 (by decide +kernel) 66 (by decide) ?_
        refine x_aload_n C dX7_counted_66 rfl 0 rfl 67 rfl ?_
        obtain ⟨r67, h67, h⟩ := bv_some h
        refine x_callV C 29 [] (c_X7_size  h67) mi_X7_size (gt_29 g _) rfl q_882 rfl ⟨rfl, rfl⟩ ⟨Nat.le_of_ble_eq_true rfl, Nat.le_of_ble_eq_true rfl⟩ ⟨Nat.zero_le _, Nat.zero_le _⟩ _ rfl (Nat.le_of_ble_eq_true rfl) dX7_counted_67 70 rfl ?_
        cases h
        exact hE _ ht 70 _ dX7_counted_70
      · have h := iq hc2 h
        by_cases hc3 : a1 = 3
        · have h := ip hc3 h
          refine x_tabIn C 3 hc3 dX7_counted_1 70 (by decide +kernel) 71 (by decide) ?_
          refine x_aload_n C dX7_counted_71 rfl 0 rfl 72 rfl ?_
          refine gf_766_29 C dX7_counted_72 75 rfl ?_
          refine x_aload_n C dX7_counted_75 rfl 0 rfl 76 rfl ?_
          obtain ⟨r76, h76, h⟩ := bv_some h
          refine x_callV C 29 [] (c_X7_all  h76) mi_X7_all (gt_29 g _) rfl q_930 rfl ⟨rfl, rfl⟩ ⟨Nat.le_of_ble_eq_true rfl, Nat.le_of_ble_eq_true rfl⟩ ⟨Nat.zero_le _, Nat.zero_le _⟩ _ rfl (Nat.le_of_ble_eq_true rfl) dX7_counted_76 79 rfl ?_
          obtain ⟨hin, h⟩ := gi_some h
          refine x_iald C 34 (gt_34 g _) hin dX7_counted_79 80 rfl ?_
          cases h
          exact hE _ ht 80 _ dX7_counted_80
        · have h := iq hc3 h
          by_cases hc4 : a1 = 4
          · have h := ip hc4 h
            refine x_tabIn C 4 hc4 dX7_counted_1 80 (by decide +kernel) 81 (by decide) ?_
            refine x_aload_n C dX7_counted_81 rfl 0 rfl 82 rfl ?_
            refine gf_759_29 C dX7_counted_82 85 rfl ?_
            refine x_iconst C (v := 2) dX7_counted_85 (by decide) 86 rfl ?_
            refine x_aload_n C dX7_counted_86 rfl 0 rfl 87 rfl ?_
            refine gf_766_29 C dX7_counted_87 90 rfl ?_
            refine x_aload_n C dX7_counted_90 rfl 0 rfl 91 rfl ?_
            obtain ⟨r91, h91, h⟩ := bv_some h
            refine x_callV C 29 [] (c_X7_all  h91) mi_X7_all (gt_29 g _) rfl q_930 rfl ⟨rfl, rfl⟩ ⟨Nat.le_of_ble_eq_true rfl, Nat.le_of_ble_eq_true rfl⟩ ⟨Nat.zero_le _, Nat.zero_le _⟩ _ rfl (Nat.le_of_ble_eq_true rfl) dX7_counted_91 94 rfl ?_
            obtain ⟨hin, h⟩ := gi_some h
            refine x_iald C 34 (gt_34 g _) hin dX7_counted_94 95 rfl ?_
            refine x_imul C dX7_counted_95 96 rfl ?_
            refine x_isub C dX7_counted_96 97 rfl ?_
            cases h
            exact hE _ ht 97 _ dX7_counted_97
          · have h := iq hc4 h
            by_cases hc5 : a1 = 5
            · have h := ip hc5 h
              refine x_tabIn C 5 hc5 dX7_counted_1 97 (by decide +kernel) 98 (by decide) ?_
              refine x_aload_n C dX7_counted_98 rfl 0 rfl 99 rfl ?_
              refine gf_767_29 C dX7_counted_99 102 rfl ?_
              refine x_aload_n C dX7_counted_102 rfl 0 rfl 103 rfl ?_
              obtain ⟨r103, h103, h⟩ := bv_some h
              refine x_callV C 29 [] (c_X7_all  h103) mi_X7_all (gt_29 g _) rfl q_930 rfl ⟨rfl, rfl⟩ ⟨Nat.le_of_ble_eq_true rfl, Nat.le_of_ble_eq_true rfl⟩ ⟨Nat.zero_le _, Nat.zero_le _⟩ _ rfl (Nat.le_of_ble_eq_true rfl) dX7_counted_103 106 rfl ?_
              obtain ⟨hin, h⟩ := gi_some h
              refine x_iald C 35 (gt_35 g _) hin dX7_counted_106 107 rfl ?_
              cases h
              exact hE _ ht 107 _ dX7_counted_107
            · have h := iq hc5 h
              by_cases hc6 : a1 = 6
              · have h := ip hc6 h
                refine x_tabIn C 6 hc6 dX7_counted_1 107 (by decide +kernel) 108 (by decide) ?_
                refine x_aload_n C dX7_counted_108 rfl 0 rfl 109 rfl ?_
                refine x_aload_n C dX7_counted_109 rfl 0 rfl 110 rfl ?_
                refine gf_767_29 C dX7_counted_110 113 rfl ?_
                refine x_aload_n C dX7_counted_113 rfl 0 rfl 114 rfl ?_
                obtain ⟨r114, h114, h⟩ := bv_some h
                refine x_callV C 29 [] (c_X7_all  h114) mi_X7_all (gt_29 g _) rfl q_930 rfl ⟨rfl, rfl⟩ ⟨Nat.le_of_ble_eq_true rfl, Nat.le_of_ble_eq_true rfl⟩ ⟨Nat.zero_le _, Nat.zero_le _⟩ _ rfl (Nat.le_of_ble_eq_true rfl) dX7_counted_114 117 rfl ?_
                obtain ⟨hin, h⟩ := gi_some h
                refine x_iald C 35 (gt_35 g _) hin dX7_counted_117 118 rfl ?_
                obtain ⟨r118, h118, h⟩ := bv_some h
                refine x_callV C 29 [.int (σ.1 35 (r114 : Int32).toNatClampNeg)] (c_X7_edgesIn  h118) mi_X7_edgesIn (gt_29 g _) rfl q_1049 rfl ⟨rfl, rfl⟩ ⟨Nat.le_of_ble_eq_true rfl, Nat.le_of_ble_eq_true rfl⟩ ⟨Nat.zero_le _, Nat.zero_le _⟩ _ rfl (Nat.le_of_ble_eq_true rfl) dX7_counted_118 121 rfl ?_
                cases h
                exact hE _ ht 121 _ dX7_counted_121
              · have h := iq hc6 h
                by_cases hc7 : a1 = 7
                · have h := ip hc7 h
                  refine x_tabIn C 7 hc7 dX7_counted_1 121 (by decide +kernel) 122 (by decide) ?_
                  refine x_aload_n C dX7_counted_122 rfl 0 rfl 123 rfl ?_
                  refine x_iconst C (v := 0) dX7_counted_123 (by decide) 124 rfl ?_
                  obtain ⟨r124, h124, h⟩ := bv_some h
                  refine x_callV C 29 [.int 0] (c_X7_edgesIn  h124) mi_X7_edgesIn (gt_29 g _) rfl q_1049 rfl ⟨rfl, rfl⟩ ⟨Nat.le_of_ble_eq_true rfl, Nat.le_of_ble_eq_true rfl⟩ ⟨Nat.zero_le _, Nat.zero_le _⟩ _ rfl (Nat.le_of_ble_eq_true rfl) dX7_counted_124 127 rfl ?_
                  cases h
                  exact hE _ ht 127 _ dX7_counted_127
                · have h := iq hc7 h
                  by_cases hc8 : a1 = 8
                  · have h := ip hc8 h
                    refine x_tabIn C 8 hc8 dX7_counted_1 127 (by decide +kernel) 128 (by decide) ?_
                    refine x_aload_n C dX7_counted_128 rfl 0 rfl 129 rfl ?_
                    obtain ⟨r129, h129, h⟩ := bv_some h
                    refine x_callV C 29 [] (c_X7_isCritical  h129) mi_X7_isCritical (gt_29 g _) rfl q_1053 rfl ⟨rfl, rfl⟩ ⟨Nat.le_of_ble_eq_true rfl, Nat.le_of_ble_eq_true rfl⟩ ⟨Nat.zero_le _, Nat.zero_le _⟩ _ rfl (Nat.le_of_ble_eq_true rfl) dX7_counted_129 132 rfl ?_
                    refine x_if_eq C dX7_counted_132 139 (by decide) 135 rfl (fun hc => ?_) (fun hc => ?_)
                    · have h := ip hc h
                      refine x_iconst C (v := 0) dX7_counted_139 (by decide) 140 rfl ?_
                      cases h
                      exact hE _ ht 140 _ dX7_counted_140
                    · have h := iq hc h
                      refine x_iconst C (v := 1) dX7_counted_135 (by decide) 136 rfl ?_
                      refine x_goto C dX7_counted_136 140 (by decide) ?_
                      cases h
                      exact hE _ ht 140 _ dX7_counted_140
                  · have h := iq hc8 h
                    by_cases hc9 : a1 = 9
                    · have h := ip hc9 h
                      refine x_tabIn C 9 hc9 dX7_counted_1 140 (by decide +kernel) 141 (by decide) ?_
                      refine x_aload_n C dX7_counted_141 rfl 0 rfl 142 rfl ?_
                      refine x_aload_n C dX7_counted_142 rfl 0 rfl 143 rfl ?_
                      obtain ⟨r143, h143, h⟩ := bv_some h
                      refine x_callV C 29 [] (c_X7_all  h143) mi_X7_all (gt_29 g _) rfl q_930 rfl ⟨rfl, rfl⟩ ⟨Nat.le_of_ble_eq_true rfl, Nat.le_of_ble_eq_true rfl⟩ ⟨Nat.zero_le _, Nat.zero_le _⟩ _ rfl (Nat.le_of_ble_eq_true rfl) dX7_counted_143 146 rfl ?_
                      refine x_iconst C (v := 0) dX7_counted_146 (by decide) 147 rfl ?_
                      obtain ⟨r147, h147, h⟩ := bv_some h
                      refine x_callV C 29 [.int r143, .int 0] (c_X7_componentsOf  h147) mi_X7_componentsOf (gt_29 g _) rfl q_989 rfl ⟨rfl, rfl⟩ ⟨Nat.le_of_ble_eq_true rfl, Nat.le_of_ble_eq_true rfl⟩ ⟨Nat.zero_le _, Nat.zero_le _⟩ _ rfl (Nat.le_of_ble_eq_true rfl) dX7_counted_147 150 rfl ?_
                      cases h
                      exact hE _ ht 150 _ dX7_counted_150
                    · have h := iq hc9 h
                      refine x_tabOut C dX7_counted_1 (sw_out 9 (by decide) (fun k hk => by
                        have hk : k = 0 ∨ k = 1 ∨ k = 2 ∨ k = 3 ∨ k = 4 ∨ k = 5 ∨ k = 6 ∨ k = 7 ∨ k = 8 ∨ k = 9 := by omega
                        rcases hk with rfl | rfl | rfl | rfl | rfl | rfl | rfl | rfl | rfl | rfl <;> assumption)) 151 (by decide) ?_
                      refine x_aload_n C dX7_counted_151 rfl 0 rfl 152 rfl ?_
                      refine gf_762_29 C dX7_counted_152 155 rfl ?_
                      cases h
                      exact hE _ ht 155 _ dX7_counted_155
set_option maxHeartbeats 4000000 in
set_option maxRecDepth 100000 in
theorem c_X7_counted {g : Gb} {l : Launch}  {a1 : Int32} {σ : WD} {r : Int32} (h : f_X7_counted a1 σ = some r) : MC l g yX7_counted (.code yX7_counted cX7_counted 2 (some (.int))) (rmk 4 76) [.ref (adr g 29), .int a1] σ (some (.int r)) σ := by
  refine MC.of (by decide) (Nat.le_of_ble_eq_true rfl) (fun x C hl hr hq => ?_)
  subst hl
  exact w_X7_counted (E := fun z => z = r) C  (fun a he pc lv hd => by cases he; exact x_iret C hr hq hd) h rfl
set_option maxHeartbeats 4000000 in
set_option maxRecDepth 100000 in
theorem w_X7_count_16 {x : Cx} {g : Gb} {E : Int32 × WD → Prop} (C : CF x g RX7 cX7_count 2 (rmk 5 98))  {l1 : Int32} {s0 : Int32} {σ : WD} (hE : ∀ (a : Int32) (s2 : WD), E (a, s2) → ∀ pc lv, decode cX7_count pc = .ok (.ireturn, 1) → WW x g 2 0 0 pc lv [.int a] s2) {t : Int32 × WD} (h : f_X7_count_16 l1 s0 σ = some t) (ht : E t) : WW x g 2 0 0 16 [(0, .ref (adr g 29)), (1, .int l1)] [.int s0, .ref (adr g 29)] σ := by
  unfold f_X7_count_16 at h
  refine pf_758_29 C dX7_count_16 19 rfl ?_
  obtain ⟨σ16, e16, h⟩ := lt_some h
  refine x_we e16 ?_
  refine x_aload_n C dX7_count_19 rfl 0 rfl 20 rfl ?_
  refine gf_758_29 C dX7_count_20 23 rfl ?_
  refine x_if_le C dX7_count_23 28 (by decide) 26 rfl (fun hc => ?_) (fun hc => ?_)
  · have h := ip hc h
    refine x_aload_n C dX7_count_28 rfl 0 rfl 29 rfl ?_
    obtain ⟨σ29, h29, h⟩ := bv_some h
    refine x_callV C 29 [] (c_X7_laySets  h29) mi_X7_laySets (gt_29 g _) rfl q_926 rfl ⟨rfl, rfl⟩ ⟨Nat.le_of_ble_eq_true rfl, Nat.le_of_ble_eq_true rfl⟩ ⟨Nat.zero_le _, Nat.zero_le _⟩ _ rfl (Nat.le_of_ble_eq_true rfl) dX7_count_29 32 rfl ?_
    refine x_aload_n C dX7_count_32 rfl 0 rfl 33 rfl ?_
    refine x_iload_n C dX7_count_33 rfl 1 rfl 34 rfl ?_
    obtain ⟨r34, h34, h⟩ := bv_some h
    refine x_callV C 29 [.int l1] (c_X7_counted  h34) mi_X7_counted (gt_29 g _) rfl q_1041 rfl ⟨rfl, rfl⟩ ⟨Nat.le_of_ble_eq_true rfl, Nat.le_of_ble_eq_true rfl⟩ ⟨Nat.zero_le _, Nat.zero_le _⟩ _ rfl (Nat.le_of_ble_eq_true rfl) dX7_count_34 37 rfl ?_
    cases h
    exact hE _ _ ht 37 _ dX7_count_37
  · have h := iq hc h
    refine x_iconst C (v := 0) dX7_count_26 (by decide) 27 rfl ?_
    cases h
    exact hE _ _ ht 27 _ dX7_count_27
set_option maxHeartbeats 4000000 in
set_option maxRecDepth 100000 in
theorem w_X7_count {x : Cx} {g : Gb} {E : Int32 × WD → Prop} (C : CF x g RX7 cX7_count 2 (rmk 5 98))  {a1 : Int32} {σ : WD} (hE : ∀ (a : Int32) (s2 : WD), E (a, s2) → ∀ pc lv, decode cX7_count pc = .ok (.ireturn, 1) → WW x g 2 0 0 pc lv [.int a] s2) {t : Int32 × WD} (h : f_X7_count a1 σ = some t) (ht : E t) : WW x g 2 0 0 0 [(0, .ref (adr g 29)), (1, .int a1)] [] σ := by
  unfold f_X7_count at h
  refine x_aload_n C dX7_count_0 rfl 0 rfl 1 rfl ?_
  refine x_iload_n C dX7_count_1 rfl 1 rfl 2 rfl ?_
  refine x_iconst C (v := 0) dX7_count_2 (by decide) 3 rfl ?_
  refine x_bipush C (v := 10) dX7_count_3 (by decide) 5 rfl ?_
  obtain ⟨r5, h5, h⟩ := bv_some h
  refine x_callS C [.int a1, .int 0, .int 10] (c_X7_within  h5) mi_X7_within q_824 rfl ⟨rfl, rfl⟩ ⟨Nat.le_of_ble_eq_true rfl, Nat.le_of_ble_eq_true rfl⟩ ⟨Nat.zero_le _, Nat.zero_le _⟩ _ rfl (Nat.le_of_ble_eq_true rfl) dX7_count_5 8 rfl ?_
  refine x_if_eq C dX7_count_8 15 (by decide) 11 rfl (fun hc => ?_) (fun hc => ?_)
  · have h := ip hc h
    refine x_iconst C (v := 1) dX7_count_15 (by decide) 16 rfl ?_
    exact x_sub [0, 1] rfl (w_X7_count_16 C  hE h ht)
  · have h := iq hc h
    refine x_iconst C (v := 0) dX7_count_11 (by decide) 12 rfl ?_
    refine x_goto C dX7_count_12 16 (by decide) ?_
    exact x_sub [0, 1] rfl (w_X7_count_16 C  hE h ht)
set_option maxHeartbeats 4000000 in
set_option maxRecDepth 100000 in
theorem c_X7_count {g : Gb} {l : Launch}  {a1 : Int32} {σ : WD} {r : Int32} {σ2 : WD} (h : f_X7_count a1 σ = some (r, σ2)) : MC l g yX7_count (.code yX7_count cX7_count 2 (some (.int))) (rmk 5 98) [.ref (adr g 29), .int a1] σ (some (.int r)) σ2 := by
  refine MC.of (by decide) (Nat.le_of_ble_eq_true rfl) (fun x C hl hr hq => ?_)
  subst hl
  exact w_X7_count (E := fun z => z = (r, σ2)) C  (fun a s2 he pc lv hd => by cases he; exact x_iret C hr hq hd) h rfl
set_option maxHeartbeats 4000000 in
set_option maxRecDepth 100000 in
theorem w_X7_differs {x : Cx} {g : Gb} {E : Int32 → Prop} (C : CF x g RX7 cX7_differs 2 (rmk 1 1))  {a1 : Int32} {σ : WD} (hE : ∀ (a : Int32), E a → ∀ pc lv, narrow .boolean (.int a) = .int a → decode cX7_differs pc = .ok (.ireturn, 1) → WW x g 2 0 0 pc lv [.int a] σ) {t : Int32} (h : f_X7_differs a1 σ = some t) (ht : E t) : WW x g 2 0 0 0 [(0, .ref (adr g 29)), (1, .int a1)] [] σ := by
  unfold f_X7_differs at h
  refine x_aload_n C dX7_differs_0 rfl 0 rfl 1 rfl ?_
  refine gf_761_29 C dX7_differs_1 4 rfl ?_
  refine x_iload_n C dX7_differs_4 rfl 1 rfl 5 rfl ?_
  obtain ⟨hin, h⟩ := gi_some h
  refine x_iald C 31 (gt_31 g _) hin dX7_differs_5 6 rfl ?_
  refine x_aload_n C dX7_differs_6 rfl 0 rfl 7 rfl ?_
  refine gf_768_29 C dX7_differs_7 10 rfl ?_
  refine x_iload_n C dX7_differs_10 rfl 1 rfl 11 rfl ?_
  obtain ⟨hin, h⟩ := gi_some h
  refine x_iald C 36 (gt_36 g _) hin dX7_differs_11 12 rfl ?_
  refine x_icmp_eq C dX7_differs_12 19 (by decide) 15 rfl (fun hc => ?_) (fun hc => ?_)
  · have h := ip hc h
    refine x_iconst C (v := 0) dX7_differs_19 (by decide) 20 rfl ?_
    cases h
    exact hE _ ht 20 _ rfl dX7_differs_20
  · have h := iq hc h
    refine x_iconst C (v := 1) dX7_differs_15 (by decide) 16 rfl ?_
    refine x_goto C dX7_differs_16 20 (by decide) ?_
    cases h
    exact hE _ ht 20 _ rfl dX7_differs_20
set_option maxHeartbeats 4000000 in
set_option maxRecDepth 100000 in
theorem c_X7_differs {g : Gb} {l : Launch}  {a1 : Int32} {σ : WD} {r : Int32} (h : f_X7_differs a1 σ = some r) : MC l g yX7_differs (.code yX7_differs cX7_differs 2 (some (.boolean))) (rmk 1 1) [.ref (adr g 29), .int a1] σ (some (.int r)) σ := by
  refine MC.of (by decide) (Nat.le_of_ble_eq_true rfl) (fun x C hl hr hq => ?_)
  subst hl
  exact w_X7_differs (E := fun z => z = r) C  (fun a he pc lv hn hd => by cases he; exact x_zret C hr hq hn hd) h rfl
set_option maxHeartbeats 4000000 in
set_option maxRecDepth 100000 in
theorem w_X7_joined_95 {x : Cx} {g : Gb} {E : (Int32 × Int32) ⊕ ((Int32 × Int32) ⊕ (Int32)) → Prop} (C : CF x g RX7 cX7_joined 5 (rmk 2 23))  {l3 : Int32} {l4 : Int32} {s0 : Int32} {s1 : Int32} {σ : WD} (hI0 : ∀ s, E (.inl s) → WW x g 5 0 0 16 [(0, .ref (adr g 29)), (2, .int s.1), (3, .int l3), (4, .int s.2)] [] σ) (hI1 : ∀ s, E (.inr (.inl s)) → WW x g 5 0 0 6 [(0, .ref (adr g 29)), (2, .int s.1), (3, .int s.2)] [] σ) (hE : ∀ (a : Int32), E (.inr (.inr a)) → ∀ pc lv, decode cX7_joined pc = .ok (.ireturn, 1) → WW x g 5 0 0 pc lv [.int a] σ) {t : (Int32 × Int32) ⊕ ((Int32 × Int32) ⊕ (Int32))} (h : f_X7_joined_95 l3 l4 s0 s1 σ = some t) (ht : E t) : WW x g 5 0 0 95 [(0, .ref (adr g 29)), (3, .int l3), (4, .int l4)] [.int s0, .int s1] σ := by
  unfold f_X7_joined_95 at h
  refine x_ior C dX7_joined_95 96 rfl ?_
  refine x_istore_n C [(2, .int (s1 ||| s0)), (0, .ref (adr g 29)), (3, .int l3), (4, .int l4)] dX7_joined_96 rfl (by decide) rfl 97 rfl ?_
  refine x_iinc C [(4, .int (l4 + 1)), (2, .int (s1 ||| s0)), (0, .ref (adr g 29)), (3, .int l3)] dX7_joined_97 3 rfl rfl (by decide) rfl 100 rfl ?_
  refine x_goto C dX7_joined_100 16 (by decide) ?_
  cases h
  exact x_sub [2, 1, 3, 0] rfl (hI0 ((s1 ||| s0), (l4 + 1)) ht)
set_option maxHeartbeats 4000000 in
set_option maxRecDepth 100000 in
theorem w_X7_joined_68 {x : Cx} {g : Gb} {E : (Int32 × Int32) ⊕ ((Int32 × Int32) ⊕ (Int32)) → Prop} (C : CF x g RX7 cX7_joined 5 (rmk 2 23))  {l3 : Int32} {l4 : Int32} {s0 : Int32} {s1 : Int32} {σ : WD} (hI0 : ∀ s, E (.inl s) → WW x g 5 0 0 16 [(0, .ref (adr g 29)), (2, .int s.1), (3, .int l3), (4, .int s.2)] [] σ) (hI1 : ∀ s, E (.inr (.inl s)) → WW x g 5 0 0 6 [(0, .ref (adr g 29)), (2, .int s.1), (3, .int s.2)] [] σ) (hE : ∀ (a : Int32), E (.inr (.inr a)) → ∀ pc lv, decode cX7_joined pc = .ok (.ireturn, 1) → WW x g 5 0 0 pc lv [.int a] σ) {t : (Int32 × Int32) ⊕ ((Int32 × Int32) ⊕ (Int32))} (h : f_X7_joined_68 l3 l4 s0 s1 σ = some t) (ht : E t) : WW x g 5 0 0 68 [(0, .ref (adr g 29)), (3, .int l3), (4, .int l4)] [.int s0, .int s1] σ := by
  unfold f_X7_joined_68 at h
  refine x_ior C dX7_joined_68 69 rfl ?_
  refine x_istore_n C [(2, .int (s1 ||| s0)), (0, .ref (adr g 29)), (3, .int l3), (4, .int l4)] dX7_joined_69 rfl (by decide) rfl 70 rfl ?_
  refine x_iload_n C dX7_joined_70 rfl 0 rfl 71 rfl ?_
  refine x_aload_n C dX7_joined_71 rfl 1 rfl 72 rfl ?_
  refine gf_768_29 C dX7_joined_72 75 rfl ?_
  refine x_iload C dX7_joined_75 3 rfl 77 rfl ?_
  obtain ⟨hin, h⟩ := gi_some h
  refine x_iald C 36 (gt_36 g _) hin dX7_joined_77 78 rfl ?_
  refine x_iconst C (v := -1) dX7_joined_78 (by decide) 79 rfl ?_
  refine x_icmp_ne C dX7_joined_79 86 (by decide) 82 rfl (fun hc => ?_) (fun hc => ?_)
  · have h := iq hc h
    refine x_iconst C (v := 1) dX7_joined_86 (by decide) 87 rfl ?_
    refine x_aload_n C dX7_joined_87 rfl 1 rfl 88 rfl ?_
    refine gf_768_29 C dX7_joined_88 91 rfl ?_
    refine x_iload C dX7_joined_91 3 rfl 93 rfl ?_
    obtain ⟨hin, h⟩ := gi_some h
    refine x_iald C 36 (gt_36 g _) hin dX7_joined_93 94 rfl ?_
    refine x_ishl C dX7_joined_94 95 rfl ?_
    exact x_sub [1, 2, 3] rfl (w_X7_joined_95 C  hI0 hI1 hE h ht)
  · have h := ip hc h
    refine x_iconst C (v := 0) dX7_joined_82 (by decide) 83 rfl ?_
    refine x_goto C dX7_joined_83 95 (by decide) ?_
    exact x_sub [1, 2, 3] rfl (w_X7_joined_95 C  hI0 hI1 hE h ht)
set_option maxHeartbeats 4000000 in
set_option maxRecDepth 100000 in
theorem w_X7_joined_b16 {x : Cx} {g : Gb} {E : (Int32 × Int32) ⊕ ((Int32 × Int32) ⊕ (Int32)) → Prop} (C : CF x g RX7 cX7_joined 5 (rmk 2 23))  {l2 : Int32} {l3 : Int32} {l4 : Int32} {σ : WD} (hI0 : ∀ s, E (.inl s) → WW x g 5 0 0 16 [(0, .ref (adr g 29)), (2, .int s.1), (3, .int l3), (4, .int s.2)] [] σ) (hI1 : ∀ s, E (.inr (.inl s)) → WW x g 5 0 0 6 [(0, .ref (adr g 29)), (2, .int s.1), (3, .int s.2)] [] σ) (hE : ∀ (a : Int32), E (.inr (.inr a)) → ∀ pc lv, decode cX7_joined pc = .ok (.ireturn, 1) → WW x g 5 0 0 pc lv [.int a] σ) {t : (Int32 × Int32) ⊕ ((Int32 × Int32) ⊕ (Int32))} (h : f_X7_joined_b16 l2 l3 l4 σ = some t) (ht : E t) : WW x g 5 0 0 16 [(0, .ref (adr g 29)), (2, .int l2), (3, .int l3), (4, .int l4)] [] σ := by
  unfold f_X7_joined_b16 at h
  refine x_iload C dX7_joined_16 3 rfl 18 rfl ?_
  refine x_aload_n C dX7_joined_18 rfl 0 rfl 19 rfl ?_
  refine gf_759_29 C dX7_joined_19 22 rfl ?_
  refine x_icmp_ge C dX7_joined_22 103 (by decide) 25 rfl (fun hc => ?_) (fun hc => ?_)
  · have h := ip hc h
    refine x_goto C dX7_joined_103 6 (by decide) ?_
    cases h
    exact x_sub [0, 1, 2] rfl (hI1 (l2, l3) ht)
  · have h := iq hc h
    refine x_iload_n C dX7_joined_25 rfl 1 rfl 26 rfl ?_
    refine x_iload C dX7_joined_26 3 rfl 28 rfl ?_
    obtain ⟨r28, h28, h⟩ := bv_some h
    refine x_callS C [.int l2, .int l4] (c_X7_has  h28) mi_X7_has q_839 rfl ⟨rfl, rfl⟩ ⟨Nat.le_of_ble_eq_true rfl, Nat.le_of_ble_eq_true rfl⟩ ⟨Nat.zero_le _, Nat.zero_le _⟩ _ rfl (Nat.le_of_ble_eq_true rfl) dX7_joined_28 31 rfl ?_
    refine x_if_eq C dX7_joined_31 97 (by decide) 34 rfl (fun hc => ?_) (fun hc => ?_)
    · have h := ip hc h
      refine x_iinc C [(4, .int (l4 + 1)), (0, .ref (adr g 29)), (2, .int l2), (3, .int l3)] dX7_joined_97 3 rfl rfl (by decide) rfl 100 rfl ?_
      refine x_goto C dX7_joined_100 16 (by decide) ?_
      cases h
      exact x_sub [1, 2, 3, 0] rfl (hI0 (l2, (l4 + 1)) ht)
    · have h := iq hc h
      refine x_aload_n C dX7_joined_34 rfl 0 rfl 35 rfl ?_
      refine x_iload C dX7_joined_35 3 rfl 37 rfl ?_
      obtain ⟨r37, h37, h⟩ := bv_some h
      refine x_callV C 29 [.int l4] (c_X7_differs  h37) mi_X7_differs (gt_29 g _) rfl q_1065 rfl ⟨rfl, rfl⟩ ⟨Nat.le_of_ble_eq_true rfl, Nat.le_of_ble_eq_true rfl⟩ ⟨Nat.zero_le _, Nat.zero_le _⟩ _ rfl (Nat.le_of_ble_eq_true rfl) dX7_joined_37 40 rfl ?_
      refine x_if_eq C dX7_joined_40 97 (by decide) 43 rfl (fun hc => ?_) (fun hc => ?_)
      · have h := ip hc h
        refine x_iinc C [(4, .int (l4 + 1)), (0, .ref (adr g 29)), (2, .int l2), (3, .int l3)] dX7_joined_97 3 rfl rfl (by decide) rfl 100 rfl ?_
        refine x_goto C dX7_joined_100 16 (by decide) ?_
        cases h
        exact x_sub [1, 2, 3, 0] rfl (hI0 (l2, (l4 + 1)) ht)
      · have h := iq hc h
        refine x_iload_n C dX7_joined_43 rfl 1 rfl 44 rfl ?_
        refine x_aload_n C dX7_joined_44 rfl 0 rfl 45 rfl ?_
        refine gf_761_29 C dX7_joined_45 48 rfl ?_
        refine x_iload C dX7_joined_48 3 rfl 50 rfl ?_
        obtain ⟨hin, h⟩ := gi_some h
        refine x_iald C 31 (gt_31 g _) hin dX7_joined_50 51 rfl ?_
        refine x_iconst C (v := -1) dX7_joined_51 (by decide) 52 rfl ?_
        refine x_icmp_ne C dX7_joined_52 59 (by decide) 55 rfl (fun hc => ?_) (fun hc => ?_)
        · have h := iq hc h
          refine x_iconst C (v := 1) dX7_joined_59 (by decide) 60 rfl ?_
          refine x_aload_n C dX7_joined_60 rfl 0 rfl 61 rfl ?_
          refine gf_761_29 C dX7_joined_61 64 rfl ?_
          refine x_iload C dX7_joined_64 3 rfl 66 rfl ?_
          obtain ⟨hin, h⟩ := gi_some h
          refine x_iald C 31 (gt_31 g _) hin dX7_joined_66 67 rfl ?_
          refine x_ishl C dX7_joined_67 68 rfl ?_
          exact x_sub [0, 2, 3] rfl (w_X7_joined_68 C  hI0 hI1 hE h ht)
        · have h := ip hc h
          refine x_iconst C (v := 0) dX7_joined_55 (by decide) 56 rfl ?_
          refine x_goto C dX7_joined_56 68 (by decide) ?_
          exact x_sub [0, 2, 3] rfl (w_X7_joined_68 C  hI0 hI1 hE h ht)
set_option maxHeartbeats 4000000 in
set_option maxRecDepth 100000 in
theorem w_X7_joined_16 {x : Cx} {g : Gb} {E : (Int32 × Int32) ⊕ (Int32) → Prop} (C : CF x g RX7 cX7_joined 5 (rmk 2 23))  {l2 : Int32} {l3 : Int32} {l4 : Int32} {σ : WD} (hI0 : ∀ s, E (.inl s) → WW x g 5 0 0 6 [(0, .ref (adr g 29)), (2, .int s.1), (3, .int s.2)] [] σ) (hE : ∀ (a : Int32), E (.inr a) → ∀ pc lv, decode cX7_joined pc = .ok (.ireturn, 1) → WW x g 5 0 0 pc lv [.int a] σ) {t : (Int32 × Int32) ⊕ (Int32)} (h : f_X7_joined_16 l2 l3 l4 σ = some t) (ht : E t) : WW x g 5 0 0 16 [(0, .ref (adr g 29)), (2, .int l2), (3, .int l3), (4, .int l4)] [] σ := by
  unfold f_X7_joined_16 at h
  exact lp_ind (fun s : Int32 × Int32 => WW x g 5 0 0 16 [(0, .ref (adr g 29)), (2, .int s.1), (3, .int l3), (4, .int s.2)] [] σ) E h ht (fun s y hb hy => w_X7_joined_b16 (E := Sum.elim (fun s : Int32 × Int32 => WW x g 5 0 0 16 [(0, .ref (adr g 29)), (2, .int s.1), (3, .int l3), (4, .int s.2)] [] σ) E) C  (fun _ h => h) hI0 hE hb hy)
set_option maxHeartbeats 4000000 in
set_option maxRecDepth 100000 in
theorem w_X7_joined_b6 {x : Cx} {g : Gb} {E : (Int32 × Int32) ⊕ (Int32) → Prop} (C : CF x g RX7 cX7_joined 5 (rmk 2 23))  {l2 : Int32} {l3 : Int32} {σ : WD} (hI0 : ∀ s, E (.inl s) → WW x g 5 0 0 6 [(0, .ref (adr g 29)), (2, .int s.1), (3, .int s.2)] [] σ) (hE : ∀ (a : Int32), E (.inr a) → ∀ pc lv, decode cX7_joined pc = .ok (.ireturn, 1) → WW x g 5 0 0 pc lv [.int a] σ) {t : (Int32 × Int32) ⊕ (Int32)} (h : f_X7_joined_b6 l2 l3 σ = some t) (ht : E t) : WW x g 5 0 0 6 [(0, .ref (adr g 29)), (2, .int l2), (3, .int l3)] [] σ := by
  unfold f_X7_joined_b6 at h
  refine x_iload_n C dX7_joined_6 rfl 1 rfl 7 rfl ?_
  refine x_iload_n C dX7_joined_7 rfl 2 rfl 8 rfl ?_
  refine x_icmp_eq C dX7_joined_8 106 (by decide) 11 rfl (fun hc => ?_) (fun hc => ?_)
  · have h := ip hc h
    refine x_iload_n C dX7_joined_106 rfl 1 rfl 107 rfl ?_
    cases h
    exact hE _ ht 107 _ dX7_joined_107
  · have h := iq hc h
    refine x_iload_n C dX7_joined_11 rfl 1 rfl 12 rfl ?_
    refine x_istore_n C [(3, .int l2), (0, .ref (adr g 29)), (2, .int l2)] dX7_joined_12 rfl (by decide) rfl 13 rfl ?_
    refine x_iconst C (v := 0) dX7_joined_13 (by decide) 14 rfl ?_
    refine x_istore C [(4, .int 0), (3, .int l2), (0, .ref (adr g 29)), (2, .int l2)] dX7_joined_14 (by decide) rfl 16 rfl ?_
    exact x_sub [2, 3, 1, 0] rfl (w_X7_joined_16 C  hI0 hE h ht)
set_option maxHeartbeats 4000000 in
set_option maxRecDepth 100000 in
theorem w_X7_joined_6 {x : Cx} {g : Gb} {E : Int32 → Prop} (C : CF x g RX7 cX7_joined 5 (rmk 2 23))  {l2 : Int32} {l3 : Int32} {σ : WD} (hE : ∀ (a : Int32), E a → ∀ pc lv, decode cX7_joined pc = .ok (.ireturn, 1) → WW x g 5 0 0 pc lv [.int a] σ) {t : Int32} (h : f_X7_joined_6 l2 l3 σ = some t) (ht : E t) : WW x g 5 0 0 6 [(0, .ref (adr g 29)), (2, .int l2), (3, .int l3)] [] σ := by
  unfold f_X7_joined_6 at h
  exact lp_ind (fun s : Int32 × Int32 => WW x g 5 0 0 6 [(0, .ref (adr g 29)), (2, .int s.1), (3, .int s.2)] [] σ) E h ht (fun s y hb hy => w_X7_joined_b6 (E := Sum.elim (fun s : Int32 × Int32 => WW x g 5 0 0 6 [(0, .ref (adr g 29)), (2, .int s.1), (3, .int s.2)] [] σ) E) C  (fun _ h => h)  hE hb hy)
set_option maxHeartbeats 4000000 in
set_option maxRecDepth 100000 in
theorem w_X7_joined {x : Cx} {g : Gb} {E : Int32 → Prop} (C : CF x g RX7 cX7_joined 5 (rmk 2 23))  {a1 : Int32} {σ : WD} (hE : ∀ (a : Int32), E a → ∀ pc lv, decode cX7_joined pc = .ok (.ireturn, 1) → WW x g 5 0 0 pc lv [.int a] σ) {t : Int32} (h : f_X7_joined a1 σ = some t) (ht : E t) : WW x g 5 0 0 0 [(0, .ref (adr g 29)), (1, .int a1)] [] σ := by
  unfold f_X7_joined at h
  refine x_iconst C (v := 1) dX7_joined_0 (by decide) 1 rfl ?_
  refine x_iload_n C dX7_joined_1 rfl 1 rfl 2 rfl ?_
  refine x_ishl C dX7_joined_2 3 rfl ?_
  obtain ⟨v3, e3, h⟩ := li_some h
  refine x_te e3 ?_
  refine x_istore_n C [(2, .int v3), (0, .ref (adr g 29)), (1, .int a1)] dX7_joined_3 rfl (by decide) rfl 4 rfl ?_
  refine x_iconst C (v := 0) dX7_joined_4 (by decide) 5 rfl ?_
  refine x_istore_n C [(3, .int 0), (2, .int v3), (0, .ref (adr g 29)), (1, .int a1)] dX7_joined_5 rfl (by decide) rfl 6 rfl ?_
  exact x_sub [2, 1, 0] rfl (w_X7_joined_6 C  hE h ht)
set_option maxHeartbeats 4000000 in
set_option maxRecDepth 100000 in
theorem c_X7_joined {g : Gb} {l : Launch}  {a1 : Int32} {σ : WD} {r : Int32} (h : f_X7_joined a1 σ = some r) : MC l g yX7_joined (.code yX7_joined cX7_joined 5 (some (.int))) (rmk 2 23) [.ref (adr g 29), .int a1] σ (some (.int r)) σ := by
  refine MC.of (by decide) (Nat.le_of_ble_eq_true rfl) (fun x C hl hr hq => ?_)
  subst hl
  exact w_X7_joined (E := fun z => z = r) C  (fun a he pc lv hd => by cases he; exact x_iret C hr hq hd) h rfl
set_option maxHeartbeats 4000000 in
set_option maxRecDepth 100000 in
theorem w_X7_isRing_b4 {x : Cx} {g : Gb} {E : (Int32 × Int32) ⊕ (Int32) → Prop} (C : CF x g RX7 cX7_isRing 4 (rmk 2 23))  {l1 : Int32} {l2 : Int32} {l3 : Int32} {σ : WD} (hI0 : ∀ s, E (.inl s) → WW x g 4 0 0 4 [(0, .ref (adr g 29)), (1, .int l1), (2, .int s.1), (3, .int s.2)] [] σ) (hE : ∀ (a : Int32), E (.inr a) → ∀ pc lv, narrow .boolean (.int a) = .int a → decode cX7_isRing pc = .ok (.ireturn, 1) → WW x g 4 0 0 pc lv [.int a] σ) {t : (Int32 × Int32) ⊕ (Int32)} (h : f_X7_isRing_b4 l1 l2 l3 σ = some t) (ht : E t) : WW x g 4 0 0 4 [(0, .ref (adr g 29)), (1, .int l1), (2, .int l2), (3, .int l3)] [] σ := by
  unfold f_X7_isRing_b4 at h
  refine x_iload_n C dX7_isRing_4 rfl 3 rfl 5 rfl ?_
  refine x_aload_n C dX7_isRing_5 rfl 0 rfl 6 rfl ?_
  refine gf_759_29 C dX7_isRing_6 9 rfl ?_
  refine x_icmp_ge C dX7_isRing_9 56 (by decide) 12 rfl (fun hc => ?_) (fun hc => ?_)
  · have h := ip hc h
    refine x_iload_n C dX7_isRing_56 rfl 2 rfl 57 rfl ?_
    obtain ⟨hnb, h⟩ := gb_some h
    cases h
    exact hE _ ht 57 _ hnb dX7_isRing_57
  · have h := iq hc h
    refine x_iload_n C dX7_isRing_12 rfl 2 rfl 13 rfl ?_
    refine x_if_eq C dX7_isRing_13 48 (by decide) 16 rfl (fun hc => ?_) (fun hc => ?_)
    · have h := ip hc h
      refine x_iconst C (v := 0) dX7_isRing_48 (by decide) 49 rfl ?_
      refine x_istore_n C [(2, .int 0), (0, .ref (adr g 29)), (1, .int l1), (3, .int l3)] dX7_isRing_49 rfl (by decide) rfl 50 rfl ?_
      refine x_iinc C [(3, .int (l3 + 1)), (2, .int 0), (0, .ref (adr g 29)), (1, .int l1)] dX7_isRing_50 3 rfl rfl (by decide) rfl 53 rfl ?_
      refine x_goto C dX7_isRing_53 4 (by decide) ?_
      cases h
      exact x_sub [2, 3, 1, 0] rfl (hI0 (0, (l3 + 1)) ht)
    · have h := iq hc h
      refine x_iload_n C dX7_isRing_16 rfl 1 rfl 17 rfl ?_
      refine x_iload_n C dX7_isRing_17 rfl 3 rfl 18 rfl ?_
      obtain ⟨r18, h18, h⟩ := bv_some h
      refine x_callS C [.int l1, .int l3] (c_X7_has  h18) mi_X7_has q_839 rfl ⟨rfl, rfl⟩ ⟨Nat.le_of_ble_eq_true rfl, Nat.le_of_ble_eq_true rfl⟩ ⟨Nat.zero_le _, Nat.zero_le _⟩ _ rfl (Nat.le_of_ble_eq_true rfl) dX7_isRing_18 21 rfl ?_
      refine x_if_eq C dX7_isRing_21 44 (by decide) 24 rfl (fun hc => ?_) (fun hc => ?_)
      · have h := ip hc h
        refine x_iconst C (v := 1) dX7_isRing_44 (by decide) 45 rfl ?_
        refine x_goto C dX7_isRing_45 49 (by decide) ?_
        refine x_istore_n C [(2, .int 1), (0, .ref (adr g 29)), (1, .int l1), (3, .int l3)] dX7_isRing_49 rfl (by decide) rfl 50 rfl ?_
        refine x_iinc C [(3, .int (l3 + 1)), (2, .int 1), (0, .ref (adr g 29)), (1, .int l1)] dX7_isRing_50 3 rfl rfl (by decide) rfl 53 rfl ?_
        refine x_goto C dX7_isRing_53 4 (by decide) ?_
        cases h
        exact x_sub [2, 3, 1, 0] rfl (hI0 (1, (l3 + 1)) ht)
      · have h := iq hc h
        refine x_aload_n C dX7_isRing_24 rfl 0 rfl 25 rfl ?_
        refine gf_761_29 C dX7_isRing_25 28 rfl ?_
        refine x_iload_n C dX7_isRing_28 rfl 3 rfl 29 rfl ?_
        obtain ⟨hin, h⟩ := gi_some h
        refine x_iald C 31 (gt_31 g _) hin dX7_isRing_29 30 rfl ?_
        refine x_iconst C (v := -1) dX7_isRing_30 (by decide) 31 rfl ?_
        refine x_icmp_eq C dX7_isRing_31 48 (by decide) 34 rfl (fun hc => ?_) (fun hc => ?_)
        · have h := ip hc h
          refine x_iconst C (v := 0) dX7_isRing_48 (by decide) 49 rfl ?_
          refine x_istore_n C [(2, .int 0), (0, .ref (adr g 29)), (1, .int l1), (3, .int l3)] dX7_isRing_49 rfl (by decide) rfl 50 rfl ?_
          refine x_iinc C [(3, .int (l3 + 1)), (2, .int 0), (0, .ref (adr g 29)), (1, .int l1)] dX7_isRing_50 3 rfl rfl (by decide) rfl 53 rfl ?_
          refine x_goto C dX7_isRing_53 4 (by decide) ?_
          cases h
          exact x_sub [2, 3, 1, 0] rfl (hI0 (0, (l3 + 1)) ht)
        · have h := iq hc h
          refine x_aload_n C dX7_isRing_34 rfl 0 rfl 35 rfl ?_
          refine gf_768_29 C dX7_isRing_35 38 rfl ?_
          refine x_iload_n C dX7_isRing_38 rfl 3 rfl 39 rfl ?_
          obtain ⟨hin, h⟩ := gi_some h
          refine x_iald C 36 (gt_36 g _) hin dX7_isRing_39 40 rfl ?_
          refine x_iconst C (v := -1) dX7_isRing_40 (by decide) 41 rfl ?_
          refine x_icmp_eq C dX7_isRing_41 48 (by decide) 44 rfl (fun hc => ?_) (fun hc => ?_)
          · have h := ip hc h
            refine x_iconst C (v := 0) dX7_isRing_48 (by decide) 49 rfl ?_
            refine x_istore_n C [(2, .int 0), (0, .ref (adr g 29)), (1, .int l1), (3, .int l3)] dX7_isRing_49 rfl (by decide) rfl 50 rfl ?_
            refine x_iinc C [(3, .int (l3 + 1)), (2, .int 0), (0, .ref (adr g 29)), (1, .int l1)] dX7_isRing_50 3 rfl rfl (by decide) rfl 53 rfl ?_
            refine x_goto C dX7_isRing_53 4 (by decide) ?_
            cases h
            exact x_sub [2, 3, 1, 0] rfl (hI0 (0, (l3 + 1)) ht)
          · have h := iq hc h
            refine x_iconst C (v := 1) dX7_isRing_44 (by decide) 45 rfl ?_
            refine x_goto C dX7_isRing_45 49 (by decide) ?_
            refine x_istore_n C [(2, .int 1), (0, .ref (adr g 29)), (1, .int l1), (3, .int l3)] dX7_isRing_49 rfl (by decide) rfl 50 rfl ?_
            refine x_iinc C [(3, .int (l3 + 1)), (2, .int 1), (0, .ref (adr g 29)), (1, .int l1)] dX7_isRing_50 3 rfl rfl (by decide) rfl 53 rfl ?_
            refine x_goto C dX7_isRing_53 4 (by decide) ?_
            cases h
            exact x_sub [2, 3, 1, 0] rfl (hI0 (1, (l3 + 1)) ht)
set_option maxHeartbeats 4000000 in
set_option maxRecDepth 100000 in
theorem w_X7_isRing_4 {x : Cx} {g : Gb} {E : Int32 → Prop} (C : CF x g RX7 cX7_isRing 4 (rmk 2 23))  {l1 : Int32} {l2 : Int32} {l3 : Int32} {σ : WD} (hE : ∀ (a : Int32), E a → ∀ pc lv, narrow .boolean (.int a) = .int a → decode cX7_isRing pc = .ok (.ireturn, 1) → WW x g 4 0 0 pc lv [.int a] σ) {t : Int32} (h : f_X7_isRing_4 l1 l2 l3 σ = some t) (ht : E t) : WW x g 4 0 0 4 [(0, .ref (adr g 29)), (1, .int l1), (2, .int l2), (3, .int l3)] [] σ := by
  unfold f_X7_isRing_4 at h
  exact lp_ind (fun s : Int32 × Int32 => WW x g 4 0 0 4 [(0, .ref (adr g 29)), (1, .int l1), (2, .int s.1), (3, .int s.2)] [] σ) E h ht (fun s y hb hy => w_X7_isRing_b4 (E := Sum.elim (fun s : Int32 × Int32 => WW x g 4 0 0 4 [(0, .ref (adr g 29)), (1, .int l1), (2, .int s.1), (3, .int s.2)] [] σ) E) C  (fun _ h => h)  hE hb hy)
set_option maxHeartbeats 4000000 in
set_option maxRecDepth 100000 in
theorem w_X7_isRing {x : Cx} {g : Gb} {E : Int32 → Prop} (C : CF x g RX7 cX7_isRing 4 (rmk 2 23))  {a1 : Int32} {σ : WD} (hE : ∀ (a : Int32), E a → ∀ pc lv, narrow .boolean (.int a) = .int a → decode cX7_isRing pc = .ok (.ireturn, 1) → WW x g 4 0 0 pc lv [.int a] σ) {t : Int32} (h : f_X7_isRing a1 σ = some t) (ht : E t) : WW x g 4 0 0 0 [(0, .ref (adr g 29)), (1, .int a1)] [] σ := by
  unfold f_X7_isRing at h
  refine x_iconst C (v := 1) dX7_isRing_0 (by decide) 1 rfl ?_
  refine x_istore_n C [(2, .int 1), (0, .ref (adr g 29)), (1, .int a1)] dX7_isRing_1 rfl (by decide) rfl 2 rfl ?_
  refine x_iconst C (v := 0) dX7_isRing_2 (by decide) 3 rfl ?_
  refine x_istore_n C [(3, .int 0), (2, .int 1), (0, .ref (adr g 29)), (1, .int a1)] dX7_isRing_3 rfl (by decide) rfl 4 rfl ?_
  exact x_sub [2, 3, 1, 0] rfl (w_X7_isRing_4 C  hE h ht)
set_option maxHeartbeats 4000000 in
set_option maxRecDepth 100000 in
theorem c_X7_isRing {g : Gb} {l : Launch}  {a1 : Int32} {σ : WD} {r : Int32} (h : f_X7_isRing a1 σ = some r) : MC l g yX7_isRing (.code yX7_isRing cX7_isRing 4 (some (.boolean))) (rmk 2 23) [.ref (adr g 29), .int a1] σ (some (.int r)) σ := by
  refine MC.of (by decide) (Nat.le_of_ble_eq_true rfl) (fun x C hl hr hq => ?_)
  subst hl
  exact w_X7_isRing (E := fun z => z = r) C  (fun a he pc lv hn hd => by cases he; exact x_zret C hr hq hn hd) h rfl
set_option maxHeartbeats 4000000 in
set_option maxRecDepth 100000 in
theorem w_X7_differenceNow_68 {x : Cx} {g : Gb} {E : (Int32 × Int32 × Int32) ⊕ (Int32) → Prop} (C : CF x g RX7 cX7_differenceNow 6 (rmk 3 48))  {l1 : Int32} {l2 : Int32} {l4 : Int32} {s0 : Int32} {s1 : Int32} {s2 : Int32} {σ : WD} (hI0 : ∀ s, E (.inl s) → WW x g 6 0 0 10 [(0, .ref (adr g 29)), (1, .int l1), (2, .int s.1), (3, .int s.2.1), (4, .int s.2.2)] [] σ) (hE : ∀ (a : Int32), E (.inr a) → ∀ pc lv, decode cX7_differenceNow pc = .ok (.ireturn, 1) → WW x g 6 0 0 pc lv [.int a] σ) {t : (Int32 × Int32 × Int32) ⊕ (Int32)} (h : f_X7_differenceNow_68 l1 l2 l4 s0 s1 s2 σ = some t) (ht : E t) : WW x g 6 0 0 68 [(0, .ref (adr g 29)), (1, .int l1), (2, .int l2), (4, .int l4)] [.int s0, .int s1, .int s2] σ := by
  unfold f_X7_differenceNow_68 at h
  refine x_icmp_ne C dX7_differenceNow_68 75 (by decide) 71 rfl (fun hc => ?_) (fun hc => ?_)
  · have h := iq hc h
    refine x_iconst C (v := 0) dX7_differenceNow_75 (by decide) 76 rfl ?_
    refine x_iadd C dX7_differenceNow_76 77 rfl ?_
    refine x_istore_n C [(3, .int (s2 + 0)), (0, .ref (adr g 29)), (1, .int l1), (2, .int l2), (4, .int l4)] dX7_differenceNow_77 rfl (by decide) rfl 78 rfl ?_
    refine x_iinc C [(4, .int (l4 + 1)), (3, .int (s2 + 0)), (0, .ref (adr g 29)), (1, .int l1), (2, .int l2)] dX7_differenceNow_78 4 rfl rfl (by decide) rfl 81 rfl ?_
    refine x_goto C dX7_differenceNow_81 10 (by decide) ?_
    cases h
    exact x_sub [2, 3, 4, 1, 0] rfl (hI0 (l2, (s2 + 0), (l4 + 1)) ht)
  · have h := ip hc h
    refine x_iconst C (v := 1) dX7_differenceNow_71 (by decide) 72 rfl ?_
    refine x_goto C dX7_differenceNow_72 76 (by decide) ?_
    refine x_iadd C dX7_differenceNow_76 77 rfl ?_
    refine x_istore_n C [(3, .int (s2 + 1)), (0, .ref (adr g 29)), (1, .int l1), (2, .int l2), (4, .int l4)] dX7_differenceNow_77 rfl (by decide) rfl 78 rfl ?_
    refine x_iinc C [(4, .int (l4 + 1)), (3, .int (s2 + 1)), (0, .ref (adr g 29)), (1, .int l1), (2, .int l2)] dX7_differenceNow_78 4 rfl rfl (by decide) rfl 81 rfl ?_
    refine x_goto C dX7_differenceNow_81 10 (by decide) ?_
    cases h
    exact x_sub [2, 3, 4, 1, 0] rfl (hI0 (l2, (s2 + 1), (l4 + 1)) ht)
set_option maxHeartbeats 4000000 in
set_option maxRecDepth 100000 in
theorem w_X7_differenceNow_b10 {x : Cx} {g : Gb} {E : (Int32 × Int32 × Int32) ⊕ (Int32) → Prop} (C : CF x g RX7 cX7_differenceNow 6 (rmk 3 48))  {l1 : Int32} {l2 : Int32} {l3 : Int32} {l4 : Int32} {σ : WD} (hI0 : ∀ s, E (.inl s) → WW x g 6 0 0 10 [(0, .ref (adr g 29)), (1, .int l1), (2, .int s.1), (3, .int s.2.1), (4, .int s.2.2)] [] σ) (hE : ∀ (a : Int32), E (.inr a) → ∀ pc lv, decode cX7_differenceNow pc = .ok (.ireturn, 1) → WW x g 6 0 0 pc lv [.int a] σ) {t : (Int32 × Int32 × Int32) ⊕ (Int32)} (h : f_X7_differenceNow_b10 l1 l2 l3 l4 σ = some t) (ht : E t) : WW x g 6 0 0 10 [(0, .ref (adr g 29)), (1, .int l1), (2, .int l2), (3, .int l3), (4, .int l4)] [] σ := by
  unfold f_X7_differenceNow_b10 at h
  refine x_iload C dX7_differenceNow_10 4 rfl 12 rfl ?_
  refine x_aload_n C dX7_differenceNow_12 rfl 0 rfl 13 rfl ?_
  refine gf_759_29 C dX7_differenceNow_13 16 rfl ?_
  refine x_icmp_ge C dX7_differenceNow_16 84 (by decide) 19 rfl (fun hc => ?_) (fun hc => ?_)
  · have h := ip hc h
    refine x_iload_n C dX7_differenceNow_84 rfl 3 rfl 85 rfl ?_
    cases h
    exact hE _ ht 85 _ dX7_differenceNow_85
  · have h := iq hc h
    refine x_iload_n C dX7_differenceNow_19 rfl 2 rfl 20 rfl ?_
    refine x_iload C dX7_differenceNow_20 4 rfl 22 rfl ?_
    obtain ⟨r22, h22, h⟩ := bv_some h
    refine x_callS C [.int l2, .int l4] (c_X7_has  h22) mi_X7_has q_839 rfl ⟨rfl, rfl⟩ ⟨Nat.le_of_ble_eq_true rfl, Nat.le_of_ble_eq_true rfl⟩ ⟨Nat.zero_le _, Nat.zero_le _⟩ _ rfl (Nat.le_of_ble_eq_true rfl) dX7_differenceNow_22 25 rfl ?_
    refine x_if_eq C dX7_differenceNow_25 78 (by decide) 28 rfl (fun hc => ?_) (fun hc => ?_)
    · have h := ip hc h
      refine x_iinc C [(4, .int (l4 + 1)), (0, .ref (adr g 29)), (1, .int l1), (2, .int l2), (3, .int l3)] dX7_differenceNow_78 4 rfl rfl (by decide) rfl 81 rfl ?_
      refine x_goto C dX7_differenceNow_81 10 (by decide) ?_
      cases h
      exact x_sub [1, 2, 3, 4, 0] rfl (hI0 (l2, l3, (l4 + 1)) ht)
    · have h := iq hc h
      refine x_aload_n C dX7_differenceNow_28 rfl 0 rfl 29 rfl ?_
      refine x_iload C dX7_differenceNow_29 4 rfl 31 rfl ?_
      obtain ⟨r31, h31, h⟩ := bv_some h
      refine x_callV C 29 [.int l4] (c_X7_differs  h31) mi_X7_differs (gt_29 g _) rfl q_1065 rfl ⟨rfl, rfl⟩ ⟨Nat.le_of_ble_eq_true rfl, Nat.le_of_ble_eq_true rfl⟩ ⟨Nat.zero_le _, Nat.zero_le _⟩ _ rfl (Nat.le_of_ble_eq_true rfl) dX7_differenceNow_31 34 rfl ?_
      refine x_if_eq C dX7_differenceNow_34 78 (by decide) 37 rfl (fun hc => ?_) (fun hc => ?_)
      · have h := ip hc h
        refine x_iinc C [(4, .int (l4 + 1)), (0, .ref (adr g 29)), (1, .int l1), (2, .int l2), (3, .int l3)] dX7_differenceNow_78 4 rfl rfl (by decide) rfl 81 rfl ?_
        refine x_goto C dX7_differenceNow_81 10 (by decide) ?_
        cases h
        exact x_sub [1, 2, 3, 4, 0] rfl (hI0 (l2, l3, (l4 + 1)) ht)
      · have h := iq hc h
        refine x_aload_n C dX7_differenceNow_37 rfl 0 rfl 38 rfl ?_
        refine x_iload C dX7_differenceNow_38 4 rfl 40 rfl ?_
        obtain ⟨r40, h40, h⟩ := bv_some h
        refine x_callV C 29 [.int l4] (c_X7_joined  h40) mi_X7_joined (gt_29 g _) rfl q_1069 rfl ⟨rfl, rfl⟩ ⟨Nat.le_of_ble_eq_true rfl, Nat.le_of_ble_eq_true rfl⟩ ⟨Nat.zero_le _, Nat.zero_le _⟩ _ rfl (Nat.le_of_ble_eq_true rfl) dX7_differenceNow_40 43 rfl ?_
        refine x_istore C [(5, .int r40), (0, .ref (adr g 29)), (1, .int l1), (2, .int l2), (3, .int l3), (4, .int l4)] dX7_differenceNow_43 (by decide) rfl 45 rfl ?_
        refine x_iload_n C dX7_differenceNow_45 rfl 3 rfl 46 rfl ?_
        refine x_iload C dX7_differenceNow_46 0 rfl 48 rfl ?_
        refine x_iconst C (v := -1) dX7_differenceNow_48 (by decide) 49 rfl ?_
        refine x_ixor C dX7_differenceNow_49 50 rfl ?_
        refine x_iand C dX7_differenceNow_50 51 rfl ?_
        obtain ⟨v51, e51, h⟩ := li_some h
        refine x_te e51 ?_
        refine x_istore_n C [(2, .int v51), (5, .int r40), (0, .ref (adr g 29)), (1, .int l1), (3, .int l3), (4, .int l4)] dX7_differenceNow_51 rfl (by decide) rfl 52 rfl ?_
        refine x_iload_n C dX7_differenceNow_52 rfl 4 rfl 53 rfl ?_
        refine x_aload_n C dX7_differenceNow_53 rfl 2 rfl 54 rfl ?_
        refine x_iload C dX7_differenceNow_54 1 rfl 56 rfl ?_
        obtain ⟨r56, h56, h⟩ := bv_some h
        refine x_callV C 29 [.int r40] (c_X7_isRing  h56) mi_X7_isRing (gt_29 g _) rfl q_1073 rfl ⟨rfl, rfl⟩ ⟨Nat.le_of_ble_eq_true rfl, Nat.le_of_ble_eq_true rfl⟩ ⟨Nat.zero_le _, Nat.zero_le _⟩ _ rfl (Nat.le_of_ble_eq_true rfl) dX7_differenceNow_56 59 rfl ?_
        refine x_iload_n C dX7_differenceNow_59 rfl 3 rfl 60 rfl ?_
        refine x_if_ne C dX7_differenceNow_60 67 (by decide) 63 rfl (fun hc => ?_) (fun hc => ?_)
        · have h := iq hc h
          refine x_iconst C (v := 0) dX7_differenceNow_67 (by decide) 68 rfl ?_
          exact x_sub [2, 3, 0, 5] rfl (w_X7_differenceNow_68 C  hI0 hE h ht)
        · have h := ip hc h
          refine x_iconst C (v := 1) dX7_differenceNow_63 (by decide) 64 rfl ?_
          refine x_goto C dX7_differenceNow_64 68 (by decide) ?_
          exact x_sub [2, 3, 0, 5] rfl (w_X7_differenceNow_68 C  hI0 hE h ht)
set_option maxHeartbeats 4000000 in
set_option maxRecDepth 100000 in
theorem w_X7_differenceNow_10 {x : Cx} {g : Gb} {E : Int32 → Prop} (C : CF x g RX7 cX7_differenceNow 6 (rmk 3 48))  {l1 : Int32} {l2 : Int32} {l3 : Int32} {l4 : Int32} {σ : WD} (hE : ∀ (a : Int32), E a → ∀ pc lv, decode cX7_differenceNow pc = .ok (.ireturn, 1) → WW x g 6 0 0 pc lv [.int a] σ) {t : Int32} (h : f_X7_differenceNow_10 l1 l2 l3 l4 σ = some t) (ht : E t) : WW x g 6 0 0 10 [(0, .ref (adr g 29)), (1, .int l1), (2, .int l2), (3, .int l3), (4, .int l4)] [] σ := by
  unfold f_X7_differenceNow_10 at h
  exact lp_ind (fun s : Int32 × Int32 × Int32 => WW x g 6 0 0 10 [(0, .ref (adr g 29)), (1, .int l1), (2, .int s.1), (3, .int s.2.1), (4, .int s.2.2)] [] σ) E h ht (fun s y hb hy => w_X7_differenceNow_b10 (E := Sum.elim (fun s : Int32 × Int32 × Int32 => WW x g 6 0 0 10 [(0, .ref (adr g 29)), (1, .int l1), (2, .int s.1), (3, .int s.2.1), (4, .int s.2.2)] [] σ) E) C  (fun _ h => h)  hE hb hy)
set_option maxHeartbeats 4000000 in
set_option maxRecDepth 100000 in
theorem w_X7_differenceNow {x : Cx} {g : Gb} {E : Int32 → Prop} (C : CF x g RX7 cX7_differenceNow 6 (rmk 3 48))  {a1 : Int32} {σ : WD} (hE : ∀ (a : Int32), E a → ∀ pc lv, decode cX7_differenceNow pc = .ok (.ireturn, 1) → WW x g 6 0 0 pc lv [.int a] σ) {t : Int32} (h : f_X7_differenceNow a1 σ = some t) (ht : E t) : WW x g 6 0 0 0 [(0, .ref (adr g 29)), (1, .int a1)] [] σ := by
  unfold f_X7_differenceNow at h
  refine x_aload_n C dX7_differenceNow_0 rfl 0 rfl 1 rfl ?_
  obtain ⟨r1, h1, h⟩ := bv_some h
  refine x_callV C 29 [] (c_X7_all  h1) mi_X7_all (gt_29 g _) rfl q_930 rfl ⟨rfl, rfl⟩ ⟨Nat.le_of_ble_eq_true rfl, Nat.le_of_ble_eq_true rfl⟩ ⟨Nat.zero_le _, Nat.zero_le _⟩ _ rfl (Nat.le_of_ble_eq_true rfl) dX7_differenceNow_1 4 rfl ?_
  refine x_istore_n C [(2, .int r1), (0, .ref (adr g 29)), (1, .int a1)] dX7_differenceNow_4 rfl (by decide) rfl 5 rfl ?_
  refine x_iconst C (v := 0) dX7_differenceNow_5 (by decide) 6 rfl ?_
  refine x_istore_n C [(3, .int 0), (2, .int r1), (0, .ref (adr g 29)), (1, .int a1)] dX7_differenceNow_6 rfl (by decide) rfl 7 rfl ?_
  refine x_iconst C (v := 0) dX7_differenceNow_7 (by decide) 8 rfl ?_
  refine x_istore C [(4, .int 0), (3, .int 0), (2, .int r1), (0, .ref (adr g 29)), (1, .int a1)] dX7_differenceNow_8 (by decide) rfl 10 rfl ?_
  exact x_sub [3, 4, 2, 1, 0] rfl (w_X7_differenceNow_10 C  hE h ht)
set_option maxHeartbeats 4000000 in
set_option maxRecDepth 100000 in
theorem c_X7_differenceNow {g : Gb} {l : Launch}  {a1 : Int32} {σ : WD} {r : Int32} (h : f_X7_differenceNow a1 σ = some r) : MC l g yX7_differenceNow (.code yX7_differenceNow cX7_differenceNow 6 (some (.int))) (rmk 3 48) [.ref (adr g 29), .int a1] σ (some (.int r)) σ := by
  refine MC.of (by decide) (Nat.le_of_ble_eq_true rfl) (fun x C hl hr hq => ?_)
  subst hl
  exact w_X7_differenceNow (E := fun z => z = r) C  (fun a he pc lv hd => by cases he; exact x_iret C hr hq hd) h rfl
set_option maxHeartbeats 4000000 in
set_option maxRecDepth 100000 in
theorem w_X7_difference_15 {x : Cx} {g : Gb} {E : Int32 × WD → Prop} (C : CF x g RX7 cX7_difference 2 (rmk 4 74))  {l1 : Int32} {s0 : Int32} {σ : WD} (hE : ∀ (a : Int32) (s2 : WD), E (a, s2) → ∀ pc lv, decode cX7_difference pc = .ok (.ireturn, 1) → WW x g 2 0 0 pc lv [.int a] s2) {t : Int32 × WD} (h : f_X7_difference_15 l1 s0 σ = some t) (ht : E t) : WW x g 2 0 0 15 [(0, .ref (adr g 29)), (1, .int l1)] [.int s0, .ref (adr g 29)] σ := by
  unfold f_X7_difference_15 at h
  refine pf_758_29 C dX7_difference_15 18 rfl ?_
  obtain ⟨σ15, e15, h⟩ := lt_some h
  refine x_we e15 ?_
  refine x_aload_n C dX7_difference_18 rfl 0 rfl 19 rfl ?_
  refine gf_758_29 C dX7_difference_19 22 rfl ?_
  refine x_if_le C dX7_difference_22 27 (by decide) 25 rfl (fun hc => ?_) (fun hc => ?_)
  · have h := ip hc h
    refine x_aload_n C dX7_difference_27 rfl 0 rfl 28 rfl ?_
    obtain ⟨σ28, h28, h⟩ := bv_some h
    refine x_callV C 29 [] (c_X7_laySets  h28) mi_X7_laySets (gt_29 g _) rfl q_926 rfl ⟨rfl, rfl⟩ ⟨Nat.le_of_ble_eq_true rfl, Nat.le_of_ble_eq_true rfl⟩ ⟨Nat.zero_le _, Nat.zero_le _⟩ _ rfl (Nat.le_of_ble_eq_true rfl) dX7_difference_28 31 rfl ?_
    refine x_aload_n C dX7_difference_31 rfl 0 rfl 32 rfl ?_
    obtain ⟨σ32, h32, h⟩ := bv_some h
    refine x_callV C 29 [] (c_X7_layFirst  h32) mi_X7_layFirst (gt_29 g _) rfl q_938 rfl ⟨rfl, rfl⟩ ⟨Nat.le_of_ble_eq_true rfl, Nat.le_of_ble_eq_true rfl⟩ ⟨Nat.zero_le _, Nat.zero_le _⟩ _ rfl (Nat.le_of_ble_eq_true rfl) dX7_difference_32 35 rfl ?_
    refine x_aload_n C dX7_difference_35 rfl 0 rfl 36 rfl ?_
    refine x_iload_n C dX7_difference_36 rfl 1 rfl 37 rfl ?_
    obtain ⟨r37, h37, h⟩ := bv_some h
    refine x_callV C 29 [.int l1] (c_X7_differenceNow  h37) mi_X7_differenceNow (gt_29 g _) rfl q_1061 rfl ⟨rfl, rfl⟩ ⟨Nat.le_of_ble_eq_true rfl, Nat.le_of_ble_eq_true rfl⟩ ⟨Nat.zero_le _, Nat.zero_le _⟩ _ rfl (Nat.le_of_ble_eq_true rfl) dX7_difference_37 40 rfl ?_
    cases h
    exact hE _ _ ht 40 _ dX7_difference_40
  · have h := iq hc h
    refine x_iconst C (v := 0) dX7_difference_25 (by decide) 26 rfl ?_
    cases h
    exact hE _ _ ht 26 _ dX7_difference_26
set_option maxHeartbeats 4000000 in
set_option maxRecDepth 100000 in
theorem w_X7_difference {x : Cx} {g : Gb} {E : Int32 × WD → Prop} (C : CF x g RX7 cX7_difference 2 (rmk 4 74))  {a1 : Int32} {σ : WD} (hE : ∀ (a : Int32) (s2 : WD), E (a, s2) → ∀ pc lv, decode cX7_difference pc = .ok (.ireturn, 1) → WW x g 2 0 0 pc lv [.int a] s2) {t : Int32 × WD} (h : f_X7_difference a1 σ = some t) (ht : E t) : WW x g 2 0 0 0 [(0, .ref (adr g 29)), (1, .int a1)] [] σ := by
  unfold f_X7_difference at h
  refine x_aload_n C dX7_difference_0 rfl 0 rfl 1 rfl ?_
  refine x_iload_n C dX7_difference_1 rfl 1 rfl 2 rfl ?_
  refine x_iconst C (v := 0) dX7_difference_2 (by decide) 3 rfl ?_
  refine x_iconst C (v := 1) dX7_difference_3 (by decide) 4 rfl ?_
  obtain ⟨r4, h4, h⟩ := bv_some h
  refine x_callS C [.int a1, .int 0, .int 1] (c_X7_within  h4) mi_X7_within q_824 rfl ⟨rfl, rfl⟩ ⟨Nat.le_of_ble_eq_true rfl, Nat.le_of_ble_eq_true rfl⟩ ⟨Nat.zero_le _, Nat.zero_le _⟩ _ rfl (Nat.le_of_ble_eq_true rfl) dX7_difference_4 7 rfl ?_
  refine x_if_eq C dX7_difference_7 14 (by decide) 10 rfl (fun hc => ?_) (fun hc => ?_)
  · have h := ip hc h
    refine x_iconst C (v := 1) dX7_difference_14 (by decide) 15 rfl ?_
    exact x_sub [0, 1] rfl (w_X7_difference_15 C  hE h ht)
  · have h := iq hc h
    refine x_iconst C (v := 0) dX7_difference_10 (by decide) 11 rfl ?_
    refine x_goto C dX7_difference_11 15 (by decide) ?_
    exact x_sub [0, 1] rfl (w_X7_difference_15 C  hE h ht)
set_option maxHeartbeats 4000000 in
set_option maxRecDepth 100000 in
theorem c_X7_difference {g : Gb} {l : Launch}  {a1 : Int32} {σ : WD} {r : Int32} {σ2 : WD} (h : f_X7_difference a1 σ = some (r, σ2)) : MC l g yX7_difference (.code yX7_difference cX7_difference 2 (some (.int))) (rmk 4 74) [.ref (adr g 29), .int a1] σ (some (.int r)) σ2 := by
  refine MC.of (by decide) (Nat.le_of_ble_eq_true rfl) (fun x C hl hr hq => ?_)
  subst hl
  exact w_X7_difference (E := fun z => z = (r, σ2)) C  (fun a s2 he pc lv hd => by cases he; exact x_iret C hr hq hd) h rfl
set_option maxHeartbeats 4000000 in
set_option maxRecDepth 100000 in
theorem w_X7_meanUse_54 {x : Cx} {g : Gb} {E : Option (Int32 × Int32) × WD → Prop} (C : CF x g RX7 cX7_meanUse 4 (rmk 3 50))  {l1 : Int32} {σ : WD} (hE0 : ∀ (s2 : WD), E (none, s2) → ∀ pc lv, decode cX7_meanUse pc = .ok (.dreturn, 1) → WW x g 4 0 0 pc lv [.double FP.dconst0] s2) (hE : ∀ (a b : Int32) (s2 : WD), E (some (a, b), s2) → ∀ pc lv, decode cX7_meanUse pc = .ok (.ddiv, 1) → decode cX7_meanUse (pc + 1) = .ok (.dreturn, 1) → WW x g 4 0 0 pc lv [.double (FP.i2d b), .double (FP.i2d a)] s2) {t : Option (Int32 × Int32) × WD} (h : f_X7_meanUse_54 l1 σ = some t) (ht : E t) : WW x g 4 0 0 54 [(0, .ref (adr g 29)), (1, .int l1)] [] σ := by
  unfold f_X7_meanUse_54 at h
  refine x_aload_n C dX7_meanUse_54 rfl 0 rfl 55 rfl ?_
  obtain ⟨r55, h55, h⟩ := bv_some h
  refine x_callV C 29 [] (c_X7_edgeCount  h55) mi_X7_edgeCount (gt_29 g _) rfl q_1045 rfl ⟨rfl, rfl⟩ ⟨Nat.le_of_ble_eq_true rfl, Nat.le_of_ble_eq_true rfl⟩ ⟨Nat.zero_le _, Nat.zero_le _⟩ _ rfl (Nat.le_of_ble_eq_true rfl) dX7_meanUse_55 58 rfl ?_
  refine x_aload_n C dX7_meanUse_58 rfl 0 rfl 59 rfl ?_
  refine gf_767_29 C dX7_meanUse_59 62 rfl ?_
  refine x_aload_n C dX7_meanUse_62 rfl 0 rfl 63 rfl ?_
  obtain ⟨r63, h63, h⟩ := bv_some h
  refine x_callV C 29 [] (c_X7_all  h63) mi_X7_all (gt_29 g _) rfl q_930 rfl ⟨rfl, rfl⟩ ⟨Nat.le_of_ble_eq_true rfl, Nat.le_of_ble_eq_true rfl⟩ ⟨Nat.zero_le _, Nat.zero_le _⟩ _ rfl (Nat.le_of_ble_eq_true rfl) dX7_meanUse_63 66 rfl ?_
  obtain ⟨hin, h⟩ := gi_some h
  refine x_iald C 35 (gt_35 g _) hin dX7_meanUse_66 67 rfl ?_
  refine x_imul C dX7_meanUse_67 68 rfl ?_
  obtain ⟨v68, e68, h⟩ := li_some h
  refine x_te e68 ?_
  refine x_istore_n C [(2, .int v68), (0, .ref (adr g 29)), (1, .int l1)] dX7_meanUse_68 rfl (by decide) rfl 69 rfl ?_
  refine x_aload_n C dX7_meanUse_69 rfl 1 rfl 70 rfl ?_
  obtain ⟨r70, h70, h⟩ := bv_some h
  refine x_callV C 29 [] (c_X7_edgeCount  h70) mi_X7_edgeCount (gt_29 g _) rfl q_1045 rfl ⟨rfl, rfl⟩ ⟨Nat.le_of_ble_eq_true rfl, Nat.le_of_ble_eq_true rfl⟩ ⟨Nat.zero_le _, Nat.zero_le _⟩ _ rfl (Nat.le_of_ble_eq_true rfl) dX7_meanUse_70 73 rfl ?_
  refine x_if_ne C dX7_meanUse_73 80 (by decide) 76 rfl (fun hc => ?_) (fun hc => ?_)
  · have h := iq hc h
    refine x_iload_n C dX7_meanUse_80 rfl 2 rfl 81 rfl ?_
    refine x_i2d C dX7_meanUse_81 82 rfl ?_
    refine x_iload_n C dX7_meanUse_82 rfl 0 rfl 83 rfl ?_
    refine x_i2d C dX7_meanUse_83 84 rfl ?_
    cases h
    exact hE _ _ _ ht 84 _ dX7_meanUse_84 dX7_meanUse_85
  · have h := ip hc h
    refine x_dconst0 C dX7_meanUse_76 77 rfl ?_
    refine x_goto C dX7_meanUse_77 85 (by decide) ?_
    cases h
    exact hE0 _ ht 85 _ dX7_meanUse_85
set_option maxHeartbeats 4000000 in
set_option maxRecDepth 100000 in
theorem w_X7_meanUse_b25 {x : Cx} {g : Gb} {E : (Int32 × Int32) ⊕ ((Int32 × Int32) ⊕ (Option (Int32 × Int32) × WD)) → Prop} (C : CF x g RX7 cX7_meanUse 4 (rmk 3 50))  {l1 : Int32} {l2 : Int32} {l3 : Int32} {σ : WD} (hI0 : ∀ s, E (.inl s) → WW x g 4 0 0 25 [(0, .ref (adr g 29)), (1, .int s.1), (2, .int l2), (3, .int s.2)] [] σ) (hI1 : ∀ s, E (.inr (.inl s)) → WW x g 4 0 0 13 [(0, .ref (adr g 29)), (1, .int s.1), (2, .int s.2)] [] σ) (hE0 : ∀ (s2 : WD), E (.inr (.inr (none, s2))) → ∀ pc lv, decode cX7_meanUse pc = .ok (.dreturn, 1) → WW x g 4 0 0 pc lv [.double FP.dconst0] s2) (hE : ∀ (a b : Int32) (s2 : WD), E (.inr (.inr (some (a, b), s2))) → ∀ pc lv, decode cX7_meanUse pc = .ok (.ddiv, 1) → decode cX7_meanUse (pc + 1) = .ok (.dreturn, 1) → WW x g 4 0 0 pc lv [.double (FP.i2d b), .double (FP.i2d a)] s2) {t : (Int32 × Int32) ⊕ ((Int32 × Int32) ⊕ (Option (Int32 × Int32) × WD))} (h : f_X7_meanUse_b25 l1 l2 l3 σ = some t) (ht : E t) : WW x g 4 0 0 25 [(0, .ref (adr g 29)), (1, .int l1), (2, .int l2), (3, .int l3)] [] σ := by
  unfold f_X7_meanUse_b25 at h
  refine x_iload_n C dX7_meanUse_25 rfl 3 rfl 26 rfl ?_
  refine x_aload_n C dX7_meanUse_26 rfl 0 rfl 27 rfl ?_
  refine gf_759_29 C dX7_meanUse_27 30 rfl ?_
  refine x_icmp_ge C dX7_meanUse_30 48 (by decide) 33 rfl (fun hc => ?_) (fun hc => ?_)
  · have h := ip hc h
    refine x_iinc C [(2, .int (l2 + 1)), (0, .ref (adr g 29)), (1, .int l1), (3, .int l3)] dX7_meanUse_48 2 rfl rfl (by decide) rfl 51 rfl ?_
    refine x_goto C dX7_meanUse_51 13 (by decide) ?_
    cases h
    exact x_sub [1, 2, 0] rfl (hI1 (l1, (l2 + 1)) ht)
  · have h := iq hc h
    refine x_iload_n C dX7_meanUse_33 rfl 1 rfl 34 rfl ?_
    refine x_aload_n C dX7_meanUse_34 rfl 0 rfl 35 rfl ?_
    refine x_iload_n C dX7_meanUse_35 rfl 2 rfl 36 rfl ?_
    refine x_iload_n C dX7_meanUse_36 rfl 3 rfl 37 rfl ?_
    obtain ⟨r37, h37, h⟩ := bv_some h
    refine x_callV C 29 [.int l2, .int l3] (c_X7_using  h37) mi_X7_using (gt_29 g _) rfl q_1033 rfl ⟨rfl, rfl⟩ ⟨Nat.le_of_ble_eq_true rfl, Nat.le_of_ble_eq_true rfl⟩ ⟨Nat.zero_le _, Nat.zero_le _⟩ _ rfl (Nat.le_of_ble_eq_true rfl) dX7_meanUse_37 40 rfl ?_
    refine x_iadd C dX7_meanUse_40 41 rfl ?_
    refine x_istore_n C [(1, .int (l1 + r37)), (0, .ref (adr g 29)), (2, .int l2), (3, .int l3)] dX7_meanUse_41 rfl (by decide) rfl 42 rfl ?_
    refine x_iinc C [(3, .int (l3 + 1)), (1, .int (l1 + r37)), (0, .ref (adr g 29)), (2, .int l2)] dX7_meanUse_42 3 rfl rfl (by decide) rfl 45 rfl ?_
    refine x_goto C dX7_meanUse_45 25 (by decide) ?_
    cases h
    exact x_sub [2, 1, 3, 0] rfl (hI0 ((l1 + r37), (l3 + 1)) ht)
set_option maxHeartbeats 4000000 in
set_option maxRecDepth 100000 in
theorem w_X7_meanUse_25 {x : Cx} {g : Gb} {E : (Int32 × Int32) ⊕ (Option (Int32 × Int32) × WD) → Prop} (C : CF x g RX7 cX7_meanUse 4 (rmk 3 50))  {l1 : Int32} {l2 : Int32} {l3 : Int32} {σ : WD} (hI0 : ∀ s, E (.inl s) → WW x g 4 0 0 13 [(0, .ref (adr g 29)), (1, .int s.1), (2, .int s.2)] [] σ) (hE0 : ∀ (s2 : WD), E (.inr (none, s2)) → ∀ pc lv, decode cX7_meanUse pc = .ok (.dreturn, 1) → WW x g 4 0 0 pc lv [.double FP.dconst0] s2) (hE : ∀ (a b : Int32) (s2 : WD), E (.inr (some (a, b), s2)) → ∀ pc lv, decode cX7_meanUse pc = .ok (.ddiv, 1) → decode cX7_meanUse (pc + 1) = .ok (.dreturn, 1) → WW x g 4 0 0 pc lv [.double (FP.i2d b), .double (FP.i2d a)] s2) {t : (Int32 × Int32) ⊕ (Option (Int32 × Int32) × WD)} (h : f_X7_meanUse_25 l1 l2 l3 σ = some t) (ht : E t) : WW x g 4 0 0 25 [(0, .ref (adr g 29)), (1, .int l1), (2, .int l2), (3, .int l3)] [] σ := by
  unfold f_X7_meanUse_25 at h
  exact lp_ind (fun s : Int32 × Int32 => WW x g 4 0 0 25 [(0, .ref (adr g 29)), (1, .int s.1), (2, .int l2), (3, .int s.2)] [] σ) E h ht (fun s y hb hy => w_X7_meanUse_b25 (E := Sum.elim (fun s : Int32 × Int32 => WW x g 4 0 0 25 [(0, .ref (adr g 29)), (1, .int s.1), (2, .int l2), (3, .int s.2)] [] σ) E) C  (fun _ h => h) hI0 hE0 hE hb hy)
set_option maxHeartbeats 4000000 in
set_option maxRecDepth 100000 in
theorem w_X7_meanUse_b13 {x : Cx} {g : Gb} {E : (Int32 × Int32) ⊕ (Option (Int32 × Int32) × WD) → Prop} (C : CF x g RX7 cX7_meanUse 4 (rmk 3 50))  {l1 : Int32} {l2 : Int32} {σ : WD} (hI0 : ∀ s, E (.inl s) → WW x g 4 0 0 13 [(0, .ref (adr g 29)), (1, .int s.1), (2, .int s.2)] [] σ) (hE0 : ∀ (s2 : WD), E (.inr (none, s2)) → ∀ pc lv, decode cX7_meanUse pc = .ok (.dreturn, 1) → WW x g 4 0 0 pc lv [.double FP.dconst0] s2) (hE : ∀ (a b : Int32) (s2 : WD), E (.inr (some (a, b), s2)) → ∀ pc lv, decode cX7_meanUse pc = .ok (.ddiv, 1) → decode cX7_meanUse (pc + 1) = .ok (.dreturn, 1) → WW x g 4 0 0 pc lv [.double (FP.i2d b), .double (FP.i2d a)] s2) {t : (Int32 × Int32) ⊕ (Option (Int32 × Int32) × WD)} (h : f_X7_meanUse_b13 l1 l2 σ = some t) (ht : E t) : WW x g 4 0 0 13 [(0, .ref (adr g 29)), (1, .int l1), (2, .int l2)] [] σ := by
  unfold f_X7_meanUse_b13 at h
  refine x_iload_n C dX7_meanUse_13 rfl 2 rfl 14 rfl ?_
  refine x_aload_n C dX7_meanUse_14 rfl 0 rfl 15 rfl ?_
  refine gf_759_29 C dX7_meanUse_15 18 rfl ?_
  refine x_icmp_ge C dX7_meanUse_18 54 (by decide) 21 rfl (fun hc => ?_) (fun hc => ?_)
  · have h := ip hc h
    obtain ⟨_, hm0, rfl⟩ := mr_some h
    exact x_sub [0, 1] rfl (w_X7_meanUse_54 (E := fun r => E (.inr r)) C  hE0 hE hm0 ht)
  · have h := iq hc h
    refine x_iload_n C dX7_meanUse_21 rfl 2 rfl 22 rfl ?_
    refine x_iconst C (v := 1) dX7_meanUse_22 (by decide) 23 rfl ?_
    refine x_iadd C dX7_meanUse_23 24 rfl ?_
    refine x_istore_n C [(3, .int (l2 + 1)), (0, .ref (adr g 29)), (1, .int l1), (2, .int l2)] dX7_meanUse_24 rfl (by decide) rfl 25 rfl ?_
    exact x_sub [1, 2, 3, 0] rfl (w_X7_meanUse_25 C  hI0 hE0 hE h ht)
set_option maxHeartbeats 4000000 in
set_option maxRecDepth 100000 in
theorem w_X7_meanUse_13 {x : Cx} {g : Gb} {E : Option (Int32 × Int32) × WD → Prop} (C : CF x g RX7 cX7_meanUse 4 (rmk 3 50))  {l1 : Int32} {l2 : Int32} {σ : WD} (hE0 : ∀ (s2 : WD), E (none, s2) → ∀ pc lv, decode cX7_meanUse pc = .ok (.dreturn, 1) → WW x g 4 0 0 pc lv [.double FP.dconst0] s2) (hE : ∀ (a b : Int32) (s2 : WD), E (some (a, b), s2) → ∀ pc lv, decode cX7_meanUse pc = .ok (.ddiv, 1) → decode cX7_meanUse (pc + 1) = .ok (.dreturn, 1) → WW x g 4 0 0 pc lv [.double (FP.i2d b), .double (FP.i2d a)] s2) {t : Option (Int32 × Int32) × WD} (h : f_X7_meanUse_13 l1 l2 σ = some t) (ht : E t) : WW x g 4 0 0 13 [(0, .ref (adr g 29)), (1, .int l1), (2, .int l2)] [] σ := by
  unfold f_X7_meanUse_13 at h
  exact lp_ind (fun s : Int32 × Int32 => WW x g 4 0 0 13 [(0, .ref (adr g 29)), (1, .int s.1), (2, .int s.2)] [] σ) E h ht (fun s y hb hy => w_X7_meanUse_b13 (E := Sum.elim (fun s : Int32 × Int32 => WW x g 4 0 0 13 [(0, .ref (adr g 29)), (1, .int s.1), (2, .int s.2)] [] σ) E) C  (fun _ h => h)  hE0 hE hb hy)
set_option maxHeartbeats 4000000 in
set_option maxRecDepth 100000 in
theorem w_X7_meanUse {x : Cx} {g : Gb} {E : Option (Int32 × Int32) × WD → Prop} (C : CF x g RX7 cX7_meanUse 4 (rmk 3 50))   {σ : WD} (hE0 : ∀ (s2 : WD), E (none, s2) → ∀ pc lv, decode cX7_meanUse pc = .ok (.dreturn, 1) → WW x g 4 0 0 pc lv [.double FP.dconst0] s2) (hE : ∀ (a b : Int32) (s2 : WD), E (some (a, b), s2) → ∀ pc lv, decode cX7_meanUse pc = .ok (.ddiv, 1) → decode cX7_meanUse (pc + 1) = .ok (.dreturn, 1) → WW x g 4 0 0 pc lv [.double (FP.i2d b), .double (FP.i2d a)] s2) {t : Option (Int32 × Int32) × WD} (h : f_X7_meanUse  σ = some t) (ht : E t) : WW x g 4 0 0 0 [(0, .ref (adr g 29))] [] σ := by
  unfold f_X7_meanUse at h
  refine x_aload_n C dX7_meanUse_0 rfl 0 rfl 1 rfl ?_
  refine x_iconst C (v := 0) dX7_meanUse_1 (by decide) 2 rfl ?_
  refine pf_758_29 C dX7_meanUse_2 5 rfl ?_
  obtain ⟨σ2, e2, h⟩ := lt_some h
  refine x_we e2 ?_
  refine x_aload_n C dX7_meanUse_5 rfl 0 rfl 6 rfl ?_
  obtain ⟨σ6, h6, h⟩ := bv_some h
  refine x_callV C 29 [] (c_X7_laySets  h6) mi_X7_laySets (gt_29 g _) rfl q_926 rfl ⟨rfl, rfl⟩ ⟨Nat.le_of_ble_eq_true rfl, Nat.le_of_ble_eq_true rfl⟩ ⟨Nat.zero_le _, Nat.zero_le _⟩ _ rfl (Nat.le_of_ble_eq_true rfl) dX7_meanUse_6 9 rfl ?_
  refine x_iconst C (v := 0) dX7_meanUse_9 (by decide) 10 rfl ?_
  refine x_istore_n C [(1, .int 0), (0, .ref (adr g 29))] dX7_meanUse_10 rfl (by decide) rfl 11 rfl ?_
  refine x_iconst C (v := 0) dX7_meanUse_11 (by decide) 12 rfl ?_
  refine x_istore_n C [(2, .int 0), (1, .int 0), (0, .ref (adr g 29))] dX7_meanUse_12 rfl (by decide) rfl 13 rfl ?_
  exact x_sub [2, 1, 0] rfl (w_X7_meanUse_13 C  hE0 hE h ht)
set_option maxHeartbeats 4000000 in
set_option maxRecDepth 100000 in
theorem c_X7_meanUse {l : Launch} {g : Gb} {σ : WD} {r : Option (Int32 × Int32)} {σ2 : WD} (h : f_X7_meanUse σ = some (r, σ2)) : MCD l g yX7_meanUse (.code yX7_meanUse cX7_meanUse 4 (some (.double))) (rmk 3 50) [.ref (adr g 29)] σ r σ2 := by
  refine MCD.of (by decide) (Nat.le_of_ble_eq_true rfl) (fun x C hl hr hq => ?_)
  subst hl
  exact w_X7_meanUse (E := fun z => z = (r, σ2)) C (fun s2 he pc lv hd => by cases he; exact x_dret0 C hr hq hd) (fun a b s2 he pc lv hd hd2 => by cases he; exact x_ddret C hr hq hd hd2) h rfl
set_option maxHeartbeats 4000000 in
set_option maxRecDepth 100000 in
theorem w_X7_mix {x : Cx} {g : Gb} {E : WD → Prop} (C : CF x g RX7 cX7_mix 3 (rmk 1 1))  {a1 : Int64} {σ : WD} (hE : ∀ (s2 : WD), E s2 → ∀ pc lv, decode cX7_mix pc = .ok (.return_, 1) → WW x g 3 0 0 pc lv [] s2) {t : WD} (h : f_X7_mix a1 σ = some t) (ht : E t) : WW x g 3 0 0 0 [(0, .ref (adr g 29)), (1, .long a1)] [] σ := by
  unfold f_X7_mix at h
  refine x_aload_n C dX7_mix_0 rfl 0 rfl 1 rfl ?_
  refine x_ldc2 C dX7_mix_1 q_1090 4 rfl ?_
  refine x_aload_n C dX7_mix_4 rfl 0 rfl 5 rfl ?_
  refine gf_776_29 C dX7_mix_5 8 rfl ?_
  refine x_lmul C dX7_mix_8 9 rfl ?_
  refine x_lload_n C dX7_mix_9 rfl 1 rfl 10 rfl ?_
  refine x_ladd C dX7_mix_10 11 rfl ?_
  refine pf_776_29 C dX7_mix_11 14 rfl ?_
  obtain ⟨σ11, e11, h⟩ := lt_some h
  refine x_we e11 ?_
  cases h
  exact hE _ ht 14 _ dX7_mix_14
set_option maxHeartbeats 4000000 in
set_option maxRecDepth 100000 in
theorem c_X7_mix {g : Gb} {l : Launch}  {a1 : Int64} {σ : WD} {σ2 : WD} (h : f_X7_mix a1 σ = some σ2) : MC l g yX7_mix (.code yX7_mix cX7_mix 3 none) (rmk 1 1) [.ref (adr g 29), .long a1] σ none σ2 := by
  refine MC.of (by decide) (Nat.le_of_ble_eq_true rfl) (fun x C hl hr hq => ?_)
  subst hl
  exact w_X7_mix (E := fun z => z = σ2) C  (fun a he pc lv hd => by cases he; exact x_vret C hr hq hd) h rfl
set_option maxHeartbeats 4000000 in
set_option maxRecDepth 100000 in
theorem w_X7_mixNode_24 {x : Cx} {g : Gb} {E : WD → Prop} (C : CF x g RX7 cX7_mixNode 3 (rmk 5 97))  {l1 : Int32} {σ : WD} (hE : ∀ (s2 : WD), E s2 → ∀ pc lv, decode cX7_mixNode pc = .ok (.return_, 1) → WW x g 3 0 0 pc lv [] s2) {t : WD} (h : f_X7_mixNode_24 l1 σ = some t) (ht : E t) : WW x g 3 0 0 24 [(0, .ref (adr g 29)), (1, .int l1)] [] σ := by
  unfold f_X7_mixNode_24 at h
  refine x_aload_n C dX7_mixNode_24 rfl 0 rfl 25 rfl ?_
  refine x_aload_n C dX7_mixNode_25 rfl 0 rfl 26 rfl ?_
  refine gf_768_29 C dX7_mixNode_26 29 rfl ?_
  refine x_iload_n C dX7_mixNode_29 rfl 1 rfl 30 rfl ?_
  obtain ⟨hin, h⟩ := gi_some h
  refine x_iald C 36 (gt_36 g _) hin dX7_mixNode_30 31 rfl ?_
  refine x_i2l C dX7_mixNode_31 32 rfl ?_
  obtain ⟨σ32, h32, h⟩ := bv_some h
  refine x_callV C 29 [.long (((σ.1 36 (l1 : Int32).toNatClampNeg)).toInt64)] (c_X7_mix  h32) mi_X7_mix (gt_29 g _) rfl q_1086 rfl ⟨rfl, rfl⟩ ⟨Nat.le_of_ble_eq_true rfl, Nat.le_of_ble_eq_true rfl⟩ ⟨Nat.zero_le _, Nat.zero_le _⟩ _ rfl (Nat.le_of_ble_eq_true rfl) dX7_mixNode_32 35 rfl ?_
  refine x_aload_n C dX7_mixNode_35 rfl 0 rfl 36 rfl ?_
  refine x_iload_n C dX7_mixNode_36 rfl 1 rfl 37 rfl ?_
  obtain ⟨σ37, h37, h⟩ := bv_some h
  refine x_callV C 29 [.int l1] (c_X7_layReach  h37) mi_X7_layReach (gt_29 g _) rfl q_958 rfl ⟨rfl, rfl⟩ ⟨Nat.le_of_ble_eq_true rfl, Nat.le_of_ble_eq_true rfl⟩ ⟨Nat.zero_le _, Nat.zero_le _⟩ _ rfl (Nat.le_of_ble_eq_true rfl) dX7_mixNode_37 40 rfl ?_
  refine x_aload_n C dX7_mixNode_40 rfl 0 rfl 41 rfl ?_
  refine x_aload_n C dX7_mixNode_41 rfl 0 rfl 42 rfl ?_
  refine gf_772_29 C dX7_mixNode_42 45 rfl ?_
  refine x_i2l C dX7_mixNode_45 46 rfl ?_
  obtain ⟨σ46, h46, h⟩ := bv_some h
  refine x_callV C 29 [.long (((σ37.1 29 14)).toInt64)] (c_X7_mix  h46) mi_X7_mix (gt_29 g _) rfl q_1086 rfl ⟨rfl, rfl⟩ ⟨Nat.le_of_ble_eq_true rfl, Nat.le_of_ble_eq_true rfl⟩ ⟨Nat.zero_le _, Nat.zero_le _⟩ _ rfl (Nat.le_of_ble_eq_true rfl) dX7_mixNode_46 49 rfl ?_
  refine x_aload_n C dX7_mixNode_49 rfl 0 rfl 50 rfl ?_
  refine x_aload_n C dX7_mixNode_50 rfl 0 rfl 51 rfl ?_
  refine gf_771_29 C dX7_mixNode_51 54 rfl ?_
  refine x_i2l C dX7_mixNode_54 55 rfl ?_
  obtain ⟨σ55, h55, h⟩ := bv_some h
  refine x_callV C 29 [.long (((σ46.1 29 13)).toInt64)] (c_X7_mix  h55) mi_X7_mix (gt_29 g _) rfl q_1086 rfl ⟨rfl, rfl⟩ ⟨Nat.le_of_ble_eq_true rfl, Nat.le_of_ble_eq_true rfl⟩ ⟨Nat.zero_le _, Nat.zero_le _⟩ _ rfl (Nat.le_of_ble_eq_true rfl) dX7_mixNode_55 58 rfl ?_
  refine x_aload_n C dX7_mixNode_58 rfl 0 rfl 59 rfl ?_
  refine gf_761_29 C dX7_mixNode_59 62 rfl ?_
  refine x_iload_n C dX7_mixNode_62 rfl 1 rfl 63 rfl ?_
  obtain ⟨hin, h⟩ := gi_some h
  refine x_iald C 31 (gt_31 g _) hin dX7_mixNode_63 64 rfl ?_
  refine x_iconst C (v := -1) dX7_mixNode_64 (by decide) 65 rfl ?_
  refine x_icmp_ne C dX7_mixNode_65 78 (by decide) 68 rfl (fun hc => ?_) (fun hc => ?_)
  · have h := iq hc h
    cases h
    exact hE _ ht 78 _ dX7_mixNode_78
  · have h := ip hc h
    refine x_aload_n C dX7_mixNode_68 rfl 0 rfl 69 rfl ?_
    refine x_aload_n C dX7_mixNode_69 rfl 0 rfl 70 rfl ?_
    refine x_iload_n C dX7_mixNode_70 rfl 1 rfl 71 rfl ?_
    obtain ⟨r71, σ71, h71, h⟩ := bn_some h
    refine x_callV C 29 [.int l1] (c_X7_layWay  h71) mi_X7_layWay (gt_29 g _) rfl q_902 rfl ⟨rfl, rfl⟩ ⟨Nat.le_of_ble_eq_true rfl, Nat.le_of_ble_eq_true rfl⟩ ⟨Nat.zero_le _, Nat.zero_le _⟩ _ rfl (Nat.le_of_ble_eq_true rfl) dX7_mixNode_71 74 rfl ?_
    refine x_i2l C dX7_mixNode_74 75 rfl ?_
    obtain ⟨σ75, h75, h⟩ := bv_some h
    refine x_callV C 29 [.long ((r71).toInt64)] (c_X7_mix  h75) mi_X7_mix (gt_29 g _) rfl q_1086 rfl ⟨rfl, rfl⟩ ⟨Nat.le_of_ble_eq_true rfl, Nat.le_of_ble_eq_true rfl⟩ ⟨Nat.zero_le _, Nat.zero_le _⟩ _ rfl (Nat.le_of_ble_eq_true rfl) dX7_mixNode_75 78 rfl ?_
    cases h
    exact hE _ ht 78 _ dX7_mixNode_78
set_option maxHeartbeats 4000000 in
set_option maxRecDepth 100000 in
theorem w_X7_mixNode_b2 {x : Cx} {g : Gb} {E : (Int32 × WD) ⊕ (WD) → Prop} (C : CF x g RX7 cX7_mixNode 3 (rmk 5 97))  {l1 : Int32} {l2 : Int32} {σ : WD} (hI0 : ∀ s, E (.inl s) → WW x g 3 0 0 2 [(0, .ref (adr g 29)), (1, .int l1), (2, .int s.1)] [] s.2) (hE : ∀ (s2 : WD), E (.inr s2) → ∀ pc lv, decode cX7_mixNode pc = .ok (.return_, 1) → WW x g 3 0 0 pc lv [] s2) {t : (Int32 × WD) ⊕ (WD)} (h : f_X7_mixNode_b2 l1 l2 σ = some t) (ht : E t) : WW x g 3 0 0 2 [(0, .ref (adr g 29)), (1, .int l1), (2, .int l2)] [] σ := by
  unfold f_X7_mixNode_b2 at h
  refine x_iload_n C dX7_mixNode_2 rfl 2 rfl 3 rfl ?_
  refine x_iconst C (v := 5) dX7_mixNode_3 (by decide) 4 rfl ?_
  refine x_icmp_ge C dX7_mixNode_4 24 (by decide) 7 rfl (fun hc => ?_) (fun hc => ?_)
  · have h := ip hc h
    obtain ⟨_, hm0, rfl⟩ := mr_some h
    exact x_sub [0, 1] rfl (w_X7_mixNode_24 (E := fun r => E (.inr r)) C  hE hm0 ht)
  · have h := iq hc h
    refine x_aload_n C dX7_mixNode_7 rfl 0 rfl 8 rfl ?_
    refine x_aload_n C dX7_mixNode_8 rfl 0 rfl 9 rfl ?_
    refine x_iload_n C dX7_mixNode_9 rfl 1 rfl 10 rfl ?_
    refine x_iload_n C dX7_mixNode_10 rfl 2 rfl 11 rfl ?_
    obtain ⟨r11, h11, h⟩ := bv_some h
    refine x_callV C 29 [.int l1, .int l2] (c_X7_nodeNow  h11) mi_X7_nodeNow (gt_29 g _) rfl q_1009 rfl ⟨rfl, rfl⟩ ⟨Nat.le_of_ble_eq_true rfl, Nat.le_of_ble_eq_true rfl⟩ ⟨Nat.zero_le _, Nat.zero_le _⟩ _ rfl (Nat.le_of_ble_eq_true rfl) dX7_mixNode_11 14 rfl ?_
    refine x_i2l C dX7_mixNode_14 15 rfl ?_
    obtain ⟨σ15, h15, h⟩ := bv_some h
    refine x_callV C 29 [.long ((r11).toInt64)] (c_X7_mix  h15) mi_X7_mix (gt_29 g _) rfl q_1086 rfl ⟨rfl, rfl⟩ ⟨Nat.le_of_ble_eq_true rfl, Nat.le_of_ble_eq_true rfl⟩ ⟨Nat.zero_le _, Nat.zero_le _⟩ _ rfl (Nat.le_of_ble_eq_true rfl) dX7_mixNode_15 18 rfl ?_
    refine x_iinc C [(2, .int (l2 + 1)), (0, .ref (adr g 29)), (1, .int l1)] dX7_mixNode_18 2 rfl rfl (by decide) rfl 21 rfl ?_
    refine x_goto C dX7_mixNode_21 2 (by decide) ?_
    cases h
    exact x_sub [1, 2, 0] rfl (hI0 ((l2 + 1), σ15) ht)
set_option maxHeartbeats 4000000 in
set_option maxRecDepth 100000 in
theorem w_X7_mixNode_2 {x : Cx} {g : Gb} {E : WD → Prop} (C : CF x g RX7 cX7_mixNode 3 (rmk 5 97))  {l1 : Int32} {l2 : Int32} {σ : WD} (hE : ∀ (s2 : WD), E s2 → ∀ pc lv, decode cX7_mixNode pc = .ok (.return_, 1) → WW x g 3 0 0 pc lv [] s2) {t : WD} (h : f_X7_mixNode_2 l1 l2 σ = some t) (ht : E t) : WW x g 3 0 0 2 [(0, .ref (adr g 29)), (1, .int l1), (2, .int l2)] [] σ := by
  unfold f_X7_mixNode_2 at h
  exact lp_ind (fun s : Int32 × WD => WW x g 3 0 0 2 [(0, .ref (adr g 29)), (1, .int l1), (2, .int s.1)] [] s.2) E h ht (fun s y hb hy => w_X7_mixNode_b2 (E := Sum.elim (fun s : Int32 × WD => WW x g 3 0 0 2 [(0, .ref (adr g 29)), (1, .int l1), (2, .int s.1)] [] s.2) E) C  (fun _ h => h)  hE hb hy)
set_option maxHeartbeats 4000000 in
set_option maxRecDepth 100000 in
theorem w_X7_mixNode {x : Cx} {g : Gb} {E : WD → Prop} (C : CF x g RX7 cX7_mixNode 3 (rmk 5 97))  {a1 : Int32} {σ : WD} (hE : ∀ (s2 : WD), E s2 → ∀ pc lv, decode cX7_mixNode pc = .ok (.return_, 1) → WW x g 3 0 0 pc lv [] s2) {t : WD} (h : f_X7_mixNode a1 σ = some t) (ht : E t) : WW x g 3 0 0 0 [(0, .ref (adr g 29)), (1, .int a1)] [] σ := by
  unfold f_X7_mixNode at h
  refine x_iconst C (v := 0) dX7_mixNode_0 (by decide) 1 rfl ?_
  refine x_istore_n C [(2, .int 0), (0, .ref (adr g 29)), (1, .int a1)] dX7_mixNode_1 rfl (by decide) rfl 2 rfl ?_
  exact x_sub [1, 2, 0] rfl (w_X7_mixNode_2 C  hE h ht)
set_option maxHeartbeats 4000000 in
set_option maxRecDepth 100000 in
theorem c_X7_mixNode {g : Gb} {l : Launch}  {a1 : Int32} {σ : WD} {σ2 : WD} (h : f_X7_mixNode a1 σ = some σ2) : MC l g yX7_mixNode (.code yX7_mixNode cX7_mixNode 3 none) (rmk 5 97) [.ref (adr g 29), .int a1] σ none σ2 := by
  refine MC.of (by decide) (Nat.le_of_ble_eq_true rfl) (fun x C hl hr hq => ?_)
  subst hl
  exact w_X7_mixNode (E := fun z => z = σ2) C  (fun a he pc lv hd => by cases he; exact x_vret C hr hq hd) h rfl
set_option maxHeartbeats 4000000 in
set_option maxRecDepth 100000 in
theorem w_X7_mixPairs_b24 {x : Cx} {g : Gb} {E : (Int32 × WD) ⊕ ((Int32 × WD) ⊕ ((Int32 × WD) ⊕ (WD))) → Prop} (C : CF x g RX7 cX7_mixPairs 4 (rmk 4 73))  {l1 : Int32} {l2 : Int32} {l3 : Int32} {σ : WD} (hI0 : ∀ s, E (.inl s) → WW x g 4 0 0 24 [(0, .ref (adr g 29)), (1, .int l1), (2, .int l2), (3, .int s.1)] [] s.2) (hI1 : ∀ s, E (.inr (.inl s)) → WW x g 4 0 0 14 [(0, .ref (adr g 29)), (1, .int l1), (2, .int s.1)] [] s.2) (hI2 : ∀ s, E (.inr (.inr (.inl s))) → WW x g 4 0 0 2 [(0, .ref (adr g 29)), (1, .int s.1)] [] s.2) (hE : ∀ (s2 : WD), E (.inr (.inr (.inr s2))) → ∀ pc lv, decode cX7_mixPairs pc = .ok (.return_, 1) → WW x g 4 0 0 pc lv [] s2) {t : (Int32 × WD) ⊕ ((Int32 × WD) ⊕ ((Int32 × WD) ⊕ (WD)))} (h : f_X7_mixPairs_b24 l1 l2 l3 σ = some t) (ht : E t) : WW x g 4 0 0 24 [(0, .ref (adr g 29)), (1, .int l1), (2, .int l2), (3, .int l3)] [] σ := by
  unfold f_X7_mixPairs_b24 at h
  refine x_iload_n C dX7_mixPairs_24 rfl 3 rfl 25 rfl ?_
  refine x_iconst C (v := 3) dX7_mixPairs_25 (by decide) 26 rfl ?_
  refine x_icmp_ge C dX7_mixPairs_26 47 (by decide) 29 rfl (fun hc => ?_) (fun hc => ?_)
  · have h := ip hc h
    refine x_iinc C [(2, .int (l2 + 1)), (0, .ref (adr g 29)), (1, .int l1), (3, .int l3)] dX7_mixPairs_47 2 rfl rfl (by decide) rfl 50 rfl ?_
    refine x_goto C dX7_mixPairs_50 14 (by decide) ?_
    cases h
    exact x_sub [1, 2, 0] rfl (hI1 ((l2 + 1), σ) ht)
  · have h := iq hc h
    refine x_aload_n C dX7_mixPairs_29 rfl 0 rfl 30 rfl ?_
    refine x_aload_n C dX7_mixPairs_30 rfl 0 rfl 31 rfl ?_
    refine x_iload_n C dX7_mixPairs_31 rfl 1 rfl 32 rfl ?_
    refine x_iload_n C dX7_mixPairs_32 rfl 2 rfl 33 rfl ?_
    refine x_iload_n C dX7_mixPairs_33 rfl 3 rfl 34 rfl ?_
    obtain ⟨r34, h34, h⟩ := bv_some h
    refine x_callV C 29 [.int l1, .int l2, .int l3] (c_X7_edgeNow  h34) mi_X7_edgeNow (gt_29 g _) rfl q_1029 rfl ⟨rfl, rfl⟩ ⟨Nat.le_of_ble_eq_true rfl, Nat.le_of_ble_eq_true rfl⟩ ⟨Nat.zero_le _, Nat.zero_le _⟩ _ rfl (Nat.le_of_ble_eq_true rfl) dX7_mixPairs_34 37 rfl ?_
    refine x_i2l C dX7_mixPairs_37 38 rfl ?_
    obtain ⟨σ38, h38, h⟩ := bv_some h
    refine x_callV C 29 [.long ((r34).toInt64)] (c_X7_mix  h38) mi_X7_mix (gt_29 g _) rfl q_1086 rfl ⟨rfl, rfl⟩ ⟨Nat.le_of_ble_eq_true rfl, Nat.le_of_ble_eq_true rfl⟩ ⟨Nat.zero_le _, Nat.zero_le _⟩ _ rfl (Nat.le_of_ble_eq_true rfl) dX7_mixPairs_38 41 rfl ?_
    refine x_iinc C [(3, .int (l3 + 1)), (0, .ref (adr g 29)), (1, .int l1), (2, .int l2)] dX7_mixPairs_41 3 rfl rfl (by decide) rfl 44 rfl ?_
    refine x_goto C dX7_mixPairs_44 24 (by decide) ?_
    cases h
    exact x_sub [1, 2, 3, 0] rfl (hI0 ((l3 + 1), σ38) ht)
set_option maxHeartbeats 4000000 in
set_option maxRecDepth 100000 in
theorem w_X7_mixPairs_24 {x : Cx} {g : Gb} {E : (Int32 × WD) ⊕ ((Int32 × WD) ⊕ (WD)) → Prop} (C : CF x g RX7 cX7_mixPairs 4 (rmk 4 73))  {l1 : Int32} {l2 : Int32} {l3 : Int32} {σ : WD} (hI0 : ∀ s, E (.inl s) → WW x g 4 0 0 14 [(0, .ref (adr g 29)), (1, .int l1), (2, .int s.1)] [] s.2) (hI1 : ∀ s, E (.inr (.inl s)) → WW x g 4 0 0 2 [(0, .ref (adr g 29)), (1, .int s.1)] [] s.2) (hE : ∀ (s2 : WD), E (.inr (.inr s2)) → ∀ pc lv, decode cX7_mixPairs pc = .ok (.return_, 1) → WW x g 4 0 0 pc lv [] s2) {t : (Int32 × WD) ⊕ ((Int32 × WD) ⊕ (WD))} (h : f_X7_mixPairs_24 l1 l2 l3 σ = some t) (ht : E t) : WW x g 4 0 0 24 [(0, .ref (adr g 29)), (1, .int l1), (2, .int l2), (3, .int l3)] [] σ := by
  unfold f_X7_mixPairs_24 at h
  exact lp_ind (fun s : Int32 × WD => WW x g 4 0 0 24 [(0, .ref (adr g 29)), (1, .int l1), (2, .int l2), (3, .int s.1)] [] s.2) E h ht (fun s y hb hy => w_X7_mixPairs_b24 (E := Sum.elim (fun s : Int32 × WD => WW x g 4 0 0 24 [(0, .ref (adr g 29)), (1, .int l1), (2, .int l2), (3, .int s.1)] [] s.2) E) C  (fun _ h => h) hI0 hI1 hE hb hy)
set_option maxHeartbeats 4000000 in
set_option maxRecDepth 100000 in
theorem w_X7_mixPairs_b14 {x : Cx} {g : Gb} {E : (Int32 × WD) ⊕ ((Int32 × WD) ⊕ (WD)) → Prop} (C : CF x g RX7 cX7_mixPairs 4 (rmk 4 73))  {l1 : Int32} {l2 : Int32} {σ : WD} (hI0 : ∀ s, E (.inl s) → WW x g 4 0 0 14 [(0, .ref (adr g 29)), (1, .int l1), (2, .int s.1)] [] s.2) (hI1 : ∀ s, E (.inr (.inl s)) → WW x g 4 0 0 2 [(0, .ref (adr g 29)), (1, .int s.1)] [] s.2) (hE : ∀ (s2 : WD), E (.inr (.inr s2)) → ∀ pc lv, decode cX7_mixPairs pc = .ok (.return_, 1) → WW x g 4 0 0 pc lv [] s2) {t : (Int32 × WD) ⊕ ((Int32 × WD) ⊕ (WD))} (h : f_X7_mixPairs_b14 l1 l2 σ = some t) (ht : E t) : WW x g 4 0 0 14 [(0, .ref (adr g 29)), (1, .int l1), (2, .int l2)] [] σ := by
  unfold f_X7_mixPairs_b14 at h
  refine x_iload_n C dX7_mixPairs_14 rfl 2 rfl 15 rfl ?_
  refine x_aload_n C dX7_mixPairs_15 rfl 0 rfl 16 rfl ?_
  refine gf_759_29 C dX7_mixPairs_16 19 rfl ?_
  refine x_icmp_ge C dX7_mixPairs_19 53 (by decide) 22 rfl (fun hc => ?_) (fun hc => ?_)
  · have h := ip hc h
    refine x_iinc C [(1, .int (l1 + 1)), (0, .ref (adr g 29)), (2, .int l2)] dX7_mixPairs_53 1 rfl rfl (by decide) rfl 56 rfl ?_
    refine x_goto C dX7_mixPairs_56 2 (by decide) ?_
    cases h
    exact x_sub [1, 0] rfl (hI1 ((l1 + 1), σ) ht)
  · have h := iq hc h
    refine x_iconst C (v := 0) dX7_mixPairs_22 (by decide) 23 rfl ?_
    refine x_istore_n C [(3, .int 0), (0, .ref (adr g 29)), (1, .int l1), (2, .int l2)] dX7_mixPairs_23 rfl (by decide) rfl 24 rfl ?_
    exact x_sub [1, 2, 3, 0] rfl (w_X7_mixPairs_24 C  hI0 hI1 hE h ht)
set_option maxHeartbeats 4000000 in
set_option maxRecDepth 100000 in
theorem w_X7_mixPairs_14 {x : Cx} {g : Gb} {E : (Int32 × WD) ⊕ (WD) → Prop} (C : CF x g RX7 cX7_mixPairs 4 (rmk 4 73))  {l1 : Int32} {l2 : Int32} {σ : WD} (hI0 : ∀ s, E (.inl s) → WW x g 4 0 0 2 [(0, .ref (adr g 29)), (1, .int s.1)] [] s.2) (hE : ∀ (s2 : WD), E (.inr s2) → ∀ pc lv, decode cX7_mixPairs pc = .ok (.return_, 1) → WW x g 4 0 0 pc lv [] s2) {t : (Int32 × WD) ⊕ (WD)} (h : f_X7_mixPairs_14 l1 l2 σ = some t) (ht : E t) : WW x g 4 0 0 14 [(0, .ref (adr g 29)), (1, .int l1), (2, .int l2)] [] σ := by
  unfold f_X7_mixPairs_14 at h
  exact lp_ind (fun s : Int32 × WD => WW x g 4 0 0 14 [(0, .ref (adr g 29)), (1, .int l1), (2, .int s.1)] [] s.2) E h ht (fun s y hb hy => w_X7_mixPairs_b14 (E := Sum.elim (fun s : Int32 × WD => WW x g 4 0 0 14 [(0, .ref (adr g 29)), (1, .int l1), (2, .int s.1)] [] s.2) E) C  (fun _ h => h) hI0 hE hb hy)
set_option maxHeartbeats 4000000 in
set_option maxRecDepth 100000 in
theorem w_X7_mixPairs_b2 {x : Cx} {g : Gb} {E : (Int32 × WD) ⊕ (WD) → Prop} (C : CF x g RX7 cX7_mixPairs 4 (rmk 4 73))  {l1 : Int32} {σ : WD} (hI0 : ∀ s, E (.inl s) → WW x g 4 0 0 2 [(0, .ref (adr g 29)), (1, .int s.1)] [] s.2) (hE : ∀ (s2 : WD), E (.inr s2) → ∀ pc lv, decode cX7_mixPairs pc = .ok (.return_, 1) → WW x g 4 0 0 pc lv [] s2) {t : (Int32 × WD) ⊕ (WD)} (h : f_X7_mixPairs_b2 l1 σ = some t) (ht : E t) : WW x g 4 0 0 2 [(0, .ref (adr g 29)), (1, .int l1)] [] σ := by
  unfold f_X7_mixPairs_b2 at h
  refine x_iload_n C dX7_mixPairs_2 rfl 1 rfl 3 rfl ?_
  refine x_aload_n C dX7_mixPairs_3 rfl 0 rfl 4 rfl ?_
  refine gf_759_29 C dX7_mixPairs_4 7 rfl ?_
  refine x_icmp_ge C dX7_mixPairs_7 59 (by decide) 10 rfl (fun hc => ?_) (fun hc => ?_)
  · have h := ip hc h
    cases h
    exact hE _ ht 59 _ dX7_mixPairs_59
  · have h := iq hc h
    refine x_iload_n C dX7_mixPairs_10 rfl 1 rfl 11 rfl ?_
    refine x_iconst C (v := 1) dX7_mixPairs_11 (by decide) 12 rfl ?_
    refine x_iadd C dX7_mixPairs_12 13 rfl ?_
    refine x_istore_n C [(2, .int (l1 + 1)), (0, .ref (adr g 29)), (1, .int l1)] dX7_mixPairs_13 rfl (by decide) rfl 14 rfl ?_
    exact x_sub [1, 2, 0] rfl (w_X7_mixPairs_14 C  hI0 hE h ht)
set_option maxHeartbeats 4000000 in
set_option maxRecDepth 100000 in
theorem w_X7_mixPairs_2 {x : Cx} {g : Gb} {E : WD → Prop} (C : CF x g RX7 cX7_mixPairs 4 (rmk 4 73))  {l1 : Int32} {σ : WD} (hE : ∀ (s2 : WD), E s2 → ∀ pc lv, decode cX7_mixPairs pc = .ok (.return_, 1) → WW x g 4 0 0 pc lv [] s2) {t : WD} (h : f_X7_mixPairs_2 l1 σ = some t) (ht : E t) : WW x g 4 0 0 2 [(0, .ref (adr g 29)), (1, .int l1)] [] σ := by
  unfold f_X7_mixPairs_2 at h
  exact lp_ind (fun s : Int32 × WD => WW x g 4 0 0 2 [(0, .ref (adr g 29)), (1, .int s.1)] [] s.2) E h ht (fun s y hb hy => w_X7_mixPairs_b2 (E := Sum.elim (fun s : Int32 × WD => WW x g 4 0 0 2 [(0, .ref (adr g 29)), (1, .int s.1)] [] s.2) E) C  (fun _ h => h)  hE hb hy)
set_option maxHeartbeats 4000000 in
set_option maxRecDepth 100000 in
theorem w_X7_mixPairs {x : Cx} {g : Gb} {E : WD → Prop} (C : CF x g RX7 cX7_mixPairs 4 (rmk 4 73))   {σ : WD} (hE : ∀ (s2 : WD), E s2 → ∀ pc lv, decode cX7_mixPairs pc = .ok (.return_, 1) → WW x g 4 0 0 pc lv [] s2) {t : WD} (h : f_X7_mixPairs  σ = some t) (ht : E t) : WW x g 4 0 0 0 [(0, .ref (adr g 29))] [] σ := by
  unfold f_X7_mixPairs at h
  refine x_iconst C (v := 0) dX7_mixPairs_0 (by decide) 1 rfl ?_
  refine x_istore_n C [(1, .int 0), (0, .ref (adr g 29))] dX7_mixPairs_1 rfl (by decide) rfl 2 rfl ?_
  exact x_sub [1, 0] rfl (w_X7_mixPairs_2 C  hE h ht)
set_option maxHeartbeats 4000000 in
set_option maxRecDepth 100000 in
theorem c_X7_mixPairs {g : Gb} {l : Launch}   {σ : WD} {σ2 : WD} (h : f_X7_mixPairs  σ = some σ2) : MC l g yX7_mixPairs (.code yX7_mixPairs cX7_mixPairs 4 none) (rmk 4 73) [.ref (adr g 29)] σ none σ2 := by
  refine MC.of (by decide) (Nat.le_of_ble_eq_true rfl) (fun x C hl hr hq => ?_)
  subst hl
  exact w_X7_mixPairs (E := fun z => z = σ2) C  (fun a he pc lv hd => by cases he; exact x_vret C hr hq hd) h rfl
set_option maxHeartbeats 4000000 in
set_option maxRecDepth 100000 in
theorem w_X7_digest_143 {x : Cx} {g : Gb} {E : Int64 × WD → Prop} (C : CF x g RX7 cX7_digest 2 (rmk 6 120))   {σ : WD} (hE : ∀ (a : Int64) (s2 : WD), E (a, s2) → ∀ pc lv, decode cX7_digest pc = .ok (.lreturn, 1) → WW x g 2 0 0 pc lv [.long a] s2) {t : Int64 × WD} (h : f_X7_digest_143  σ = some t) (ht : E t) : WW x g 2 0 0 143 [(0, .ref (adr g 29))] [] σ := by
  unfold f_X7_digest_143 at h
  refine x_aload_n C dX7_digest_143 rfl 0 rfl 144 rfl ?_
  refine gf_776_29 C dX7_digest_144 147 rfl ?_
  cases h
  exact hE _ _ ht 147 _ dX7_digest_147
set_option maxHeartbeats 4000000 in
set_option maxRecDepth 100000 in
theorem w_X7_digest_b118 {x : Cx} {g : Gb} {E : (Int32 × WD) ⊕ (Int64 × WD) → Prop} (C : CF x g RX7 cX7_digest 2 (rmk 6 120))  {l1 : Int32} {σ : WD} (hI0 : ∀ s, E (.inl s) → WW x g 2 0 0 118 [(0, .ref (adr g 29)), (1, .int s.1)] [] s.2) (hE : ∀ (a : Int64) (s2 : WD), E (.inr (a, s2)) → ∀ pc lv, decode cX7_digest pc = .ok (.lreturn, 1) → WW x g 2 0 0 pc lv [.long a] s2) {t : (Int32 × WD) ⊕ (Int64 × WD)} (h : f_X7_digest_b118 l1 σ = some t) (ht : E t) : WW x g 2 0 0 118 [(0, .ref (adr g 29)), (1, .int l1)] [] σ := by
  unfold f_X7_digest_b118 at h
  refine x_iload_n C dX7_digest_118 rfl 1 rfl 119 rfl ?_
  refine x_aload_n C dX7_digest_119 rfl 0 rfl 120 rfl ?_
  refine gf_764_29 C dX7_digest_120 123 rfl ?_
  refine x_icmp_ge C dX7_digest_123 143 (by decide) 126 rfl (fun hc => ?_) (fun hc => ?_)
  · have h := ip hc h
    obtain ⟨_, hm0, rfl⟩ := mr_some h
    exact x_sub [0] rfl (w_X7_digest_143 (E := fun r => E (.inr r)) C  hE hm0 ht)
  · have h := iq hc h
    refine x_aload_n C dX7_digest_126 rfl 0 rfl 127 rfl ?_
    refine x_aload_n C dX7_digest_127 rfl 0 rfl 128 rfl ?_
    refine gf_765_29 C dX7_digest_128 131 rfl ?_
    refine x_iload_n C dX7_digest_131 rfl 1 rfl 132 rfl ?_
    obtain ⟨hin, h⟩ := gi_some h
    refine x_iald C 33 (gt_33 g _) hin dX7_digest_132 133 rfl ?_
    refine x_i2l C dX7_digest_133 134 rfl ?_
    obtain ⟨σ134, h134, h⟩ := bv_some h
    refine x_callV C 29 [.long (((σ.1 33 (l1 : Int32).toNatClampNeg)).toInt64)] (c_X7_mix  h134) mi_X7_mix (gt_29 g _) rfl q_1086 rfl ⟨rfl, rfl⟩ ⟨Nat.le_of_ble_eq_true rfl, Nat.le_of_ble_eq_true rfl⟩ ⟨Nat.zero_le _, Nat.zero_le _⟩ _ rfl (Nat.le_of_ble_eq_true rfl) dX7_digest_134 137 rfl ?_
    refine x_iinc C [(1, .int (l1 + 1)), (0, .ref (adr g 29))] dX7_digest_137 1 rfl rfl (by decide) rfl 140 rfl ?_
    refine x_goto C dX7_digest_140 118 (by decide) ?_
    cases h
    exact x_sub [1, 0] rfl (hI0 ((l1 + 1), σ134) ht)
set_option maxHeartbeats 4000000 in
set_option maxRecDepth 100000 in
theorem w_X7_digest_118 {x : Cx} {g : Gb} {E : Int64 × WD → Prop} (C : CF x g RX7 cX7_digest 2 (rmk 6 120))  {l1 : Int32} {σ : WD} (hE : ∀ (a : Int64) (s2 : WD), E (a, s2) → ∀ pc lv, decode cX7_digest pc = .ok (.lreturn, 1) → WW x g 2 0 0 pc lv [.long a] s2) {t : Int64 × WD} (h : f_X7_digest_118 l1 σ = some t) (ht : E t) : WW x g 2 0 0 118 [(0, .ref (adr g 29)), (1, .int l1)] [] σ := by
  unfold f_X7_digest_118 at h
  exact lp_ind (fun s : Int32 × WD => WW x g 2 0 0 118 [(0, .ref (adr g 29)), (1, .int s.1)] [] s.2) E h ht (fun s y hb hy => w_X7_digest_b118 (E := Sum.elim (fun s : Int32 × WD => WW x g 2 0 0 118 [(0, .ref (adr g 29)), (1, .int s.1)] [] s.2) E) C  (fun _ h => h)  hE hb hy)
set_option maxHeartbeats 4000000 in
set_option maxRecDepth 100000 in
theorem w_X7_digest_65 {x : Cx} {g : Gb} {E : Int64 × WD → Prop} (C : CF x g RX7 cX7_digest 2 (rmk 6 120))   {σ : WD} (hE : ∀ (a : Int64) (s2 : WD), E (a, s2) → ∀ pc lv, decode cX7_digest pc = .ok (.lreturn, 1) → WW x g 2 0 0 pc lv [.long a] s2) {t : Int64 × WD} (h : f_X7_digest_65  σ = some t) (ht : E t) : WW x g 2 0 0 65 [(0, .ref (adr g 29))] [] σ := by
  unfold f_X7_digest_65 at h
  refine x_aload_n C dX7_digest_65 rfl 0 rfl 66 rfl ?_
  obtain ⟨σ66, h66, h⟩ := bv_some h
  refine x_callV C 29 [] (c_X7_mixPairs  h66) mi_X7_mixPairs (gt_29 g _) rfl q_1095 rfl ⟨rfl, rfl⟩ ⟨Nat.le_of_ble_eq_true rfl, Nat.le_of_ble_eq_true rfl⟩ ⟨Nat.zero_le _, Nat.zero_le _⟩ _ rfl (Nat.le_of_ble_eq_true rfl) dX7_digest_66 69 rfl ?_
  refine x_aload_n C dX7_digest_69 rfl 0 rfl 70 rfl ?_
  refine x_aload_n C dX7_digest_70 rfl 0 rfl 71 rfl ?_
  obtain ⟨r71, h71, h⟩ := bv_some h
  refine x_callV C 29 [] (c_X7_proofNow  h71) mi_X7_proofNow (gt_29 g _) rfl q_982 rfl ⟨rfl, rfl⟩ ⟨Nat.le_of_ble_eq_true rfl, Nat.le_of_ble_eq_true rfl⟩ ⟨Nat.zero_le _, Nat.zero_le _⟩ _ rfl (Nat.le_of_ble_eq_true rfl) dX7_digest_71 74 rfl ?_
  refine x_i2l C dX7_digest_74 75 rfl ?_
  obtain ⟨σ75, h75, h⟩ := bv_some h
  refine x_callV C 29 [.long ((r71).toInt64)] (c_X7_mix  h75) mi_X7_mix (gt_29 g _) rfl q_1086 rfl ⟨rfl, rfl⟩ ⟨Nat.le_of_ble_eq_true rfl, Nat.le_of_ble_eq_true rfl⟩ ⟨Nat.zero_le _, Nat.zero_le _⟩ _ rfl (Nat.le_of_ble_eq_true rfl) dX7_digest_75 78 rfl ?_
  refine x_aload_n C dX7_digest_78 rfl 0 rfl 79 rfl ?_
  refine x_aload_n C dX7_digest_79 rfl 0 rfl 80 rfl ?_
  obtain ⟨r80, h80, h⟩ := bv_some h
  refine x_callV C 29 [] (c_X7_oddCycleNow  h80) mi_X7_oddCycleNow (gt_29 g _) rfl q_966 rfl ⟨rfl, rfl⟩ ⟨Nat.le_of_ble_eq_true rfl, Nat.le_of_ble_eq_true rfl⟩ ⟨Nat.zero_le _, Nat.zero_le _⟩ _ rfl (Nat.le_of_ble_eq_true rfl) dX7_digest_80 83 rfl ?_
  refine x_i2l C dX7_digest_83 84 rfl ?_
  obtain ⟨σ84, h84, h⟩ := bv_some h
  refine x_callV C 29 [.long ((r80).toInt64)] (c_X7_mix  h84) mi_X7_mix (gt_29 g _) rfl q_1086 rfl ⟨rfl, rfl⟩ ⟨Nat.le_of_ble_eq_true rfl, Nat.le_of_ble_eq_true rfl⟩ ⟨Nat.zero_le _, Nat.zero_le _⟩ _ rfl (Nat.le_of_ble_eq_true rfl) dX7_digest_84 87 rfl ?_
  refine x_aload_n C dX7_digest_87 rfl 0 rfl 88 rfl ?_
  refine x_aload_n C dX7_digest_88 rfl 0 rfl 89 rfl ?_
  refine x_iconst C (v := 0) dX7_digest_89 (by decide) 90 rfl ?_
  obtain ⟨r90, h90, h⟩ := bv_some h
  refine x_callV C 29 [.int 0] (c_X7_differenceNow  h90) mi_X7_differenceNow (gt_29 g _) rfl q_1061 rfl ⟨rfl, rfl⟩ ⟨Nat.le_of_ble_eq_true rfl, Nat.le_of_ble_eq_true rfl⟩ ⟨Nat.zero_le _, Nat.zero_le _⟩ _ rfl (Nat.le_of_ble_eq_true rfl) dX7_digest_90 93 rfl ?_
  refine x_i2l C dX7_digest_93 94 rfl ?_
  obtain ⟨σ94, h94, h⟩ := bv_some h
  refine x_callV C 29 [.long ((r90).toInt64)] (c_X7_mix  h94) mi_X7_mix (gt_29 g _) rfl q_1086 rfl ⟨rfl, rfl⟩ ⟨Nat.le_of_ble_eq_true rfl, Nat.le_of_ble_eq_true rfl⟩ ⟨Nat.zero_le _, Nat.zero_le _⟩ _ rfl (Nat.le_of_ble_eq_true rfl) dX7_digest_94 97 rfl ?_
  refine x_aload_n C dX7_digest_97 rfl 0 rfl 98 rfl ?_
  refine x_aload_n C dX7_digest_98 rfl 0 rfl 99 rfl ?_
  refine x_iconst C (v := 1) dX7_digest_99 (by decide) 100 rfl ?_
  obtain ⟨r100, h100, h⟩ := bv_some h
  refine x_callV C 29 [.int 1] (c_X7_differenceNow  h100) mi_X7_differenceNow (gt_29 g _) rfl q_1061 rfl ⟨rfl, rfl⟩ ⟨Nat.le_of_ble_eq_true rfl, Nat.le_of_ble_eq_true rfl⟩ ⟨Nat.zero_le _, Nat.zero_le _⟩ _ rfl (Nat.le_of_ble_eq_true rfl) dX7_digest_100 103 rfl ?_
  refine x_i2l C dX7_digest_103 104 rfl ?_
  obtain ⟨σ104, h104, h⟩ := bv_some h
  refine x_callV C 29 [.long ((r100).toInt64)] (c_X7_mix  h104) mi_X7_mix (gt_29 g _) rfl q_1086 rfl ⟨rfl, rfl⟩ ⟨Nat.le_of_ble_eq_true rfl, Nat.le_of_ble_eq_true rfl⟩ ⟨Nat.zero_le _, Nat.zero_le _⟩ _ rfl (Nat.le_of_ble_eq_true rfl) dX7_digest_104 107 rfl ?_
  refine x_aload_n C dX7_digest_107 rfl 0 rfl 108 rfl ?_
  refine x_aload_n C dX7_digest_108 rfl 0 rfl 109 rfl ?_
  refine gf_764_29 C dX7_digest_109 112 rfl ?_
  refine x_i2l C dX7_digest_112 113 rfl ?_
  obtain ⟨σ113, h113, h⟩ := bv_some h
  refine x_callV C 29 [.long (((σ104.1 29 6)).toInt64)] (c_X7_mix  h113) mi_X7_mix (gt_29 g _) rfl q_1086 rfl ⟨rfl, rfl⟩ ⟨Nat.le_of_ble_eq_true rfl, Nat.le_of_ble_eq_true rfl⟩ ⟨Nat.zero_le _, Nat.zero_le _⟩ _ rfl (Nat.le_of_ble_eq_true rfl) dX7_digest_113 116 rfl ?_
  refine x_iconst C (v := 0) dX7_digest_116 (by decide) 117 rfl ?_
  refine x_istore_n C [(1, .int 0), (0, .ref (adr g 29))] dX7_digest_117 rfl (by decide) rfl 118 rfl ?_
  exact x_sub [1, 0] rfl (w_X7_digest_118 C  hE h ht)
set_option maxHeartbeats 4000000 in
set_option maxRecDepth 100000 in
theorem w_X7_digest_b46 {x : Cx} {g : Gb} {E : (Int32 × WD) ⊕ (Int64 × WD) → Prop} (C : CF x g RX7 cX7_digest 2 (rmk 6 120))  {l1 : Int32} {σ : WD} (hI0 : ∀ s, E (.inl s) → WW x g 2 0 0 46 [(0, .ref (adr g 29)), (1, .int s.1)] [] s.2) (hE : ∀ (a : Int64) (s2 : WD), E (.inr (a, s2)) → ∀ pc lv, decode cX7_digest pc = .ok (.lreturn, 1) → WW x g 2 0 0 pc lv [.long a] s2) {t : (Int32 × WD) ⊕ (Int64 × WD)} (h : f_X7_digest_b46 l1 σ = some t) (ht : E t) : WW x g 2 0 0 46 [(0, .ref (adr g 29)), (1, .int l1)] [] σ := by
  unfold f_X7_digest_b46 at h
  refine x_iload_n C dX7_digest_46 rfl 1 rfl 47 rfl ?_
  refine x_aload_n C dX7_digest_47 rfl 0 rfl 48 rfl ?_
  refine gf_759_29 C dX7_digest_48 51 rfl ?_
  refine x_icmp_ge C dX7_digest_51 65 (by decide) 54 rfl (fun hc => ?_) (fun hc => ?_)
  · have h := ip hc h
    obtain ⟨_, hm0, rfl⟩ := mr_some h
    exact x_sub [0] rfl (w_X7_digest_65 (E := fun r => E (.inr r)) C  hE hm0 ht)
  · have h := iq hc h
    refine x_aload_n C dX7_digest_54 rfl 0 rfl 55 rfl ?_
    refine x_iload_n C dX7_digest_55 rfl 1 rfl 56 rfl ?_
    obtain ⟨σ56, h56, h⟩ := bv_some h
    refine x_callV C 29 [.int l1] (c_X7_mixNode  h56) mi_X7_mixNode (gt_29 g _) rfl q_1091 rfl ⟨rfl, rfl⟩ ⟨Nat.le_of_ble_eq_true rfl, Nat.le_of_ble_eq_true rfl⟩ ⟨Nat.zero_le _, Nat.zero_le _⟩ _ rfl (Nat.le_of_ble_eq_true rfl) dX7_digest_56 59 rfl ?_
    refine x_iinc C [(1, .int (l1 + 1)), (0, .ref (adr g 29))] dX7_digest_59 1 rfl rfl (by decide) rfl 62 rfl ?_
    refine x_goto C dX7_digest_62 46 (by decide) ?_
    cases h
    exact x_sub [1, 0] rfl (hI0 ((l1 + 1), σ56) ht)
set_option maxHeartbeats 4000000 in
set_option maxRecDepth 100000 in
theorem w_X7_digest_46 {x : Cx} {g : Gb} {E : Int64 × WD → Prop} (C : CF x g RX7 cX7_digest 2 (rmk 6 120))  {l1 : Int32} {σ : WD} (hE : ∀ (a : Int64) (s2 : WD), E (a, s2) → ∀ pc lv, decode cX7_digest pc = .ok (.lreturn, 1) → WW x g 2 0 0 pc lv [.long a] s2) {t : Int64 × WD} (h : f_X7_digest_46 l1 σ = some t) (ht : E t) : WW x g 2 0 0 46 [(0, .ref (adr g 29)), (1, .int l1)] [] σ := by
  unfold f_X7_digest_46 at h
  exact lp_ind (fun s : Int32 × WD => WW x g 2 0 0 46 [(0, .ref (adr g 29)), (1, .int s.1)] [] s.2) E h ht (fun s y hb hy => w_X7_digest_b46 (E := Sum.elim (fun s : Int32 × WD => WW x g 2 0 0 46 [(0, .ref (adr g 29)), (1, .int s.1)] [] s.2) E) C  (fun _ h => h)  hE hb hy)
set_option maxHeartbeats 4000000 in
set_option maxRecDepth 100000 in
theorem w_X7_digest_b22 {x : Cx} {g : Gb} {E : (Int32 × WD) ⊕ (Int64 × WD) → Prop} (C : CF x g RX7 cX7_digest 2 (rmk 6 120))  {l1 : Int32} {σ : WD} (hI0 : ∀ s, E (.inl s) → WW x g 2 0 0 22 [(0, .ref (adr g 29)), (1, .int s.1)] [] s.2) (hE : ∀ (a : Int64) (s2 : WD), E (.inr (a, s2)) → ∀ pc lv, decode cX7_digest pc = .ok (.lreturn, 1) → WW x g 2 0 0 pc lv [.long a] s2) {t : (Int32 × WD) ⊕ (Int64 × WD)} (h : f_X7_digest_b22 l1 σ = some t) (ht : E t) : WW x g 2 0 0 22 [(0, .ref (adr g 29)), (1, .int l1)] [] σ := by
  unfold f_X7_digest_b22 at h
  refine x_iload_n C dX7_digest_22 rfl 1 rfl 23 rfl ?_
  refine x_bipush C (v := 11) dX7_digest_23 (by decide) 25 rfl ?_
  refine x_icmp_ge C dX7_digest_25 44 (by decide) 28 rfl (fun hc => ?_) (fun hc => ?_)
  · have h := ip hc h
    refine x_iconst C (v := 0) dX7_digest_44 (by decide) 45 rfl ?_
    refine x_istore_n C [(1, .int 0), (0, .ref (adr g 29))] dX7_digest_45 rfl (by decide) rfl 46 rfl ?_
    obtain ⟨_, hm0, rfl⟩ := mr_some h
    exact x_sub [1, 0] rfl (w_X7_digest_46 (E := fun r => E (.inr r)) C  hE hm0 ht)
  · have h := iq hc h
    refine x_aload_n C dX7_digest_28 rfl 0 rfl 29 rfl ?_
    refine x_aload_n C dX7_digest_29 rfl 0 rfl 30 rfl ?_
    refine x_iload_n C dX7_digest_30 rfl 1 rfl 31 rfl ?_
    obtain ⟨r31, h31, h⟩ := bv_some h
    refine x_callV C 29 [.int l1] (c_X7_counted  h31) mi_X7_counted (gt_29 g _) rfl q_1041 rfl ⟨rfl, rfl⟩ ⟨Nat.le_of_ble_eq_true rfl, Nat.le_of_ble_eq_true rfl⟩ ⟨Nat.zero_le _, Nat.zero_le _⟩ _ rfl (Nat.le_of_ble_eq_true rfl) dX7_digest_31 34 rfl ?_
    refine x_i2l C dX7_digest_34 35 rfl ?_
    obtain ⟨σ35, h35, h⟩ := bv_some h
    refine x_callV C 29 [.long ((r31).toInt64)] (c_X7_mix  h35) mi_X7_mix (gt_29 g _) rfl q_1086 rfl ⟨rfl, rfl⟩ ⟨Nat.le_of_ble_eq_true rfl, Nat.le_of_ble_eq_true rfl⟩ ⟨Nat.zero_le _, Nat.zero_le _⟩ _ rfl (Nat.le_of_ble_eq_true rfl) dX7_digest_35 38 rfl ?_
    refine x_iinc C [(1, .int (l1 + 1)), (0, .ref (adr g 29))] dX7_digest_38 1 rfl rfl (by decide) rfl 41 rfl ?_
    refine x_goto C dX7_digest_41 22 (by decide) ?_
    cases h
    exact x_sub [1, 0] rfl (hI0 ((l1 + 1), σ35) ht)
set_option maxHeartbeats 4000000 in
set_option maxRecDepth 100000 in
theorem w_X7_digest_22 {x : Cx} {g : Gb} {E : Int64 × WD → Prop} (C : CF x g RX7 cX7_digest 2 (rmk 6 120))  {l1 : Int32} {σ : WD} (hE : ∀ (a : Int64) (s2 : WD), E (a, s2) → ∀ pc lv, decode cX7_digest pc = .ok (.lreturn, 1) → WW x g 2 0 0 pc lv [.long a] s2) {t : Int64 × WD} (h : f_X7_digest_22 l1 σ = some t) (ht : E t) : WW x g 2 0 0 22 [(0, .ref (adr g 29)), (1, .int l1)] [] σ := by
  unfold f_X7_digest_22 at h
  exact lp_ind (fun s : Int32 × WD => WW x g 2 0 0 22 [(0, .ref (adr g 29)), (1, .int s.1)] [] s.2) E h ht (fun s y hb hy => w_X7_digest_b22 (E := Sum.elim (fun s : Int32 × WD => WW x g 2 0 0 22 [(0, .ref (adr g 29)), (1, .int s.1)] [] s.2) E) C  (fun _ h => h)  hE hb hy)
set_option maxHeartbeats 4000000 in
set_option maxRecDepth 100000 in
theorem w_X7_digest {x : Cx} {g : Gb} {E : Int64 × WD → Prop} (C : CF x g RX7 cX7_digest 2 (rmk 6 120))   {σ : WD} (hE : ∀ (a : Int64) (s2 : WD), E (a, s2) → ∀ pc lv, decode cX7_digest pc = .ok (.lreturn, 1) → WW x g 2 0 0 pc lv [.long a] s2) {t : Int64 × WD} (h : f_X7_digest  σ = some t) (ht : E t) : WW x g 2 0 0 0 [(0, .ref (adr g 29))] [] σ := by
  unfold f_X7_digest at h
  refine x_aload_n C dX7_digest_0 rfl 0 rfl 1 rfl ?_
  refine x_iconst C (v := 0) dX7_digest_1 (by decide) 2 rfl ?_
  refine pf_758_29 C dX7_digest_2 5 rfl ?_
  obtain ⟨σ2, e2, h⟩ := lt_some h
  refine x_we e2 ?_
  refine x_aload_n C dX7_digest_5 rfl 0 rfl 6 rfl ?_
  refine x_ldc2 C dX7_digest_6 q_1085 9 rfl ?_
  refine pf_776_29 C dX7_digest_9 12 rfl ?_
  obtain ⟨σ9, e9, h⟩ := lt_some h
  refine x_we e9 ?_
  refine x_aload_n C dX7_digest_12 rfl 0 rfl 13 rfl ?_
  obtain ⟨σ13, h13, h⟩ := bv_some h
  refine x_callV C 29 [] (c_X7_laySets  h13) mi_X7_laySets (gt_29 g _) rfl q_926 rfl ⟨rfl, rfl⟩ ⟨Nat.le_of_ble_eq_true rfl, Nat.le_of_ble_eq_true rfl⟩ ⟨Nat.zero_le _, Nat.zero_le _⟩ _ rfl (Nat.le_of_ble_eq_true rfl) dX7_digest_13 16 rfl ?_
  refine x_aload_n C dX7_digest_16 rfl 0 rfl 17 rfl ?_
  obtain ⟨σ17, h17, h⟩ := bv_some h
  refine x_callV C 29 [] (c_X7_layFirst  h17) mi_X7_layFirst (gt_29 g _) rfl q_938 rfl ⟨rfl, rfl⟩ ⟨Nat.le_of_ble_eq_true rfl, Nat.le_of_ble_eq_true rfl⟩ ⟨Nat.zero_le _, Nat.zero_le _⟩ _ rfl (Nat.le_of_ble_eq_true rfl) dX7_digest_17 20 rfl ?_
  refine x_iconst C (v := 0) dX7_digest_20 (by decide) 21 rfl ?_
  refine x_istore_n C [(1, .int 0), (0, .ref (adr g 29))] dX7_digest_21 rfl (by decide) rfl 22 rfl ?_
  exact x_sub [1, 0] rfl (w_X7_digest_22 C  hE h ht)
set_option maxHeartbeats 4000000 in
set_option maxRecDepth 100000 in
theorem c_X7_digest {g : Gb} {l : Launch}   {σ : WD} {r : Int64} {σ2 : WD} (h : f_X7_digest  σ = some (r, σ2)) : MC l g yX7_digest (.code yX7_digest cX7_digest 2 (some (.long))) (rmk 6 120) [.ref (adr g 29)] σ (some (.long r)) σ2 := by
  refine MC.of (by decide) (Nat.le_of_ble_eq_true rfl) (fun x C hl hr hq => ?_)
  subst hl
  exact w_X7_digest (E := fun z => z = (r, σ2)) C  (fun a s2 he pc lv hd => by cases he; exact x_lret C hr hq hd) h rfl
