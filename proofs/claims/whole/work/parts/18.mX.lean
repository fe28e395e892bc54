set_option maxHeartbeats 4000000 in
set_option maxRecDepth 100000 in
theorem xw_X6_begin_11 {x : Cx} {g : Gb}  {σ : WD} {e : Nat} (C : CF x g RX6 cX6_begin 3 (rmx 7 91)) (X : CT x g σ e) (h : f_X6_begin_11  σ = some (.inr e)) : WW x g 3 0 0 11 [] [] σ := by
  unfold f_X6_begin_11 at h
  cases h
  exact x_throwS C X (by decide) q_394 q_13 (List.mem_of_getElem? (i := 0) rfl) rfl (List.mem_of_getElem? (i := 6) rfl) xg_1 xb_1 xo_1 (Nat.le_of_ble_eq_true rfl) (Nat.le_of_ble_eq_true rfl) ⟨Nat.le_of_ble_eq_true rfl, Nat.le_of_ble_eq_true rfl⟩ dX6_begin_11 dX6_begin_14 dX6_begin_15 dX6_begin_17 dX6_begin_20
set_option maxHeartbeats 4000000 in
set_option maxRecDepth 100000 in
theorem xw_X6_begin {x : Cx} {g : Gb} {a1 : Int32} {σ : WD} {e : Nat} (C : CF x g RX6 cX6_begin 3 (rmx 7 91)) (X : CT x g σ e) (h : f_X6_begin a1 σ = some (.inr e)) : WW x g 3 0 0 0 [(0, .ref (adr g 0)), (1, .int a1)] [] σ := by
  unfold f_X6_begin at h
  refine x_iload_n C dX6_begin_0 rfl 1 rfl 1 rfl ?_
  refine x_iconst C (v := 2) dX6_begin_1 (by decide) 2 rfl ?_
  refine x_icmp_lt C dX6_begin_2 11 (by decide) 5 rfl (fun hc => ?_) (fun hc => ?_)
  · have h := ip hc h
    exact x_sub [] rfl (xw_X6_begin_11 C X h)
  · have h := iq hc h
    refine x_iload_n C dX6_begin_5 rfl 1 rfl 6 rfl ?_
    refine x_bipush C (v := 12) dX6_begin_6 (by decide) 8 rfl ?_
    refine x_icmp_le C dX6_begin_8 21 (by decide) 11 rfl (fun hc => ?_) (fun hc => ?_)
    · have h := ip hc h
      exact (ml_inr h).elim
    · have h := iq hc h
      exact x_sub [] rfl (xw_X6_begin_11 C X h)
set_option maxHeartbeats 4000000 in
set_option maxRecDepth 100000 in
theorem x_X6_begin {l : Launch} {g : Gb} {a1 : Int32} {σ : WD} {e : Nat} (hl9 : l.stackTraces = false) (h : f_X6_begin a1 σ = some (.inr e)) : MX l g yX6_begin (.code yX6_begin cX6_begin 3 (some (.int))) (rmx 7 91) [.ref (adr g 0), .int a1] σ e := by
  refine MX.of hl9 (by decide) (Nat.le_of_ble_eq_true rfl) (fun x C hl X => ?_)
  subst hl
  exact xw_X6_begin C X h
set_option maxHeartbeats 4000000 in
set_option maxRecDepth 100000 in
theorem xw_X6_requireNode_15 {x : Cx} {g : Gb}  {σ : WD} {e : Nat} (C : CF x g RX6 cX6_requireNode 2 (rmx 7 91)) (X : CT x g σ e) (h : f_X6_requireNode_15  σ = some (.inr e)) : WW x g 2 0 0 15 [] [] σ := by
  unfold f_X6_requireNode_15 at h
  cases h
  exact x_throwSW C X (by decide) q_478 q_14 (List.mem_of_getElem? (i := 2) rfl) rfl (List.mem_of_getElem? (i := 1) rfl) xg_3 xb_3 xo_3 (Nat.le_of_ble_eq_true rfl) (Nat.le_of_ble_eq_true rfl) ⟨Nat.le_of_ble_eq_true rfl, Nat.le_of_ble_eq_true rfl⟩ dX6_requireNode_15 dX6_requireNode_18 dX6_requireNode_19 dX6_requireNode_22 dX6_requireNode_25
set_option maxHeartbeats 4000000 in
set_option maxRecDepth 100000 in
theorem xw_X6_requireNode {x : Cx} {g : Gb} {a1 : Int32} {σ : WD} {e : Nat} (C : CF x g RX6 cX6_requireNode 2 (rmx 7 91)) (X : CT x g σ e) (h : f_X6_requireNode a1 σ = some (.inr e)) : WW x g 2 0 0 0 [(0, .ref (adr g 0)), (1, .int a1)] [] σ := by
  unfold f_X6_requireNode at h
  refine x_iload_n C dX6_requireNode_0 rfl 1 rfl 1 rfl ?_
  refine x_if_lt C dX6_requireNode_1 15 (by decide) 4 rfl (fun hc => ?_) (fun hc => ?_)
  · have h := ip hc h
    exact x_sub [] rfl (xw_X6_requireNode_15 C X h)
  · have h := iq hc h
    refine x_iload_n C dX6_requireNode_4 rfl 1 rfl 5 rfl ?_
    refine x_aload_n C dX6_requireNode_5 rfl 0 rfl 6 rfl ?_
    refine gf_162_0 C dX6_requireNode_6 9 rfl ?_
    refine gf_35_1 C dX6_requireNode_9 12 rfl ?_
    refine x_icmp_lt C dX6_requireNode_12 26 (by decide) 15 rfl (fun hc => ?_) (fun hc => ?_)
    · have h := ip hc h
      cases h
    · have h := iq hc h
      exact x_sub [] rfl (xw_X6_requireNode_15 C X h)
set_option maxHeartbeats 4000000 in
set_option maxRecDepth 100000 in
theorem x_X6_requireNode {l : Launch} {g : Gb} {a1 : Int32} {σ : WD} {e : Nat} (hl9 : l.stackTraces = false) (h : f_X6_requireNode a1 σ = some (.inr e)) : MX l g yX6_requireNode (.code yX6_requireNode cX6_requireNode 2 none) (rmx 7 91) [.ref (adr g 0), .int a1] σ e := by
  refine MX.of hl9 (by decide) (Nat.le_of_ble_eq_true rfl) (fun x C hl X => ?_)
  subst hl
  exact xw_X6_requireNode C X h
set_option maxHeartbeats 4000000 in
set_option maxRecDepth 100000 in
theorem xw_X6_requireDifferent {x : Cx} {g : Gb} {a1 : Int32} {a2 : Int32} {σ : WD} {e : Nat} (C : CF x g RX6 cX6_requireDifferent 2 (rmx 7 91)) (X : CT x g σ e) (h : f_X6_requireDifferent a1 a2 σ = some (.inr e)) : WW x g 2 0 0 0 [(0, .int a1), (1, .int a2)] [] σ := by
  unfold f_X6_requireDifferent at h
  refine x_iload_n C dX6_requireDifferent_0 rfl 0 rfl 1 rfl ?_
  refine x_iload_n C dX6_requireDifferent_1 rfl 1 rfl 2 rfl ?_
  refine x_icmp_ne C dX6_requireDifferent_2 16 (by decide) 5 rfl (fun hc => ?_) (fun hc => ?_)
  · have h := iq hc h
    cases h
  · have h := ip hc h
    cases h
    exact x_throwSW C X (by decide) q_394 q_13 (List.mem_of_getElem? (i := 0) rfl) rfl (List.mem_of_getElem? (i := 7) rfl) xg_1 xb_1 xo_1 (Nat.le_of_ble_eq_true rfl) (Nat.le_of_ble_eq_true rfl) ⟨Nat.le_of_ble_eq_true rfl, Nat.le_of_ble_eq_true rfl⟩ dX6_requireDifferent_5 dX6_requireDifferent_8 dX6_requireDifferent_9 dX6_requireDifferent_12 dX6_requireDifferent_15
set_option maxHeartbeats 4000000 in
set_option maxRecDepth 100000 in
theorem x_X6_requireDifferent {l : Launch} {g : Gb} {a1 : Int32} {a2 : Int32} {σ : WD} {e : Nat} (hl9 : l.stackTraces = false) (h : f_X6_requireDifferent a1 a2 σ = some (.inr e)) : MX l g yX6_requireDifferent (.code yX6_requireDifferent cX6_requireDifferent 2 none) (rmx 7 91) [.int a1, .int a2] σ e := by
  refine MX.of hl9 (by decide) (Nat.le_of_ble_eq_true rfl) (fun x C hl X => ?_)
  subst hl
  exact xw_X6_requireDifferent C X h
set_option maxHeartbeats 4000000 in
set_option maxRecDepth 100000 in
theorem xw_X6_setEdge {x : Cx} {g : Gb} {a1 : Int32} {a2 : Int32} {a3 : Int32} {σ : WD} {e : Nat} (C : CF x g RX6 cX6_setEdge 5 (rmx 8 113)) (X : CT x g σ e) (h : f_X6_setEdge a1 a2 a3 σ = some (.inr e)) : WW x g 5 0 0 0 [(0, .ref (adr g 0)), (1, .int a1), (2, .int a2), (3, .int a3)] [] σ := by
  unfold f_X6_setEdge at h
  refine x_aload_n C dX6_setEdge_0 rfl 0 rfl 1 rfl ?_
  refine x_iload_n C dX6_setEdge_1 rfl 1 rfl 2 rfl ?_
  rcases bx_inr h with hx | ⟨p2, h2, h⟩
  · exact x_outV C X 0 [.int a1] (x_X6_requireNode X.1 hx) mi_X6_requireNode (gt_0 g _) rfl q_474 rfl ⟨rfl, rfl⟩ ⟨Nat.le_of_ble_eq_true rfl, Nat.le_of_ble_eq_true rfl⟩ ⟨Nat.le_of_ble_eq_true rfl, Nat.le_of_ble_eq_true rfl⟩ _ rfl (Nat.le_of_ble_eq_true rfl) dX6_setEdge_2
  refine x_callV C 0 [.int a1] (c_X6_requireNode  h2) mi_X6_requireNode (gt_0 g _) rfl q_474 rfl ⟨rfl, rfl⟩ ⟨Nat.le_of_ble_eq_true rfl, Nat.le_of_ble_eq_true rfl⟩ ⟨Nat.zero_le _, Nat.zero_le _⟩ _ rfl (Nat.le_of_ble_eq_true rfl) dX6_setEdge_2 5 rfl ?_
  refine x_aload_n C dX6_setEdge_5 rfl 0 rfl 6 rfl ?_
  refine x_iload_n C dX6_setEdge_6 rfl 2 rfl 7 rfl ?_
  rcases bx_inr h with hx | ⟨p7, h7, h⟩
  · exact x_outV C X 0 [.int a2] (x_X6_requireNode X.1 hx) mi_X6_requireNode (gt_0 g _) rfl q_474 rfl ⟨rfl, rfl⟩ ⟨Nat.le_of_ble_eq_true rfl, Nat.le_of_ble_eq_true rfl⟩ ⟨Nat.le_of_ble_eq_true rfl, Nat.le_of_ble_eq_true rfl⟩ _ rfl (Nat.le_of_ble_eq_true rfl) dX6_setEdge_7
  refine x_callV C 0 [.int a2] (c_X6_requireNode  h7) mi_X6_requireNode (gt_0 g _) rfl q_474 rfl ⟨rfl, rfl⟩ ⟨Nat.le_of_ble_eq_true rfl, Nat.le_of_ble_eq_true rfl⟩ ⟨Nat.zero_le _, Nat.zero_le _⟩ _ rfl (Nat.le_of_ble_eq_true rfl) dX6_setEdge_7 10 rfl ?_
  refine x_iload_n C dX6_setEdge_10 rfl 1 rfl 11 rfl ?_
  refine x_iload_n C dX6_setEdge_11 rfl 2 rfl 12 rfl ?_
  rcases bx_inr h with hx | ⟨p12, h12, h⟩
  · exact x_outS C X [.int a1, .int a2] (x_X6_requireDifferent X.1 hx) mi_X6_requireDifferent q_606 rfl ⟨rfl, rfl⟩ ⟨Nat.le_of_ble_eq_true rfl, Nat.le_of_ble_eq_true rfl⟩ ⟨Nat.le_of_ble_eq_true rfl, Nat.le_of_ble_eq_true rfl⟩ _ rfl (Nat.le_of_ble_eq_true rfl) dX6_setEdge_12
  refine x_callS C [.int a1, .int a2] (c_X6_requireDifferent  h12) mi_X6_requireDifferent q_606 rfl ⟨rfl, rfl⟩ ⟨Nat.le_of_ble_eq_true rfl, Nat.le_of_ble_eq_true rfl⟩ ⟨Nat.zero_le _, Nat.zero_le _⟩ _ rfl (Nat.le_of_ble_eq_true rfl) dX6_setEdge_12 15 rfl ?_
  exact (ml_inr h).elim
set_option maxHeartbeats 4000000 in
set_option maxRecDepth 100000 in
theorem x_X6_setEdge {l : Launch} {g : Gb} {a1 : Int32} {a2 : Int32} {a3 : Int32} {σ : WD} {e : Nat} (hl9 : l.stackTraces = false) (h : f_X6_setEdge a1 a2 a3 σ = some (.inr e)) : MX l g yX6_setEdge (.code yX6_setEdge cX6_setEdge 5 (some (.int))) (rmx 8 113) [.ref (adr g 0), .int a1, .int a2, .int a3] σ e := by
  refine MX.of hl9 (by decide) (Nat.le_of_ble_eq_true rfl) (fun x C hl X => ?_)
  subst hl
  exact xw_X6_setEdge C X h
set_option maxHeartbeats 4000000 in
set_option maxRecDepth 100000 in
theorem xw_X6_append_12 {x : Cx} {g : Gb}  {σ : WD} {e : Nat} (C : CF x g RX6 cX6_append 2 (rmx 7 91)) (X : CT x g σ e) (h : f_X6_append_12  σ = some (.inr e)) : WW x g 2 0 0 12 [] [] σ := by
  unfold f_X6_append_12 at h
  cases h
  exact x_throwS C X (by decide) q_394 q_13 (List.mem_of_getElem? (i := 0) rfl) rfl (List.mem_of_getElem? (i := 8) rfl) xg_1 xb_1 xo_1 (Nat.le_of_ble_eq_true rfl) (Nat.le_of_ble_eq_true rfl) ⟨Nat.le_of_ble_eq_true rfl, Nat.le_of_ble_eq_true rfl⟩ dX6_append_12 dX6_append_15 dX6_append_16 dX6_append_18 dX6_append_21
set_option maxHeartbeats 4000000 in
set_option maxRecDepth 100000 in
theorem xw_X6_append {x : Cx} {g : Gb} {a1 : Int32} {σ : WD} {e : Nat} (C : CF x g RX6 cX6_append 2 (rmx 7 91)) (X : CT x g σ e) (h : f_X6_append a1 σ = some (.inr e)) : WW x g 2 0 0 0 [(0, .ref (adr g 0)), (1, .int a1)] [] σ := by
  unfold f_X6_append at h
  refine x_iload_n C dX6_append_0 rfl 1 rfl 1 rfl ?_
  refine x_bipush C (v := 32) dX6_append_1 (by decide) 3 rfl ?_
  refine x_icmp_lt C dX6_append_3 12 (by decide) 6 rfl (fun hc => ?_) (fun hc => ?_)
  · have h := ip hc h
    exact x_sub [] rfl (xw_X6_append_12 C X h)
  · have h := iq hc h
    refine x_iload_n C dX6_append_6 rfl 1 rfl 7 rfl ?_
    refine x_bipush C (v := 126) dX6_append_7 (by decide) 9 rfl ?_
    refine x_icmp_le C dX6_append_9 22 (by decide) 12 rfl (fun hc => ?_) (fun hc => ?_)
    · have h := ip hc h
      refine x_aload_n C dX6_append_22 rfl 0 rfl 23 rfl ?_
      refine gf_164_0 C dX6_append_23 26 rfl ?_
      refine gf_76_5 C dX6_append_26 29 rfl ?_
      refine x_bipush C (v := 60) dX6_append_29 (by decide) 31 rfl ?_
      refine x_icmp_lt C dX6_append_31 44 (by decide) 34 rfl (fun hc => ?_) (fun hc => ?_)
      · have h := ip hc h
        exact (ml_inr h).elim
      · have h := iq hc h
        cases h
        exact x_throwS C X (by decide) q_529 q_17 (List.mem_of_getElem? (i := 1) rfl) rfl (List.mem_of_getElem? (i := 9) rfl) xg_2 xb_2 xo_2 (Nat.le_of_ble_eq_true rfl) (Nat.le_of_ble_eq_true rfl) ⟨Nat.le_of_ble_eq_true rfl, Nat.le_of_ble_eq_true rfl⟩ dX6_append_34 dX6_append_37 dX6_append_38 dX6_append_40 dX6_append_43
    · have h := iq hc h
      exact x_sub [] rfl (xw_X6_append_12 C X h)
set_option maxHeartbeats 4000000 in
set_option maxRecDepth 100000 in
theorem x_X6_append {l : Launch} {g : Gb} {a1 : Int32} {σ : WD} {e : Nat} (hl9 : l.stackTraces = false) (h : f_X6_append a1 σ = some (.inr e)) : MX l g yX6_append (.code yX6_append cX6_append 2 (some (.int))) (rmx 7 91) [.ref (adr g 0), .int a1] σ e := by
  refine MX.of hl9 (by decide) (Nat.le_of_ble_eq_true rfl) (fun x C hl X => ?_)
  subst hl
  exact xw_X6_append C X h
set_option maxHeartbeats 4000000 in
set_option maxRecDepth 100000 in
theorem xw_X6_load {x : Cx} {g : Gb}  {σ : WD} {e : Nat} (C : CF x g RX6 cX6_load 4 (rmx 7 91)) (X : CT x g σ e) (h : f_X6_load  σ = some (.inr e)) : WW x g 4 0 0 0 [(0, .ref (adr g 0))] [] σ := by
  unfold f_X6_load at h
  refine x_aload_n C dX6_load_0 rfl 0 rfl 1 rfl ?_
  refine gf_164_0 C dX6_load_1 4 rfl ?_
  refine x_aload_n C dX6_load_4 rfl 0 rfl 5 rfl ?_
  refine gf_162_0 C dX6_load_5 8 rfl ?_
  refine gf_35_1 C dX6_load_8 11 rfl ?_
  obtain ⟨r11, h11, h⟩ := bv_some h
  refine x_callV C 5 [.int (σ.1 1 0)] (c_X2_isComplete  h11) mi_X2_isComplete (gt_5 g _) rfl q_635 rfl ⟨rfl, rfl⟩ ⟨Nat.le_of_ble_eq_true rfl, Nat.le_of_ble_eq_true rfl⟩ ⟨Nat.zero_le _, Nat.zero_le _⟩ _ rfl (Nat.le_of_ble_eq_true rfl) dX6_load_11 14 rfl ?_
  refine x_if_ne C dX6_load_14 27 (by decide) 17 rfl (fun hc => ?_) (fun hc => ?_)
  · have h := iq hc h
    exact (ml_inr h).elim
  · have h := ip hc h
    cases h
    exact x_throwS C X (by decide) q_394 q_13 (List.mem_of_getElem? (i := 0) rfl) rfl (List.mem_of_getElem? (i := 10) rfl) xg_1 xb_1 xo_1 (Nat.le_of_ble_eq_true rfl) (Nat.le_of_ble_eq_true rfl) ⟨Nat.le_of_ble_eq_true rfl, Nat.le_of_ble_eq_true rfl⟩ dX6_load_17 dX6_load_20 dX6_load_21 dX6_load_23 dX6_load_26
set_option maxHeartbeats 4000000 in
set_option maxRecDepth 100000 in
theorem x_X6_load {l : Launch} {g : Gb}  {σ : WD} {e : Nat} (hl9 : l.stackTraces = false) (h : f_X6_load  σ = some (.inr e)) : MX l g yX6_load (.code yX6_load cX6_load 4 (some (.int))) (rmx 7 91) [.ref (adr g 0)] σ e := by
  refine MX.of hl9 (by decide) (Nat.le_of_ble_eq_true rfl) (fun x C hl X => ?_)
  subst hl
  exact xw_X6_load C X h
set_option maxHeartbeats 4000000 in
set_option maxRecDepth 100000 in
theorem xw_X6_requireExposed {x : Cx} {g : Gb} {a1 : Int32} {σ : WD} {e : Nat} (C : CF x g RX6 cX6_requireExposed 2 (rmx 7 91)) (X : CT x g σ e) (h : f_X6_requireExposed a1 σ = some (.inr e)) : WW x g 2 0 0 0 [(0, .ref (adr g 0)), (1, .int a1)] [] σ := by
  unfold f_X6_requireExposed at h
  refine x_aload_n C dX6_requireExposed_0 rfl 0 rfl 1 rfl ?_
  refine gf_163_0 C dX6_requireExposed_1 4 rfl ?_
  refine x_iload_n C dX6_requireExposed_4 rfl 1 rfl 5 rfl ?_
  obtain ⟨r5, h5, h⟩ := bv_some h
  refine x_callV C 3 [.int a1] (c_X3_isExposed  h5) mi_X3_isExposed (gt_3 g _) rfl q_222 rfl ⟨rfl, rfl⟩ ⟨Nat.le_of_ble_eq_true rfl, Nat.le_of_ble_eq_true rfl⟩ ⟨Nat.zero_le _, Nat.zero_le _⟩ _ rfl (Nat.le_of_ble_eq_true rfl) dX6_requireExposed_5 8 rfl ?_
  refine x_if_ne C dX6_requireExposed_8 22 (by decide) 11 rfl (fun hc => ?_) (fun hc => ?_)
  · have h := iq hc h
    cases h
  · have h := ip hc h
    cases h
    exact x_throwSW C X (by decide) q_529 q_17 (List.mem_of_getElem? (i := 1) rfl) rfl (List.mem_of_getElem? (i := 3) rfl) xg_2 xb_2 xo_2 (Nat.le_of_ble_eq_true rfl) (Nat.le_of_ble_eq_true rfl) ⟨Nat.le_of_ble_eq_true rfl, Nat.le_of_ble_eq_true rfl⟩ dX6_requireExposed_11 dX6_requireExposed_14 dX6_requireExposed_15 dX6_requireExposed_18 dX6_requireExposed_21
set_option maxHeartbeats 4000000 in
set_option maxRecDepth 100000 in
theorem x_X6_requireExposed {l : Launch} {g : Gb} {a1 : Int32} {σ : WD} {e : Nat} (hl9 : l.stackTraces = false) (h : f_X6_requireExposed a1 σ = some (.inr e)) : MX l g yX6_requireExposed (.code yX6_requireExposed cX6_requireExposed 2 none) (rmx 7 91) [.ref (adr g 0), .int a1] σ e := by
  refine MX.of hl9 (by decide) (Nat.le_of_ble_eq_true rfl) (fun x C hl X => ?_)
  subst hl
  exact xw_X6_requireExposed C X h
set_option maxHeartbeats 4000000 in
set_option maxRecDepth 100000 in
theorem xw_X6_match {x : Cx} {g : Gb} {a1 : Int32} {a2 : Int32} {σ : WD} {e : Nat} (C : CF x g RX6 cX6_match 3 (rmx 8 113)) (X : CT x g σ e) (h : f_X6_match a1 a2 σ = some (.inr e)) : WW x g 3 0 0 0 [(0, .ref (adr g 0)), (1, .int a1), (2, .int a2)] [] σ := by
  unfold f_X6_match at h
  refine x_aload_n C dX6_match_0 rfl 0 rfl 1 rfl ?_
  refine x_iload_n C dX6_match_1 rfl 1 rfl 2 rfl ?_
  rcases bx_inr h with hx | ⟨p2, h2, h⟩
  · exact x_outV C X 0 [.int a1] (x_X6_requireNode X.1 hx) mi_X6_requireNode (gt_0 g _) rfl q_474 rfl ⟨rfl, rfl⟩ ⟨Nat.le_of_ble_eq_true rfl, Nat.le_of_ble_eq_true rfl⟩ ⟨Nat.le_of_ble_eq_true rfl, Nat.le_of_ble_eq_true rfl⟩ _ rfl (Nat.le_of_ble_eq_true rfl) dX6_match_2
  refine x_callV C 0 [.int a1] (c_X6_requireNode  h2) mi_X6_requireNode (gt_0 g _) rfl q_474 rfl ⟨rfl, rfl⟩ ⟨Nat.le_of_ble_eq_true rfl, Nat.le_of_ble_eq_true rfl⟩ ⟨Nat.zero_le _, Nat.zero_le _⟩ _ rfl (Nat.le_of_ble_eq_true rfl) dX6_match_2 5 rfl ?_
  refine x_aload_n C dX6_match_5 rfl 0 rfl 6 rfl ?_
  refine x_iload_n C dX6_match_6 rfl 2 rfl 7 rfl ?_
  rcases bx_inr h with hx | ⟨p7, h7, h⟩
  · exact x_outV C X 0 [.int a2] (x_X6_requireNode X.1 hx) mi_X6_requireNode (gt_0 g _) rfl q_474 rfl ⟨rfl, rfl⟩ ⟨Nat.le_of_ble_eq_true rfl, Nat.le_of_ble_eq_true rfl⟩ ⟨Nat.le_of_ble_eq_true rfl, Nat.le_of_ble_eq_true rfl⟩ _ rfl (Nat.le_of_ble_eq_true rfl) dX6_match_7
  refine x_callV C 0 [.int a2] (c_X6_requireNode  h7) mi_X6_requireNode (gt_0 g _) rfl q_474 rfl ⟨rfl, rfl⟩ ⟨Nat.le_of_ble_eq_true rfl, Nat.le_of_ble_eq_true rfl⟩ ⟨Nat.zero_le _, Nat.zero_le _⟩ _ rfl (Nat.le_of_ble_eq_true rfl) dX6_match_7 10 rfl ?_
  refine x_aload_n C dX6_match_10 rfl 0 rfl 11 rfl ?_
  refine gf_162_0 C dX6_match_11 14 rfl ?_
  refine x_iload_n C dX6_match_14 rfl 1 rfl 15 rfl ?_
  refine x_iload_n C dX6_match_15 rfl 2 rfl 16 rfl ?_
  obtain ⟨r16, h16, h⟩ := bv_some h
  refine x_callV C 1 [.int a1, .int a2] (c_X0_joined  h16) mi_X0_joined (gt_1 g _) rfl q_553 rfl ⟨rfl, rfl⟩ ⟨Nat.le_of_ble_eq_true rfl, Nat.le_of_ble_eq_true rfl⟩ ⟨Nat.zero_le _, Nat.zero_le _⟩ _ rfl (Nat.le_of_ble_eq_true rfl) dX6_match_16 19 rfl ?_
  refine x_if_ne C dX6_match_19 32 (by decide) 22 rfl (fun hc => ?_) (fun hc => ?_)
  · have h := iq hc h
    refine x_aload_n C dX6_match_32 rfl 0 rfl 33 rfl ?_
    refine x_iload_n C dX6_match_33 rfl 1 rfl 34 rfl ?_
    rcases bx_inr h with hx | ⟨p34, h34, h⟩
    · exact x_outV C X 0 [.int a1] (x_X6_requireExposed X.1 hx) mi_X6_requireExposed (gt_0 g _) rfl q_525 rfl ⟨rfl, rfl⟩ ⟨Nat.le_of_ble_eq_true rfl, Nat.le_of_ble_eq_true rfl⟩ ⟨Nat.le_of_ble_eq_true rfl, Nat.le_of_ble_eq_true rfl⟩ _ rfl (Nat.le_of_ble_eq_true rfl) dX6_match_34
    refine x_callV C 0 [.int a1] (c_X6_requireExposed  h34) mi_X6_requireExposed (gt_0 g _) rfl q_525 rfl ⟨rfl, rfl⟩ ⟨Nat.le_of_ble_eq_true rfl, Nat.le_of_ble_eq_true rfl⟩ ⟨Nat.zero_le _, Nat.zero_le _⟩ _ rfl (Nat.le_of_ble_eq_true rfl) dX6_match_34 37 rfl ?_
    refine x_aload_n C dX6_match_37 rfl 0 rfl 38 rfl ?_
    refine x_iload_n C dX6_match_38 rfl 2 rfl 39 rfl ?_
    rcases bx_inr h with hx | ⟨p39, h39, h⟩
    · exact x_outV C X 0 [.int a2] (x_X6_requireExposed X.1 hx) mi_X6_requireExposed (gt_0 g _) rfl q_525 rfl ⟨rfl, rfl⟩ ⟨Nat.le_of_ble_eq_true rfl, Nat.le_of_ble_eq_true rfl⟩ ⟨Nat.le_of_ble_eq_true rfl, Nat.le_of_ble_eq_true rfl⟩ _ rfl (Nat.le_of_ble_eq_true rfl) dX6_match_39
    refine x_callV C 0 [.int a2] (c_X6_requireExposed  h39) mi_X6_requireExposed (gt_0 g _) rfl q_525 rfl ⟨rfl, rfl⟩ ⟨Nat.le_of_ble_eq_true rfl, Nat.le_of_ble_eq_true rfl⟩ ⟨Nat.zero_le _, Nat.zero_le _⟩ _ rfl (Nat.le_of_ble_eq_true rfl) dX6_match_39 42 rfl ?_
    exact (ml_inr h).elim
  · have h := ip hc h
    cases h
    exact x_throwS C X (by decide) q_529 q_17 (List.mem_of_getElem? (i := 1) rfl) rfl (List.mem_of_getElem? (i := 11) rfl) xg_2 xb_2 xo_2 (Nat.le_of_ble_eq_true rfl) (Nat.le_of_ble_eq_true rfl) ⟨Nat.le_of_ble_eq_true rfl, Nat.le_of_ble_eq_true rfl⟩ dX6_match_22 dX6_match_25 dX6_match_26 dX6_match_28 dX6_match_31
set_option maxHeartbeats 4000000 in
set_option maxRecDepth 100000 in
theorem x_X6_match {l : Launch} {g : Gb} {a1 : Int32} {a2 : Int32} {σ : WD} {e : Nat} (hl9 : l.stackTraces = false) (h : f_X6_match a1 a2 σ = some (.inr e)) : MX l g yX6_match (.code yX6_match cX6_match 3 (some (.int))) (rmx 8 113) [.ref (adr g 0), .int a1, .int a2] σ e := by
  refine MX.of hl9 (by decide) (Nat.le_of_ble_eq_true rfl) (fun x C hl X => ?_)
  subst hl
  exact xw_X6_match C X h
set_option maxHeartbeats 4000000 in
set_option maxRecDepth 100000 in
theorem xw_X6_unmatch {x : Cx} {g : Gb} {a1 : Int32} {σ : WD} {e : Nat} (C : CF x g RX6 cX6_unmatch 3 (rmx 8 113)) (X : CT x g σ e) (h : f_X6_unmatch a1 σ = some (.inr e)) : WW x g 3 0 0 0 [(0, .ref (adr g 0)), (1, .int a1)] [] σ := by
  unfold f_X6_unmatch at h
  refine x_aload_n C dX6_unmatch_0 rfl 0 rfl 1 rfl ?_
  refine x_iload_n C dX6_unmatch_1 rfl 1 rfl 2 rfl ?_
  rcases bx_inr h with hx | ⟨p2, h2, h⟩
  · exact x_outV C X 0 [.int a1] (x_X6_requireNode X.1 hx) mi_X6_requireNode (gt_0 g _) rfl q_474 rfl ⟨rfl, rfl⟩ ⟨Nat.le_of_ble_eq_true rfl, Nat.le_of_ble_eq_true rfl⟩ ⟨Nat.le_of_ble_eq_true rfl, Nat.le_of_ble_eq_true rfl⟩ _ rfl (Nat.le_of_ble_eq_true rfl) dX6_unmatch_2
  refine x_callV C 0 [.int a1] (c_X6_requireNode  h2) mi_X6_requireNode (gt_0 g _) rfl q_474 rfl ⟨rfl, rfl⟩ ⟨Nat.le_of_ble_eq_true rfl, Nat.le_of_ble_eq_true rfl⟩ ⟨Nat.zero_le _, Nat.zero_le _⟩ _ rfl (Nat.le_of_ble_eq_true rfl) dX6_unmatch_2 5 rfl ?_
  refine x_aload_n C dX6_unmatch_5 rfl 0 rfl 6 rfl ?_
  refine gf_163_0 C dX6_unmatch_6 9 rfl ?_
  refine x_iload_n C dX6_unmatch_9 rfl 1 rfl 10 rfl ?_
  obtain ⟨r10, h10, h⟩ := bv_some h
  refine x_callV C 3 [.int a1] (c_X3_isExposed  h10) mi_X3_isExposed (gt_3 g _) rfl q_222 rfl ⟨rfl, rfl⟩ ⟨Nat.le_of_ble_eq_true rfl, Nat.le_of_ble_eq_true rfl⟩ ⟨Nat.zero_le _, Nat.zero_le _⟩ _ rfl (Nat.le_of_ble_eq_true rfl) dX6_unmatch_10 13 rfl ?_
  refine x_if_eq C dX6_unmatch_13 26 (by decide) 16 rfl (fun hc => ?_) (fun hc => ?_)
  · have h := ip hc h
    exact (ml_inr h).elim
  · have h := iq hc h
    cases h
    exact x_throwS C X (by decide) q_529 q_17 (List.mem_of_getElem? (i := 1) rfl) rfl (List.mem_of_getElem? (i := 12) rfl) xg_2 xb_2 xo_2 (Nat.le_of_ble_eq_true rfl) (Nat.le_of_ble_eq_true rfl) ⟨Nat.le_of_ble_eq_true rfl, Nat.le_of_ble_eq_true rfl⟩ dX6_unmatch_16 dX6_unmatch_19 dX6_unmatch_20 dX6_unmatch_22 dX6_unmatch_25
set_option maxHeartbeats 4000000 in
set_option maxRecDepth 100000 in
theorem x_X6_unmatch {l : Launch} {g : Gb} {a1 : Int32} {σ : WD} {e : Nat} (hl9 : l.stackTraces = false) (h : f_X6_unmatch a1 σ = some (.inr e)) : MX l g yX6_unmatch (.code yX6_unmatch cX6_unmatch 3 (some (.int))) (rmx 8 113) [.ref (adr g 0), .int a1] σ e := by
  refine MX.of hl9 (by decide) (Nat.le_of_ble_eq_true rfl) (fun x C hl X => ?_)
  subst hl
  exact xw_X6_unmatch C X h
set_option maxHeartbeats 4000000 in
set_option maxRecDepth 100000 in
theorem xw_X6_augment {x : Cx} {g : Gb} {a1 : Int32} {σ : WD} {e : Nat} (C : CF x g RX6 cX6_augment 2 (rmx 8 113)) (X : CT x g σ e) (h : f_X6_augment a1 σ = some (.inr e)) : WW x g 2 0 0 0 [(0, .ref (adr g 0)), (1, .int a1)] [] σ := by
  unfold f_X6_augment at h
  refine x_aload_n C dX6_augment_0 rfl 0 rfl 1 rfl ?_
  refine x_iload_n C dX6_augment_1 rfl 1 rfl 2 rfl ?_
  rcases bx_inr h with hx | ⟨p2, h2, h⟩
  · exact x_outV C X 0 [.int a1] (x_X6_requireNode X.1 hx) mi_X6_requireNode (gt_0 g _) rfl q_474 rfl ⟨rfl, rfl⟩ ⟨Nat.le_of_ble_eq_true rfl, Nat.le_of_ble_eq_true rfl⟩ ⟨Nat.le_of_ble_eq_true rfl, Nat.le_of_ble_eq_true rfl⟩ _ rfl (Nat.le_of_ble_eq_true rfl) dX6_augment_2
  refine x_callV C 0 [.int a1] (c_X6_requireNode  h2) mi_X6_requireNode (gt_0 g _) rfl q_474 rfl ⟨rfl, rfl⟩ ⟨Nat.le_of_ble_eq_true rfl, Nat.le_of_ble_eq_true rfl⟩ ⟨Nat.zero_le _, Nat.zero_le _⟩ _ rfl (Nat.le_of_ble_eq_true rfl) dX6_augment_2 5 rfl ?_
  refine x_aload_n C dX6_augment_5 rfl 0 rfl 6 rfl ?_
  refine x_iload_n C dX6_augment_6 rfl 1 rfl 7 rfl ?_
  rcases bx_inr h with hx | ⟨p7, h7, h⟩
  · exact x_outV C X 0 [.int a1] (x_X6_requireExposed X.1 hx) mi_X6_requireExposed (gt_0 g _) rfl q_525 rfl ⟨rfl, rfl⟩ ⟨Nat.le_of_ble_eq_true rfl, Nat.le_of_ble_eq_true rfl⟩ ⟨Nat.le_of_ble_eq_true rfl, Nat.le_of_ble_eq_true rfl⟩ _ rfl (Nat.le_of_ble_eq_true rfl) dX6_augment_7
  refine x_callV C 0 [.int a1] (c_X6_requireExposed  h7) mi_X6_requireExposed (gt_0 g _) rfl q_525 rfl ⟨rfl, rfl⟩ ⟨Nat.le_of_ble_eq_true rfl, Nat.le_of_ble_eq_true rfl⟩ ⟨Nat.zero_le _, Nat.zero_le _⟩ _ rfl (Nat.le_of_ble_eq_true rfl) dX6_augment_7 10 rfl ?_
  exact (ml_inr h).elim
set_option maxHeartbeats 4000000 in
set_option maxRecDepth 100000 in
theorem x_X6_augment {l : Launch} {g : Gb} {a1 : Int32} {σ : WD} {e : Nat} (hl9 : l.stackTraces = false) (h : f_X6_augment a1 σ = some (.inr e)) : MX l g yX6_augment (.code yX6_augment cX6_augment 2 (some (.int))) (rmx 8 113) [.ref (adr g 0), .int a1] σ e := by
  refine MX.of hl9 (by decide) (Nat.le_of_ble_eq_true rfl) (fun x C hl X => ?_)
  subst hl
  exact xw_X6_augment C X h
set_option maxHeartbeats 4000000 in
set_option maxRecDepth 100000 in
theorem xw_X6_undo {x : Cx} {g : Gb}  {σ : WD} {e : Nat} (C : CF x g RX6 cX6_undo 1 (rmx 7 91)) (X : CT x g σ e) (h : f_X6_undo  σ = some (.inr e)) : WW x g 1 0 0 0 [(0, .ref (adr g 0))] [] σ := by
  unfold f_X6_undo at h
  refine x_aload_n C dX6_undo_0 rfl 0 rfl 1 rfl ?_
  refine gf_165_0 C dX6_undo_1 4 rfl ?_
  refine gf_94_7 C dX6_undo_4 7 rfl ?_
  refine x_if_ne C dX6_undo_7 20 (by decide) 10 rfl (fun hc => ?_) (fun hc => ?_)
  · have h := iq hc h
    exact (ml_inr h).elim
  · have h := ip hc h
    cases h
    exact x_throwS C X (by decide) q_529 q_17 (List.mem_of_getElem? (i := 1) rfl) rfl (List.mem_of_getElem? (i := 13) rfl) xg_2 xb_2 xo_2 (Nat.le_of_ble_eq_true rfl) (Nat.le_of_ble_eq_true rfl) ⟨Nat.le_of_ble_eq_true rfl, Nat.le_of_ble_eq_true rfl⟩ dX6_undo_10 dX6_undo_13 dX6_undo_14 dX6_undo_16 dX6_undo_19
set_option maxHeartbeats 4000000 in
set_option maxRecDepth 100000 in
theorem x_X6_undo {l : Launch} {g : Gb}  {σ : WD} {e : Nat} (hl9 : l.stackTraces = false) (h : f_X6_undo  σ = some (.inr e)) : MX l g yX6_undo (.code yX6_undo cX6_undo 1 (some (.int))) (rmx 7 91) [.ref (adr g 0)] σ e := by
  refine MX.of hl9 (by decide) (Nat.le_of_ble_eq_true rfl) (fun x C hl X => ?_)
  subst hl
  exact xw_X6_undo C X h
set_option maxHeartbeats 4000000 in
set_option maxRecDepth 100000 in
theorem xw_X6_way {x : Cx} {g : Gb} {a1 : Int32} {σ : WD} {e : Nat} (C : CF x g RX6 cX6_way 2 (rmx 8 113)) (X : CT x g σ e) (h : f_X6_way a1 σ = some (.inr e)) : WW x g 2 0 0 0 [(0, .ref (adr g 0)), (1, .int a1)] [] σ := by
  unfold f_X6_way at h
  refine x_aload_n C dX6_way_0 rfl 0 rfl 1 rfl ?_
  refine x_iload_n C dX6_way_1 rfl 1 rfl 2 rfl ?_
  rcases bx_inr h with hx | ⟨p2, h2, h⟩
  · exact x_outV C X 0 [.int a1] (x_X6_requireNode X.1 hx) mi_X6_requireNode (gt_0 g _) rfl q_474 rfl ⟨rfl, rfl⟩ ⟨Nat.le_of_ble_eq_true rfl, Nat.le_of_ble_eq_true rfl⟩ ⟨Nat.le_of_ble_eq_true rfl, Nat.le_of_ble_eq_true rfl⟩ _ rfl (Nat.le_of_ble_eq_true rfl) dX6_way_2
  refine x_callV C 0 [.int a1] (c_X6_requireNode  h2) mi_X6_requireNode (gt_0 g _) rfl q_474 rfl ⟨rfl, rfl⟩ ⟨Nat.le_of_ble_eq_true rfl, Nat.le_of_ble_eq_true rfl⟩ ⟨Nat.zero_le _, Nat.zero_le _⟩ _ rfl (Nat.le_of_ble_eq_true rfl) dX6_way_2 5 rfl ?_
  refine x_aload_n C dX6_way_5 rfl 0 rfl 6 rfl ?_
  refine x_iload_n C dX6_way_6 rfl 1 rfl 7 rfl ?_
  rcases bx_inr h with hx | ⟨p7, h7, h⟩
  · exact x_outV C X 0 [.int a1] (x_X6_requireExposed X.1 hx) mi_X6_requireExposed (gt_0 g _) rfl q_525 rfl ⟨rfl, rfl⟩ ⟨Nat.le_of_ble_eq_true rfl, Nat.le_of_ble_eq_true rfl⟩ ⟨Nat.le_of_ble_eq_true rfl, Nat.le_of_ble_eq_true rfl⟩ _ rfl (Nat.le_of_ble_eq_true rfl) dX6_way_7
  refine x_callV C 0 [.int a1] (c_X6_requireExposed  h7) mi_X6_requireExposed (gt_0 g _) rfl q_525 rfl ⟨rfl, rfl⟩ ⟨Nat.le_of_ble_eq_true rfl, Nat.le_of_ble_eq_true rfl⟩ ⟨Nat.zero_le _, Nat.zero_le _⟩ _ rfl (Nat.le_of_ble_eq_true rfl) dX6_way_7 10 rfl ?_
  exact (ml_inr h).elim
set_option maxHeartbeats 4000000 in
set_option maxRecDepth 100000 in
theorem x_X6_way {l : Launch} {g : Gb} {a1 : Int32} {σ : WD} {e : Nat} (hl9 : l.stackTraces = false) (h : f_X6_way a1 σ = some (.inr e)) : MX l g yX6_way (.code yX6_way cX6_way 2 (some (.int))) (rmx 8 113) [.ref (adr g 0), .int a1] σ e := by
  refine MX.of hl9 (by decide) (Nat.le_of_ble_eq_true rfl) (fun x C hl X => ?_)
  subst hl
  exact xw_X6_way C X h
set_option maxHeartbeats 4000000 in
set_option maxRecDepth 100000 in
theorem xw_X6_wayNode {x : Cx} {g : Gb} {a1 : Int32} {a2 : Int32} {σ : WD} {e : Nat} (C : CF x g RX6 cX6_wayNode 4 (rmx 8 113)) (X : CT x g σ e) (h : f_X6_wayNode a1 a2 σ = some (.inr e)) : WW x g 4 0 0 0 [(0, .ref (adr g 0)), (1, .int a1), (2, .int a2)] [] σ := by
  unfold f_X6_wayNode at h
  refine x_aload_n C dX6_wayNode_0 rfl 0 rfl 1 rfl ?_
  refine x_iload_n C dX6_wayNode_1 rfl 1 rfl 2 rfl ?_
  rcases bx_inr h with hx | ⟨p2, h2, h⟩
  · exact x_outV C X 0 [.int a1] (x_X6_requireNode X.1 hx) mi_X6_requireNode (gt_0 g _) rfl q_474 rfl ⟨rfl, rfl⟩ ⟨Nat.le_of_ble_eq_true rfl, Nat.le_of_ble_eq_true rfl⟩ ⟨Nat.le_of_ble_eq_true rfl, Nat.le_of_ble_eq_true rfl⟩ _ rfl (Nat.le_of_ble_eq_true rfl) dX6_wayNode_2
  refine x_callV C 0 [.int a1] (c_X6_requireNode  h2) mi_X6_requireNode (gt_0 g _) rfl q_474 rfl ⟨rfl, rfl⟩ ⟨Nat.le_of_ble_eq_true rfl, Nat.le_of_ble_eq_true rfl⟩ ⟨Nat.zero_le _, Nat.zero_le _⟩ _ rfl (Nat.le_of_ble_eq_true rfl) dX6_wayNode_2 5 rfl ?_
  refine x_aload_n C dX6_wayNode_5 rfl 0 rfl 6 rfl ?_
  refine x_iload_n C dX6_wayNode_6 rfl 1 rfl 7 rfl ?_
  rcases bx_inr h with hx | ⟨p7, h7, h⟩
  · exact x_outV C X 0 [.int a1] (x_X6_requireExposed X.1 hx) mi_X6_requireExposed (gt_0 g _) rfl q_525 rfl ⟨rfl, rfl⟩ ⟨Nat.le_of_ble_eq_true rfl, Nat.le_of_ble_eq_true rfl⟩ ⟨Nat.le_of_ble_eq_true rfl, Nat.le_of_ble_eq_true rfl⟩ _ rfl (Nat.le_of_ble_eq_true rfl) dX6_wayNode_7
  refine x_callV C 0 [.int a1] (c_X6_requireExposed  h7) mi_X6_requireExposed (gt_0 g _) rfl q_525 rfl ⟨rfl, rfl⟩ ⟨Nat.le_of_ble_eq_true rfl, Nat.le_of_ble_eq_true rfl⟩ ⟨Nat.zero_le _, Nat.zero_le _⟩ _ rfl (Nat.le_of_ble_eq_true rfl) dX6_wayNode_7 10 rfl ?_
  exact (ml_inr h).elim
set_option maxHeartbeats 4000000 in
set_option maxRecDepth 100000 in
theorem x_X6_wayNode {l : Launch} {g : Gb} {a1 : Int32} {a2 : Int32} {σ : WD} {e : Nat} (hl9 : l.stackTraces = false) (h : f_X6_wayNode a1 a2 σ = some (.inr e)) : MX l g yX6_wayNode (.code yX6_wayNode cX6_wayNode 4 (some (.int))) (rmx 8 113) [.ref (adr g 0), .int a1, .int a2] σ e := by
  refine MX.of hl9 (by decide) (Nat.le_of_ble_eq_true rfl) (fun x C hl X => ?_)
  subst hl
  exact xw_X6_wayNode C X h
set_option maxHeartbeats 4000000 in
set_option maxRecDepth 100000 in
theorem xw_X6_reach {x : Cx} {g : Gb} {a1 : Int32} {a2 : Int32} {σ : WD} {e : Nat} (C : CF x g RX6 cX6_reach 3 (rmx 8 113)) (X : CT x g σ e) (h : f_X6_reach a1 a2 σ = some (.inr e)) : WW x g 3 0 0 0 [(0, .ref (adr g 0)), (1, .int a1), (2, .int a2)] [] σ := by
  unfold f_X6_reach at h
  refine x_aload_n C dX6_reach_0 rfl 0 rfl 1 rfl ?_
  refine x_iload_n C dX6_reach_1 rfl 1 rfl 2 rfl ?_
  rcases bx_inr h with hx | ⟨p2, h2, h⟩
  · exact x_outV C X 0 [.int a1] (x_X6_requireNode X.1 hx) mi_X6_requireNode (gt_0 g _) rfl q_474 rfl ⟨rfl, rfl⟩ ⟨Nat.le_of_ble_eq_true rfl, Nat.le_of_ble_eq_true rfl⟩ ⟨Nat.le_of_ble_eq_true rfl, Nat.le_of_ble_eq_true rfl⟩ _ rfl (Nat.le_of_ble_eq_true rfl) dX6_reach_2
  refine x_callV C 0 [.int a1] (c_X6_requireNode  h2) mi_X6_requireNode (gt_0 g _) rfl q_474 rfl ⟨rfl, rfl⟩ ⟨Nat.le_of_ble_eq_true rfl, Nat.le_of_ble_eq_true rfl⟩ ⟨Nat.zero_le _, Nat.zero_le _⟩ _ rfl (Nat.le_of_ble_eq_true rfl) dX6_reach_2 5 rfl ?_
  exact (ml_inr h).elim
set_option maxHeartbeats 4000000 in
set_option maxRecDepth 100000 in
theorem x_X6_reach {l : Launch} {g : Gb} {a1 : Int32} {a2 : Int32} {σ : WD} {e : Nat} (hl9 : l.stackTraces = false) (h : f_X6_reach a1 a2 σ = some (.inr e)) : MX l g yX6_reach (.code yX6_reach cX6_reach 3 (some (.int))) (rmx 8 113) [.ref (adr g 0), .int a1, .int a2] σ e := by
  refine MX.of hl9 (by decide) (Nat.le_of_ble_eq_true rfl) (fun x C hl X => ?_)
  subst hl
  exact xw_X6_reach C X h
set_option maxHeartbeats 4000000 in
set_option maxRecDepth 100000 in
theorem xw_X6_firstMate {x : Cx} {g : Gb} {a1 : Int32} {σ : WD} {e : Nat} (C : CF x g RX6 cX6_firstMate 2 (rmx 8 113)) (X : CT x g σ e) (h : f_X6_firstMate a1 σ = some (.inr e)) : WW x g 2 0 0 0 [(0, .ref (adr g 0)), (1, .int a1)] [] σ := by
  unfold f_X6_firstMate at h
  refine x_aload_n C dX6_firstMate_0 rfl 0 rfl 1 rfl ?_
  refine x_iload_n C dX6_firstMate_1 rfl 1 rfl 2 rfl ?_
  rcases bx_inr h with hx | ⟨p2, h2, h⟩
  · exact x_outV C X 0 [.int a1] (x_X6_requireNode X.1 hx) mi_X6_requireNode (gt_0 g _) rfl q_474 rfl ⟨rfl, rfl⟩ ⟨Nat.le_of_ble_eq_true rfl, Nat.le_of_ble_eq_true rfl⟩ ⟨Nat.le_of_ble_eq_true rfl, Nat.le_of_ble_eq_true rfl⟩ _ rfl (Nat.le_of_ble_eq_true rfl) dX6_firstMate_2
  refine x_callV C 0 [.int a1] (c_X6_requireNode  h2) mi_X6_requireNode (gt_0 g _) rfl q_474 rfl ⟨rfl, rfl⟩ ⟨Nat.le_of_ble_eq_true rfl, Nat.le_of_ble_eq_true rfl⟩ ⟨Nat.zero_le _, Nat.zero_le _⟩ _ rfl (Nat.le_of_ble_eq_true rfl) dX6_firstMate_2 5 rfl ?_
  exact (ml_inr h).elim
set_option maxHeartbeats 4000000 in
set_option maxRecDepth 100000 in
theorem x_X6_firstMate {l : Launch} {g : Gb} {a1 : Int32} {σ : WD} {e : Nat} (hl9 : l.stackTraces = false) (h : f_X6_firstMate a1 σ = some (.inr e)) : MX l g yX6_firstMate (.code yX6_firstMate cX6_firstMate 2 (some (.int))) (rmx 8 113) [.ref (adr g 0), .int a1] σ e := by
  refine MX.of hl9 (by decide) (Nat.le_of_ble_eq_true rfl) (fun x C hl X => ?_)
  subst hl
  exact xw_X6_firstMate C X h
set_option maxHeartbeats 4000000 in
set_option maxRecDepth 100000 in
theorem xw_X6_components_15 {x : Cx} {g : Gb}  {σ : WD} {e : Nat} (C : CF x g RX6 cX6_components 3 (rmx 7 91)) (X : CT x g σ e) (h : f_X6_components_15  σ = some (.inr e)) : WW x g 3 0 0 15 [] [] σ := by
  unfold f_X6_components_15 at h
  cases h
  exact x_throwS C X (by decide) q_394 q_13 (List.mem_of_getElem? (i := 0) rfl) rfl (List.mem_of_getElem? (i := 14) rfl) xg_1 xb_1 xo_1 (Nat.le_of_ble_eq_true rfl) (Nat.le_of_ble_eq_true rfl) ⟨Nat.le_of_ble_eq_true rfl, Nat.le_of_ble_eq_true rfl⟩ dX6_components_15 dX6_components_18 dX6_components_19 dX6_components_21 dX6_components_24
set_option maxHeartbeats 4000000 in
set_option maxRecDepth 100000 in
theorem xw_X6_components {x : Cx} {g : Gb} {a1 : Int32} {a2 : Int32} {σ : WD} {e : Nat} (C : CF x g RX6 cX6_components 3 (rmx 7 91)) (X : CT x g σ e) (h : f_X6_components a1 a2 σ = some (.inr e)) : WW x g 3 0 0 0 [(0, .ref (adr g 0)), (1, .int a1), (2, .int a2)] [] σ := by
  unfold f_X6_components at h
  refine x_iload_n C dX6_components_0 rfl 1 rfl 1 rfl ?_
  refine x_if_lt C dX6_components_1 15 (by decide) 4 rfl (fun hc => ?_) (fun hc => ?_)
  · have h := ip hc h
    exact x_sub [] rfl (xw_X6_components_15 C X h)
  · have h := iq hc h
    refine x_iload_n C dX6_components_4 rfl 1 rfl 5 rfl ?_
    refine x_aload_n C dX6_components_5 rfl 0 rfl 6 rfl ?_
    refine gf_162_0 C dX6_components_6 9 rfl ?_
    obtain ⟨r9, h9, h⟩ := bv_some h
    refine x_callV C 1 [] (c_X0_all  h9) mi_X0_all (gt_1 g _) rfl q_322 rfl ⟨rfl, rfl⟩ ⟨Nat.le_of_ble_eq_true rfl, Nat.le_of_ble_eq_true rfl⟩ ⟨Nat.zero_le _, Nat.zero_le _⟩ _ rfl (Nat.le_of_ble_eq_true rfl) dX6_components_9 12 rfl ?_
    refine x_icmp_le C dX6_components_12 25 (by decide) 15 rfl (fun hc => ?_) (fun hc => ?_)
    · have h := ip hc h
      exact (ml_inr h).elim
    · have h := iq hc h
      exact x_sub [] rfl (xw_X6_components_15 C X h)
set_option maxHeartbeats 4000000 in
set_option maxRecDepth 100000 in
theorem x_X6_components {l : Launch} {g : Gb} {a1 : Int32} {a2 : Int32} {σ : WD} {e : Nat} (hl9 : l.stackTraces = false) (h : f_X6_components a1 a2 σ = some (.inr e)) : MX l g yX6_components (.code yX6_components cX6_components 3 (some (.int))) (rmx 7 91) [.ref (adr g 0), .int a1, .int a2] σ e := by
  refine MX.of hl9 (by decide) (Nat.le_of_ble_eq_true rfl) (fun x C hl X => ?_)
  subst hl
  exact xw_X6_components C X h
set_option maxHeartbeats 4000000 in
set_option maxRecDepth 100000 in
theorem xw_X6_ifChanged {x : Cx} {g : Gb} {a1 : Int32} {a2 : Int32} {σ : WD} {e : Nat} (C : CF x g RX6 cX6_ifChanged 4 (rmx 8 113)) (X : CT x g σ e) (h : f_X6_ifChanged a1 a2 σ = some (.inr e)) : WW x g 4 0 0 0 [(0, .ref (adr g 0)), (1, .int a1), (2, .int a2)] [] σ := by
  unfold f_X6_ifChanged at h
  refine x_aload_n C dX6_ifChanged_0 rfl 0 rfl 1 rfl ?_
  refine x_iload_n C dX6_ifChanged_1 rfl 1 rfl 2 rfl ?_
  rcases bx_inr h with hx | ⟨p2, h2, h⟩
  · exact x_outV C X 0 [.int a1] (x_X6_requireNode X.1 hx) mi_X6_requireNode (gt_0 g _) rfl q_474 rfl ⟨rfl, rfl⟩ ⟨Nat.le_of_ble_eq_true rfl, Nat.le_of_ble_eq_true rfl⟩ ⟨Nat.le_of_ble_eq_true rfl, Nat.le_of_ble_eq_true rfl⟩ _ rfl (Nat.le_of_ble_eq_true rfl) dX6_ifChanged_2
  refine x_callV C 0 [.int a1] (c_X6_requireNode  h2) mi_X6_requireNode (gt_0 g _) rfl q_474 rfl ⟨rfl, rfl⟩ ⟨Nat.le_of_ble_eq_true rfl, Nat.le_of_ble_eq_true rfl⟩ ⟨Nat.zero_le _, Nat.zero_le _⟩ _ rfl (Nat.le_of_ble_eq_true rfl) dX6_ifChanged_2 5 rfl ?_
  refine x_aload_n C dX6_ifChanged_5 rfl 0 rfl 6 rfl ?_
  refine x_iload_n C dX6_ifChanged_6 rfl 2 rfl 7 rfl ?_
  rcases bx_inr h with hx | ⟨p7, h7, h⟩
  · exact x_outV C X 0 [.int a2] (x_X6_requireNode X.1 hx) mi_X6_requireNode (gt_0 g _) rfl q_474 rfl ⟨rfl, rfl⟩ ⟨Nat.le_of_ble_eq_true rfl, Nat.le_of_ble_eq_true rfl⟩ ⟨Nat.le_of_ble_eq_true rfl, Nat.le_of_ble_eq_true rfl⟩ _ rfl (Nat.le_of_ble_eq_true rfl) dX6_ifChanged_7
  refine x_callV C 0 [.int a2] (c_X6_requireNode  h7) mi_X6_requireNode (gt_0 g _) rfl q_474 rfl ⟨rfl, rfl⟩ ⟨Nat.le_of_ble_eq_true rfl, Nat.le_of_ble_eq_true rfl⟩ ⟨Nat.zero_le _, Nat.zero_le _⟩ _ rfl (Nat.le_of_ble_eq_true rfl) dX6_ifChanged_7 10 rfl ?_
  refine x_iload_n C dX6_ifChanged_10 rfl 1 rfl 11 rfl ?_
  refine x_iload_n C dX6_ifChanged_11 rfl 2 rfl 12 rfl ?_
  rcases bx_inr h with hx | ⟨p12, h12, h⟩
  · exact x_outS C X [.int a1, .int a2] (x_X6_requireDifferent X.1 hx) mi_X6_requireDifferent q_606 rfl ⟨rfl, rfl⟩ ⟨Nat.le_of_ble_eq_true rfl, Nat.le_of_ble_eq_true rfl⟩ ⟨Nat.le_of_ble_eq_true rfl, Nat.le_of_ble_eq_true rfl⟩ _ rfl (Nat.le_of_ble_eq_true rfl) dX6_ifChanged_12
  refine x_callS C [.int a1, .int a2] (c_X6_requireDifferent  h12) mi_X6_requireDifferent q_606 rfl ⟨rfl, rfl⟩ ⟨Nat.le_of_ble_eq_true rfl, Nat.le_of_ble_eq_true rfl⟩ ⟨Nat.zero_le _, Nat.zero_le _⟩ _ rfl (Nat.le_of_ble_eq_true rfl) dX6_ifChanged_12 15 rfl ?_
  exact (ml_inr h).elim
set_option maxHeartbeats 4000000 in
set_option maxRecDepth 100000 in
theorem x_X6_ifChanged {l : Launch} {g : Gb} {a1 : Int32} {a2 : Int32} {σ : WD} {e : Nat} (hl9 : l.stackTraces = false) (h : f_X6_ifChanged a1 a2 σ = some (.inr e)) : MX l g yX6_ifChanged (.code yX6_ifChanged cX6_ifChanged 4 (some (.int))) (rmx 8 113) [.ref (adr g 0), .int a1, .int a2] σ e := by
  refine MX.of hl9 (by decide) (Nat.le_of_ble_eq_true rfl) (fun x C hl X => ?_)
  subst hl
  exact xw_X6_ifChanged C X h
set_option maxHeartbeats 4000000 in
set_option maxRecDepth 100000 in
theorem xw_X6_node {x : Cx} {g : Gb} {a1 : Int32} {a2 : Int32} {σ : WD} {e : Nat} (C : CF x g RX6 cX6_node 3 (rmx 8 113)) (X : CT x g σ e) (h : f_X6_node a1 a2 σ = some (.inr e)) : WW x g 3 0 0 0 [(0, .ref (adr g 0)), (1, .int a1), (2, .int a2)] [] σ := by
  unfold f_X6_node at h
  refine x_aload_n C dX6_node_0 rfl 0 rfl 1 rfl ?_
  refine x_iload_n C dX6_node_1 rfl 1 rfl 2 rfl ?_
  rcases bx_inr h with hx | ⟨p2, h2, h⟩
  · exact x_outV C X 0 [.int a1] (x_X6_requireNode X.1 hx) mi_X6_requireNode (gt_0 g _) rfl q_474 rfl ⟨rfl, rfl⟩ ⟨Nat.le_of_ble_eq_true rfl, Nat.le_of_ble_eq_true rfl⟩ ⟨Nat.le_of_ble_eq_true rfl, Nat.le_of_ble_eq_true rfl⟩ _ rfl (Nat.le_of_ble_eq_true rfl) dX6_node_2
  refine x_callV C 0 [.int a1] (c_X6_requireNode  h2) mi_X6_requireNode (gt_0 g _) rfl q_474 rfl ⟨rfl, rfl⟩ ⟨Nat.le_of_ble_eq_true rfl, Nat.le_of_ble_eq_true rfl⟩ ⟨Nat.zero_le _, Nat.zero_le _⟩ _ rfl (Nat.le_of_ble_eq_true rfl) dX6_node_2 5 rfl ?_
  refine x_iload_n C dX6_node_5 rfl 2 rfl 6 rfl ?_
  by_cases hc0 : a2 = 0
  · have h := ip hc0 h
    refine x_tabIn C 0 hc0 dX6_node_6 34 (by decide +kernel) 40 (by decide) ?_
    exact (ml_inr h).elim
  · have h := iq hc0 h
    by_cases hc1 : a2 = 1
    · have h := ip hc1 h
      refine x_tabIn C 1 hc1 dX6_node_6 47 (by decide +kernel) 53 (by decide) ?_
      exact (ml_inr h).elim
    · have h := iq hc1 h
      by_cases hc2 : a2 = 2
      · have h := ip hc2 h
        refine x_tabIn C 2 hc2 dX6_node_6 57 (by decide +kernel) 63 (by decide) ?_
        exact (ml_inr h).elim
      · have h := iq hc2 h
        by_cases hc3 : a2 = 3
        · have h := ip hc3 h
          refine x_tabIn C 3 hc3 dX6_node_6 63 (by decide +kernel) 69 (by decide) ?_
          exact (ml_inr h).elim
        · have h := iq hc3 h
          by_cases hc4 : a2 = 4
          · have h := ip hc4 h
            refine x_tabIn C 4 hc4 dX6_node_6 72 (by decide +kernel) 78 (by decide) ?_
            exact (ml_inr h).elim
          · have h := iq hc4 h
            refine x_tabOut C dX6_node_6 (sw_out 4 (by decide) (fun k hk => by
              have hk : k = 0 ∨ k = 1 ∨ k = 2 ∨ k = 3 ∨ k = 4 := by omega
              rcases hk with rfl | rfl | rfl | rfl | rfl <;> assumption)) 97 (by decide) ?_
            cases h
            exact x_throwS C X (by decide) q_394 q_13 (List.mem_of_getElem? (i := 0) rfl) rfl (List.mem_of_getElem? (i := 2) rfl) xg_1 xb_1 xo_1 (Nat.le_of_ble_eq_true rfl) (Nat.le_of_ble_eq_true rfl) ⟨Nat.le_of_ble_eq_true rfl, Nat.le_of_ble_eq_true rfl⟩ dX6_node_97 dX6_node_100 dX6_node_101 dX6_node_103 dX6_node_106
set_option maxHeartbeats 4000000 in
set_option maxRecDepth 100000 in
theorem x_X6_node {l : Launch} {g : Gb} {a1 : Int32} {a2 : Int32} {σ : WD} {e : Nat} (hl9 : l.stackTraces = false) (h : f_X6_node a1 a2 σ = some (.inr e)) : MX l g yX6_node (.code yX6_node cX6_node 3 (some (.int))) (rmx 8 113) [.ref (adr g 0), .int a1, .int a2] σ e := by
  refine MX.of hl9 (by decide) (Nat.le_of_ble_eq_true rfl) (fun x C hl X => ?_)
  subst hl
  exact xw_X6_node C X h
set_option maxHeartbeats 4000000 in
set_option maxRecDepth 100000 in
theorem xw_X6_edge {x : Cx} {g : Gb} {a1 : Int32} {a2 : Int32} {a3 : Int32} {σ : WD} {e : Nat} (C : CF x g RX6 cX6_edge 4 (rmx 8 113)) (X : CT x g σ e) (h : f_X6_edge a1 a2 a3 σ = some (.inr e)) : WW x g 4 0 0 0 [(0, .ref (adr g 0)), (1, .int a1), (2, .int a2), (3, .int a3)] [] σ := by
  unfold f_X6_edge at h
  refine x_aload_n C dX6_edge_0 rfl 0 rfl 1 rfl ?_
  refine x_iload_n C dX6_edge_1 rfl 1 rfl 2 rfl ?_
  rcases bx_inr h with hx | ⟨p2, h2, h⟩
  · exact x_outV C X 0 [.int a1] (x_X6_requireNode X.1 hx) mi_X6_requireNode (gt_0 g _) rfl q_474 rfl ⟨rfl, rfl⟩ ⟨Nat.le_of_ble_eq_true rfl, Nat.le_of_ble_eq_true rfl⟩ ⟨Nat.le_of_ble_eq_true rfl, Nat.le_of_ble_eq_true rfl⟩ _ rfl (Nat.le_of_ble_eq_true rfl) dX6_edge_2
  refine x_callV C 0 [.int a1] (c_X6_requireNode  h2) mi_X6_requireNode (gt_0 g _) rfl q_474 rfl ⟨rfl, rfl⟩ ⟨Nat.le_of_ble_eq_true rfl, Nat.le_of_ble_eq_true rfl⟩ ⟨Nat.zero_le _, Nat.zero_le _⟩ _ rfl (Nat.le_of_ble_eq_true rfl) dX6_edge_2 5 rfl ?_
  refine x_aload_n C dX6_edge_5 rfl 0 rfl 6 rfl ?_
  refine x_iload_n C dX6_edge_6 rfl 2 rfl 7 rfl ?_
  rcases bx_inr h with hx | ⟨p7, h7, h⟩
  · exact x_outV C X 0 [.int a2] (x_X6_requireNode X.1 hx) mi_X6_requireNode (gt_0 g _) rfl q_474 rfl ⟨rfl, rfl⟩ ⟨Nat.le_of_ble_eq_true rfl, Nat.le_of_ble_eq_true rfl⟩ ⟨Nat.le_of_ble_eq_true rfl, Nat.le_of_ble_eq_true rfl⟩ _ rfl (Nat.le_of_ble_eq_true rfl) dX6_edge_7
  refine x_callV C 0 [.int a2] (c_X6_requireNode  h7) mi_X6_requireNode (gt_0 g _) rfl q_474 rfl ⟨rfl, rfl⟩ ⟨Nat.le_of_ble_eq_true rfl, Nat.le_of_ble_eq_true rfl⟩ ⟨Nat.zero_le _, Nat.zero_le _⟩ _ rfl (Nat.le_of_ble_eq_true rfl) dX6_edge_7 10 rfl ?_
  refine x_iload_n C dX6_edge_10 rfl 3 rfl 11 rfl ?_
  by_cases hc0 : a3 = 0
  · have h := ip hc0 h
    refine x_tabIn C 0 hc0 dX6_edge_11 25 (by decide +kernel) 36 (by decide) ?_
    exact (ml_inr h).elim
  · have h := iq hc0 h
    by_cases hc1 : a3 = 1
    · have h := ip hc1 h
      refine x_tabIn C 1 hc1 dX6_edge_11 43 (by decide +kernel) 54 (by decide) ?_
      exact (ml_inr h).elim
    · have h := iq hc1 h
      by_cases hc2 : a3 = 2
      · have h := ip hc2 h
        refine x_tabIn C 2 hc2 dX6_edge_11 61 (by decide +kernel) 72 (by decide) ?_
        exact (ml_inr h).elim
      · have h := iq hc2 h
        refine x_tabOut C dX6_edge_11 (sw_out 2 (by decide) (fun k hk => by
          have hk : k = 0 ∨ k = 1 ∨ k = 2 := by omega
          rcases hk with rfl | rfl | rfl <;> assumption)) 82 (by decide) ?_
        cases h
        exact x_throwSW C X (by decide) q_394 q_13 (List.mem_of_getElem? (i := 0) rfl) rfl (List.mem_of_getElem? (i := 4) rfl) xg_1 xb_1 xo_1 (Nat.le_of_ble_eq_true rfl) (Nat.le_of_ble_eq_true rfl) ⟨Nat.le_of_ble_eq_true rfl, Nat.le_of_ble_eq_true rfl⟩ dX6_edge_82 dX6_edge_85 dX6_edge_86 dX6_edge_89 dX6_edge_92
set_option maxHeartbeats 4000000 in
set_option maxRecDepth 100000 in
theorem x_X6_edge {l : Launch} {g : Gb} {a1 : Int32} {a2 : Int32} {a3 : Int32} {σ : WD} {e : Nat} (hl9 : l.stackTraces = false) (h : f_X6_edge a1 a2 a3 σ = some (.inr e)) : MX l g yX6_edge (.code yX6_edge cX6_edge 4 (some (.int))) (rmx 8 113) [.ref (adr g 0), .int a1, .int a2, .int a3] σ e := by
  refine MX.of hl9 (by decide) (Nat.le_of_ble_eq_true rfl) (fun x C hl X => ?_)
  subst hl
  exact xw_X6_edge C X h
set_option maxHeartbeats 4000000 in
set_option maxRecDepth 100000 in
theorem xw_X6_count {x : Cx} {g : Gb} {a1 : Int32} {σ : WD} {e : Nat} (C : CF x g RX6 cX6_count 2 (rmx 7 91)) (X : CT x g σ e) (h : f_X6_count a1 σ = some (.inr e)) : WW x g 2 0 0 0 [(0, .ref (adr g 0)), (1, .int a1)] [] σ := by
  unfold f_X6_count at h
  refine x_iload_n C dX6_count_0 rfl 1 rfl 1 rfl ?_
  by_cases hc0 : a1 = 0
  · have h := ip hc0 h
    refine x_tabIn C 0 hc0 dX6_count_1 59 (by decide +kernel) 60 (by decide) ?_
    exact (ml_inr h).elim
  · have h := iq hc0 h
    by_cases hc1 : a1 = 1
    · have h := ip hc1 h
      refine x_tabIn C 1 hc1 dX6_count_1 67 (by decide +kernel) 68 (by decide) ?_
      exact (ml_inr h).elim
    · have h := iq hc1 h
      by_cases hc2 : a1 = 2
      · have h := ip hc2 h
        refine x_tabIn C 2 hc2 dX6_count_1 75 (by decide +kernel) 76 (by decide) ?_
        exact (ml_inr h).elim
      · have h := iq hc2 h
        by_cases hc3 : a1 = 3
        · have h := ip hc3 h
          refine x_tabIn C 3 hc3 dX6_count_1 83 (by decide +kernel) 84 (by decide) ?_
          exact (ml_inr h).elim
        · have h := iq hc3 h
          by_cases hc4 : a1 = 4
          · have h := ip hc4 h
            refine x_tabIn C 4 hc4 dX6_count_1 91 (by decide +kernel) 92 (by decide) ?_
            exact (ml_inr h).elim
          · have h := iq hc4 h
            by_cases hc5 : a1 = 5
            · have h := ip hc5 h
              refine x_tabIn C 5 hc5 dX6_count_1 96 (by decide +kernel) 97 (by decide) ?_
              exact (ml_inr h).elim
            · have h := iq hc5 h
              by_cases hc6 : a1 = 6
              · have h := ip hc6 h
                refine x_tabIn C 6 hc6 dX6_count_1 104 (by decide +kernel) 105 (by decide) ?_
                exact (ml_inr h).elim
              · have h := iq hc6 h
                by_cases hc7 : a1 = 7
                · have h := ip hc7 h
                  refine x_tabIn C 7 hc7 dX6_count_1 119 (by decide +kernel) 120 (by decide) ?_
                  exact (ml_inr h).elim
                · have h := iq hc7 h
                  by_cases hc8 : a1 = 8
                  · have h := ip hc8 h
                    refine x_tabIn C 8 hc8 dX6_count_1 128 (by decide +kernel) 129 (by decide) ?_
                    exact (ml_inr h).elim
                  · have h := iq hc8 h
                    by_cases hc9 : a1 = 9
                    · have h := ip hc9 h
                      refine x_tabIn C 9 hc9 dX6_count_1 144 (by decide +kernel) 145 (by decide) ?_
                      exact (ml_inr h).elim
                    · have h := iq hc9 h
                      by_cases hc10 : a1 = 10
                      · have h := ip hc10 h
                        refine x_tabIn C 10 hc10 dX6_count_1 160 (by decide +kernel) 161 (by decide) ?_
                        exact (ml_inr h).elim
                      · have h := iq hc10 h
                        refine x_tabOut C dX6_count_1 (sw_out 10 (by decide) (fun k hk => by
                          have hk : k = 0 ∨ k = 1 ∨ k = 2 ∨ k = 3 ∨ k = 4 ∨ k = 5 ∨ k = 6 ∨ k = 7 ∨ k = 8 ∨ k = 9 ∨ k = 10 := by omega
                          rcases hk with rfl | rfl | rfl | rfl | rfl | rfl | rfl | rfl | rfl | rfl | rfl <;> assumption)) 169 (by decide) ?_
                        cases h
                        exact x_throwSW C X (by decide) q_394 q_13 (List.mem_of_getElem? (i := 0) rfl) rfl (List.mem_of_getElem? (i := 0) rfl) xg_1 xb_1 xo_1 (Nat.le_of_ble_eq_true rfl) (Nat.le_of_ble_eq_true rfl) ⟨Nat.le_of_ble_eq_true rfl, Nat.le_of_ble_eq_true rfl⟩ dX6_count_169 dX6_count_172 dX6_count_173 dX6_count_176 dX6_count_179
set_option maxHeartbeats 4000000 in
set_option maxRecDepth 100000 in
theorem x_X6_count {l : Launch} {g : Gb} {a1 : Int32} {σ : WD} {e : Nat} (hl9 : l.stackTraces = false) (h : f_X6_count a1 σ = some (.inr e)) : MX l g yX6_count (.code yX6_count cX6_count 2 (some (.int))) (rmx 7 91) [.ref (adr g 0), .int a1] σ e := by
  refine MX.of hl9 (by decide) (Nat.le_of_ble_eq_true rfl) (fun x C hl X => ?_)
  subst hl
  exact xw_X6_count C X h
set_option maxHeartbeats 4000000 in
set_option maxRecDepth 100000 in
theorem xw_X6_difference {x : Cx} {g : Gb} {a1 : Int32} {σ : WD} {e : Nat} (C : CF x g RX6 cX6_difference 8 (rmx 7 91)) (X : CT x g σ e) (h : f_X6_difference a1 σ = some (.inr e)) : WW x g 8 0 0 0 [(0, .ref (adr g 0)), (1, .int a1)] [] σ := by
  unfold f_X6_difference at h
  refine x_iload_n C dX6_difference_0 rfl 1 rfl 1 rfl ?_
  refine x_if_eq C dX6_difference_1 20 (by decide) 4 rfl (fun hc => ?_) (fun hc => ?_)
  · have h := ip hc h
    exact (ml_inr h).elim
  · have h := iq hc h
    refine x_iload_n C dX6_difference_4 rfl 1 rfl 5 rfl ?_
    refine x_iconst C (v := 1) dX6_difference_5 (by decide) 6 rfl ?_
    refine x_icmp_eq C dX6_difference_6 20 (by decide) 9 rfl (fun hc => ?_) (fun hc => ?_)
    · have h := ip hc h
      exact (ml_inr h).elim
    · have h := iq hc h
      cases h
      exact x_throwSW C X (by decide) q_394 q_13 (List.mem_of_getElem? (i := 0) rfl) rfl (List.mem_of_getElem? (i := 5) rfl) xg_1 xb_1 xo_1 (Nat.le_of_ble_eq_true rfl) (Nat.le_of_ble_eq_true rfl) ⟨Nat.le_of_ble_eq_true rfl, Nat.le_of_ble_eq_true rfl⟩ dX6_difference_9 dX6_difference_12 dX6_difference_13 dX6_difference_16 dX6_difference_19
set_option maxHeartbeats 4000000 in
set_option maxRecDepth 100000 in
theorem x_X6_difference {l : Launch} {g : Gb} {a1 : Int32} {σ : WD} {e : Nat} (hl9 : l.stackTraces = false) (h : f_X6_difference a1 σ = some (.inr e)) : MX l g yX6_difference (.code yX6_difference cX6_difference 8 (some (.int))) (rmx 7 91) [.ref (adr g 0), .int a1] σ e := by
  refine MX.of hl9 (by decide) (Nat.le_of_ble_eq_true rfl) (fun x C hl X => ?_)
  subst hl
  exact xw_X6_difference C X h
