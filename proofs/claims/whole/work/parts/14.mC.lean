set_option maxHeartbeats 4000000 in
set_option maxRecDepth 100000 in
theorem w_X5_numberPairs_b4 {x : Cx} {g : Gb} {E : (Int32 × Int32 × WD) ⊕ (WD) → Prop} (C : CF x g RX5 cX5_numberPairs 4 (rmk 1 1))  {l1 : Int32} {l2 : Int32} {σ : WD} (hI0 : ∀ s, E (.inl s) → WW x g 4 0 0 4 [(0, .ref (adr g 18)), (1, .int s.1), (2, .int s.2.1)] [] s.2.2) (hE : ∀ (s2 : WD), E (.inr s2) → ∀ pc lv, decode cX5_numberPairs pc = .ok (.return_, 1) → WW x g 4 0 0 pc lv [] s2) {t : (Int32 × Int32 × WD) ⊕ (WD)} (h : f_X5_numberPairs_b4 l1 l2 σ = some t) (ht : E t) : WW x g 4 0 0 4 [(0, .ref (adr g 18)), (1, .int l1), (2, .int l2)] [] σ := by
  unfold f_X5_numberPairs_b4 at h
  refine x_iload_n C dX5_numberPairs_4 rfl 2 rfl 5 rfl ?_
  refine x_aload_n C dX5_numberPairs_5 rfl 0 rfl 6 rfl ?_
  refine gf_110_18 C dX5_numberPairs_6 9 rfl ?_
  refine gf_34_1 C dX5_numberPairs_9 12 rfl ?_
  refine x_icmp_ge C dX5_numberPairs_12 69 (by decide) 15 rfl (fun hc => ?_) (fun hc => ?_)
  · have h := ip hc h
    cases h
    exact hE _ ht 69 _ dX5_numberPairs_69
  · have h := iq hc h
    refine x_aload_n C dX5_numberPairs_15 rfl 0 rfl 16 rfl ?_
    refine gf_111_18 C dX5_numberPairs_16 19 rfl ?_
    refine gf_61_3 C dX5_numberPairs_19 22 rfl ?_
    refine x_iload_n C dX5_numberPairs_22 rfl 2 rfl 23 rfl ?_
    obtain ⟨hin, h⟩ := gi_some h
    refine x_iald C 4 (gt_4 g _) hin dX5_numberPairs_23 24 rfl ?_
    obtain ⟨v24, e24, h⟩ := li_some h
    refine x_te e24 ?_
    refine x_istore_n C [(3, .int v24), (0, .ref (adr g 18)), (1, .int l1), (2, .int l2)] dX5_numberPairs_24 rfl (by decide) rfl 25 rfl ?_
    refine x_iload_n C dX5_numberPairs_25 rfl 0 rfl 26 rfl ?_
    refine x_iconst C (v := -1) dX5_numberPairs_26 (by decide) 27 rfl ?_
    refine x_icmp_ne C dX5_numberPairs_27 40 (by decide) 30 rfl (fun hc => ?_) (fun hc => ?_)
    · have h := iq hc h
      refine x_iload_n C dX5_numberPairs_40 rfl 0 rfl 41 rfl ?_
      refine x_iload_n C dX5_numberPairs_41 rfl 3 rfl 42 rfl ?_
      refine x_icmp_le C dX5_numberPairs_42 63 (by decide) 45 rfl (fun hc => ?_) (fun hc => ?_)
      · have h := ip hc h
        refine x_iinc C [(2, .int (l2 + 1)), (3, .int v24), (0, .ref (adr g 18)), (1, .int l1)] dX5_numberPairs_63 3 rfl rfl (by decide) rfl 66 rfl ?_
        refine x_goto C dX5_numberPairs_66 4 (by decide) ?_
        cases h
        exact x_sub [2, 3, 0] rfl (hI0 (l1, (l2 + 1), σ) ht)
      · have h := iq hc h
        refine x_aload_n C dX5_numberPairs_45 rfl 1 rfl 46 rfl ?_
        refine gf_112_18 C dX5_numberPairs_46 49 rfl ?_
        refine x_iload_n C dX5_numberPairs_49 rfl 3 rfl 50 rfl ?_
        refine x_iload_n C dX5_numberPairs_50 rfl 2 rfl 51 rfl ?_
        obtain ⟨hin, h⟩ := gi_some h
        refine x_iast C 19 (gt_19 g _) (st_19 g _) hin dX5_numberPairs_51 52 rfl ?_
        obtain ⟨σ51, e51, h⟩ := lt_some h
        refine x_we e51 ?_
        refine x_aload_n C dX5_numberPairs_52 rfl 1 rfl 53 rfl ?_
        refine gf_112_18 C dX5_numberPairs_53 56 rfl ?_
        refine x_iload_n C dX5_numberPairs_56 rfl 0 rfl 57 rfl ?_
        refine x_iload_n C dX5_numberPairs_57 rfl 2 rfl 58 rfl ?_
        obtain ⟨hin, h⟩ := gi_some h
        refine x_iast C 19 (gt_19 g _) (st_19 g _) hin dX5_numberPairs_58 59 rfl ?_
        obtain ⟨σ58, e58, h⟩ := lt_some h
        refine x_we e58 ?_
        refine x_iload_n C dX5_numberPairs_59 rfl 2 rfl 60 rfl ?_
        refine x_iconst C (v := 1) dX5_numberPairs_60 (by decide) 61 rfl ?_
        refine x_ishl C dX5_numberPairs_61 62 rfl ?_
        obtain ⟨v62, e62, h⟩ := li_some h
        refine x_te e62 ?_
        refine x_istore_n C [(1, .int v62), (3, .int v24), (0, .ref (adr g 18)), (2, .int l2)] dX5_numberPairs_62 rfl (by decide) rfl 63 rfl ?_
        refine x_iinc C [(2, .int (l2 + 1)), (1, .int v62), (3, .int v24), (0, .ref (adr g 18))] dX5_numberPairs_63 3 rfl rfl (by decide) rfl 66 rfl ?_
        refine x_goto C dX5_numberPairs_66 4 (by decide) ?_
        cases h
        exact x_sub [3, 1, 0] rfl (hI0 (v62, (l2 + 1), σ58) ht)
    · have h := ip hc h
      refine x_aload_n C dX5_numberPairs_30 rfl 1 rfl 31 rfl ?_
      refine gf_112_18 C dX5_numberPairs_31 34 rfl ?_
      refine x_iload_n C dX5_numberPairs_34 rfl 3 rfl 35 rfl ?_
      refine x_iconst C (v := 0) dX5_numberPairs_35 (by decide) 36 rfl ?_
      obtain ⟨hin, h⟩ := gi_some h
      refine x_iast C 19 (gt_19 g _) (st_19 g _) hin dX5_numberPairs_36 37 rfl ?_
      obtain ⟨σ36, e36, h⟩ := lt_some h
      refine x_we e36 ?_
      refine x_goto C dX5_numberPairs_37 63 (by decide) ?_
      refine x_iinc C [(2, .int (l2 + 1)), (3, .int v24), (0, .ref (adr g 18)), (1, .int l1)] dX5_numberPairs_63 3 rfl rfl (by decide) rfl 66 rfl ?_
      refine x_goto C dX5_numberPairs_66 4 (by decide) ?_
      cases h
      exact x_sub [2, 3, 0] rfl (hI0 (l1, (l2 + 1), σ36) ht)
set_option maxHeartbeats 4000000 in
set_option maxRecDepth 100000 in
theorem w_X5_numberPairs_4 {x : Cx} {g : Gb} {E : WD → Prop} (C : CF x g RX5 cX5_numberPairs 4 (rmk 1 1))  {l1 : Int32} {l2 : Int32} {σ : WD} (hE : ∀ (s2 : WD), E s2 → ∀ pc lv, decode cX5_numberPairs pc = .ok (.return_, 1) → WW x g 4 0 0 pc lv [] s2) {t : WD} (h : f_X5_numberPairs_4 l1 l2 σ = some t) (ht : E t) : WW x g 4 0 0 4 [(0, .ref (adr g 18)), (1, .int l1), (2, .int l2)] [] σ := by
  unfold f_X5_numberPairs_4 at h
  exact lp_ind (fun s : Int32 × Int32 × WD => WW x g 4 0 0 4 [(0, .ref (adr g 18)), (1, .int s.1), (2, .int s.2.1)] [] s.2.2) E h ht (fun s y hb hy => w_X5_numberPairs_b4 (E := Sum.elim (fun s : Int32 × Int32 × WD => WW x g 4 0 0 4 [(0, .ref (adr g 18)), (1, .int s.1), (2, .int s.2.1)] [] s.2.2) E) C  (fun _ h => h)  hE hb hy)
set_option maxHeartbeats 4000000 in
set_option maxRecDepth 100000 in
theorem w_X5_numberPairs {x : Cx} {g : Gb} {E : WD → Prop} (C : CF x g RX5 cX5_numberPairs 4 (rmk 1 1))   {σ : WD} (hE : ∀ (s2 : WD), E s2 → ∀ pc lv, decode cX5_numberPairs pc = .ok (.return_, 1) → WW x g 4 0 0 pc lv [] s2) {t : WD} (h : f_X5_numberPairs  σ = some t) (ht : E t) : WW x g 4 0 0 0 [(0, .ref (adr g 18))] [] σ := by
  unfold f_X5_numberPairs at h
  refine x_iconst C (v := 1) dX5_numberPairs_0 (by decide) 1 rfl ?_
  refine x_istore_n C [(1, .int 1), (0, .ref (adr g 18))] dX5_numberPairs_1 rfl (by decide) rfl 2 rfl ?_
  refine x_iconst C (v := 0) dX5_numberPairs_2 (by decide) 3 rfl ?_
  refine x_istore_n C [(2, .int 0), (1, .int 1), (0, .ref (adr g 18))] dX5_numberPairs_3 rfl (by decide) rfl 4 rfl ?_
  exact x_sub [2, 1, 0] rfl (w_X5_numberPairs_4 C  hE h ht)
set_option maxHeartbeats 4000000 in
set_option maxRecDepth 100000 in
theorem c_X5_numberPairs {g : Gb} {l : Launch}   {σ : WD} {σ2 : WD} (h : f_X5_numberPairs  σ = some σ2) : MC l g yX5_numberPairs (.code yX5_numberPairs cX5_numberPairs 4 none) (rmk 1 1) [.ref (adr g 18)] σ none σ2 := by
  refine MC.of (by decide) (Nat.le_of_ble_eq_true rfl) (fun x C hl hr hq => ?_)
  subst hl
  exact w_X5_numberPairs (E := fun z => z = σ2) C  (fun a he pc lv hd => by cases he; exact x_vret C hr hq hd) h rfl
set_option maxHeartbeats 4000000 in
set_option maxRecDepth 100000 in
theorem w_X5_followWayTo {x : Cx} {g : Gb} {E : Int32 × WD → Prop} {d : Nat} {fr : Int32 → Int32 → Int32 → WD → Option (Int32 × WD)} (hfr : ∀ {z0 : Int32} {z1 : Int32} {z2 : Int32} {zσ : WD} {zr : Int32} {zs : WD}, fr z0 z1 z2 zσ = some (zr, zs) → MC x.2.1 g yX5_followWay (.code yX5_followWay cX5_followWay 6 (some (.boolean))) (rmk (3 + 2 * d) (90 + 50 * d)) [.ref (adr g 18), .int z0, .int z1, .int z2] zσ (some (.int zr)) zs) (C : CF x g RX5 cX5_followWayTo 6 (rmk (3 + 2 * d + 1) (90 + 50 * d + 25)))  {a1 : Int32} {a2 : Int32} {a3 : Int32} {a4 : Int32} {σ : WD} (hE : ∀ (a : Int32) (s2 : WD), E (a, s2) → ∀ pc lv, narrow .boolean (.int a) = .int a → decode cX5_followWayTo pc = .ok (.ireturn, 1) → WW x g 6 0 0 pc lv [.int a] s2) {t : Int32 × WD} (h : f_X5_followWayTo fr a1 a2 a3 a4 σ = some t) (ht : E t) : WW x g 6 0 0 0 [(0, .ref (adr g 18)), (1, .int a1), (2, .int a2), (3, .int a3), (4, .int a4)] [] σ := by
  unfold f_X5_followWayTo at h
  refine x_aload_n C dX5_followWayTo_0 rfl 0 rfl 1 rfl ?_
  refine gf_112_18 C dX5_followWayTo_1 4 rfl ?_
  refine x_iload_n C dX5_followWayTo_4 rfl 1 rfl 5 rfl ?_
  obtain ⟨hin, h⟩ := gi_some h
  refine x_iald C 19 (gt_19 g _) hin dX5_followWayTo_5 6 rfl ?_
  obtain ⟨v6, e6, h⟩ := li_some h
  refine x_te e6 ?_
  refine x_istore C [(5, .int v6), (0, .ref (adr g 18)), (1, .int a1), (2, .int a2), (3, .int a3), (4, .int a4)] dX5_followWayTo_6 (by decide) rfl 8 rfl ?_
  refine x_iload C dX5_followWayTo_8 5 rfl 10 rfl ?_
  refine x_if_ne C dX5_followWayTo_10 43 (by decide) 13 rfl (fun hc => ?_) (fun hc => ?_)
  · have h := iq hc h
    refine x_iload C dX5_followWayTo_43 0 rfl 45 rfl ?_
    refine x_if_eq C dX5_followWayTo_45 55 (by decide) 48 rfl (fun hc => ?_) (fun hc => ?_)
    · have h := ip hc h
      refine x_iconst C (v := 0) dX5_followWayTo_55 (by decide) 56 rfl ?_
      cases h
      exact hE _ _ ht 56 _ rfl dX5_followWayTo_56
    · have h := iq hc h
      refine x_iload C dX5_followWayTo_48 0 rfl 50 rfl ?_
      refine x_iload_n C dX5_followWayTo_50 rfl 4 rfl 51 rfl ?_
      refine x_iand C dX5_followWayTo_51 52 rfl ?_
      refine x_if_eq C dX5_followWayTo_52 57 (by decide) 55 rfl (fun hc => ?_) (fun hc => ?_)
      · have h := ip hc h
        refine x_aload_n C dX5_followWayTo_57 rfl 1 rfl 58 rfl ?_
        refine gf_114_18 C dX5_followWayTo_58 61 rfl ?_
        refine x_iload_n C dX5_followWayTo_61 rfl 3 rfl 62 rfl ?_
        refine x_iconst C (v := 1) dX5_followWayTo_62 (by decide) 63 rfl ?_
        refine x_iadd C dX5_followWayTo_63 64 rfl ?_
        refine x_iload_n C dX5_followWayTo_64 rfl 2 rfl 65 rfl ?_
        obtain ⟨hin, h⟩ := gi_some h
        refine x_iast C 21 (gt_21 g _) (st_21 g _) hin dX5_followWayTo_65 66 rfl ?_
        obtain ⟨σ65, e65, h⟩ := lt_some h
        refine x_we e65 ?_
        refine x_aload_n C dX5_followWayTo_66 rfl 1 rfl 67 rfl ?_
        refine gf_114_18 C dX5_followWayTo_67 70 rfl ?_
        refine x_iload_n C dX5_followWayTo_70 rfl 3 rfl 71 rfl ?_
        refine x_iconst C (v := 2) dX5_followWayTo_71 (by decide) 72 rfl ?_
        refine x_iadd C dX5_followWayTo_72 73 rfl ?_
        refine x_aload_n C dX5_followWayTo_73 rfl 1 rfl 74 rfl ?_
        refine gf_111_18 C dX5_followWayTo_74 77 rfl ?_
        refine gf_61_3 C dX5_followWayTo_77 80 rfl ?_
        refine x_iload_n C dX5_followWayTo_80 rfl 2 rfl 81 rfl ?_
        obtain ⟨hin, h⟩ := gi_some h
        refine x_iald C 4 (gt_4 g _) hin dX5_followWayTo_81 82 rfl ?_
        obtain ⟨hin, h⟩ := gi_some h
        refine x_iast C 21 (gt_21 g _) (st_21 g _) hin dX5_followWayTo_82 83 rfl ?_
        obtain ⟨σ82, e82, h⟩ := lt_some h
        refine x_we e82 ?_
        refine x_aload_n C dX5_followWayTo_83 rfl 1 rfl 84 rfl ?_
        refine x_iload_n C dX5_followWayTo_84 rfl 3 rfl 85 rfl ?_
        refine x_iconst C (v := 2) dX5_followWayTo_85 (by decide) 86 rfl ?_
        refine x_iadd C dX5_followWayTo_86 87 rfl ?_
        refine x_iload_n C dX5_followWayTo_87 rfl 4 rfl 88 rfl ?_
        refine x_iload C dX5_followWayTo_88 0 rfl 90 rfl ?_
        refine x_ior C dX5_followWayTo_90 91 rfl ?_
        refine x_iload C dX5_followWayTo_91 5 rfl 93 rfl ?_
        refine x_iconst C (v := 1) dX5_followWayTo_93 (by decide) 94 rfl ?_
        refine x_isub C dX5_followWayTo_94 95 rfl ?_
        obtain ⟨r95, σ95, h95, h⟩ := bn_some h
        refine x_callV C 18 [.int (a2 + 2), .int (a3 ||| v6), .int (a4 - 1)] (hfr h95) mi_X5_followWay (gt_18 g _) rfl q_243 rfl ⟨rfl, rfl⟩ ⟨by simp only [rmk]; omega, by simp only [rmk]; omega⟩ ⟨Nat.zero_le _, Nat.zero_le _⟩ _ rfl (Nat.le_of_ble_eq_true rfl) dX5_followWayTo_95 98 rfl ?_
        obtain ⟨hnb, h⟩ := gb_some h
        cases h
        exact hE _ _ ht 98 _ hnb dX5_followWayTo_98
      · have h := iq hc h
        refine x_iconst C (v := 0) dX5_followWayTo_55 (by decide) 56 rfl ?_
        cases h
        exact hE _ _ ht 56 _ rfl dX5_followWayTo_56
  · have h := ip hc h
    refine x_aload_n C dX5_followWayTo_13 rfl 1 rfl 14 rfl ?_
    refine gf_114_18 C dX5_followWayTo_14 17 rfl ?_
    refine x_iload_n C dX5_followWayTo_17 rfl 3 rfl 18 rfl ?_
    refine x_iconst C (v := 1) dX5_followWayTo_18 (by decide) 19 rfl ?_
    refine x_iadd C dX5_followWayTo_19 20 rfl ?_
    refine x_iload_n C dX5_followWayTo_20 rfl 2 rfl 21 rfl ?_
    obtain ⟨hin, h⟩ := gi_some h
    refine x_iast C 21 (gt_21 g _) (st_21 g _) hin dX5_followWayTo_21 22 rfl ?_
    obtain ⟨σ21, e21, h⟩ := lt_some h
    refine x_we e21 ?_
    refine x_iload C dX5_followWayTo_22 0 rfl 24 rfl ?_
    refine x_if_ne C dX5_followWayTo_24 41 (by decide) 27 rfl (fun hc => ?_) (fun hc => ?_)
    · have h := iq hc h
      refine x_iconst C (v := 0) dX5_followWayTo_41 (by decide) 42 rfl ?_
      cases h
      exact hE _ _ ht 42 _ rfl dX5_followWayTo_42
    · have h := ip hc h
      refine x_iload_n C dX5_followWayTo_27 rfl 2 rfl 28 rfl ?_
      refine x_aload_n C dX5_followWayTo_28 rfl 1 rfl 29 rfl ?_
      refine gf_114_18 C dX5_followWayTo_29 32 rfl ?_
      refine x_iconst C (v := 0) dX5_followWayTo_32 (by decide) 33 rfl ?_
      obtain ⟨hin, h⟩ := gi_some h
      refine x_iald C 21 (gt_21 g _) hin dX5_followWayTo_33 34 rfl ?_
      refine x_icmp_eq C dX5_followWayTo_34 41 (by decide) 37 rfl (fun hc => ?_) (fun hc => ?_)
      · have h := ip hc h
        refine x_iconst C (v := 0) dX5_followWayTo_41 (by decide) 42 rfl ?_
        cases h
        exact hE _ _ ht 42 _ rfl dX5_followWayTo_42
      · have h := iq hc h
        refine x_iconst C (v := 1) dX5_followWayTo_37 (by decide) 38 rfl ?_
        refine x_goto C dX5_followWayTo_38 42 (by decide) ?_
        cases h
        exact hE _ _ ht 42 _ rfl dX5_followWayTo_42
set_option maxHeartbeats 4000000 in
set_option maxRecDepth 100000 in
theorem c_X5_followWayTo {g : Gb} {l : Launch} {d : Nat} {fr : Int32 → Int32 → Int32 → WD → Option (Int32 × WD)} (hfr : ∀ {z0 : Int32} {z1 : Int32} {z2 : Int32} {zσ : WD} {zr : Int32} {zs : WD}, fr z0 z1 z2 zσ = some (zr, zs) → MC l g yX5_followWay (.code yX5_followWay cX5_followWay 6 (some (.boolean))) (rmk (3 + 2 * d) (90 + 50 * d)) [.ref (adr g 18), .int z0, .int z1, .int z2] zσ (some (.int zr)) zs)  {a1 : Int32} {a2 : Int32} {a3 : Int32} {a4 : Int32} {σ : WD} {r : Int32} {σ2 : WD} (h : f_X5_followWayTo fr a1 a2 a3 a4 σ = some (r, σ2)) : MC l g yX5_followWayTo (.code yX5_followWayTo cX5_followWayTo 6 (some (.boolean))) (rmk (3 + 2 * d + 1) (90 + 50 * d + 25)) [.ref (adr g 18), .int a1, .int a2, .int a3, .int a4] σ (some (.int r)) σ2 := by
  refine MC.of (by decide) (Nat.le_of_ble_eq_true rfl) (fun x C hl hr hq => ?_)
  subst hl
  exact w_X5_followWayTo (E := fun z => z = (r, σ2)) hfr C  (fun a s2 he pc lv hn hd => by cases he; exact x_zret C hr hq hn hd) h rfl
set_option maxHeartbeats 4000000 in
set_option maxRecDepth 100000 in
theorem w_X5_followWay_b40 {x : Cx} {g : Gb} {E : (Int32 × WD) ⊕ (Int32 × WD) → Prop} {d : Nat} {fr : Int32 → Int32 → Int32 → WD → Option (Int32 × WD)} (hfr : ∀ {z0 : Int32} {z1 : Int32} {z2 : Int32} {zσ : WD} {zr : Int32} {zs : WD}, fr z0 z1 z2 zσ = some (zr, zs) → MC x.2.1 g yX5_followWay (.code yX5_followWay cX5_followWay 6 (some (.boolean))) (rmk (3 + 2 * d) (90 + 50 * d)) [.ref (adr g 18), .int z0, .int z1, .int z2] zσ (some (.int zr)) zs) (C : CF x g RX5 cX5_followWay 6 (rmk (3 + 2 * d + 2) (90 + 50 * d + 50)))  {l1 : Int32} {l2 : Int32} {l3 : Int32} {l4 : Int32} {l5 : Int32} {σ : WD} (hI0 : ∀ s, E (.inl s) → WW x g 6 0 0 40 [(0, .ref (adr g 18)), (1, .int l1), (2, .int l2), (3, .int l3), (4, .int l4), (5, .int s.1)] [] s.2) (hE : ∀ (a : Int32) (s2 : WD), E (.inr (a, s2)) → ∀ pc lv, narrow .boolean (.int a) = .int a → decode cX5_followWay pc = .ok (.ireturn, 1) → WW x g 6 0 0 pc lv [.int a] s2) {t : (Int32 × WD) ⊕ (Int32 × WD)} (h : f_X5_followWay_b40 fr l1 l2 l3 l4 l5 σ = some t) (ht : E t) : WW x g 6 0 0 40 [(0, .ref (adr g 18)), (1, .int l1), (2, .int l2), (3, .int l3), (4, .int l4), (5, .int l5)] [] σ := by
  unfold f_X5_followWay_b40 at h
  refine x_iload C dX5_followWay_40 5 rfl 42 rfl ?_
  refine x_aload_n C dX5_followWay_42 rfl 0 rfl 43 rfl ?_
  refine gf_110_18 C dX5_followWay_43 46 rfl ?_
  refine gf_34_1 C dX5_followWay_46 49 rfl ?_
  refine x_icmp_ge C dX5_followWay_49 86 (by decide) 52 rfl (fun hc => ?_) (fun hc => ?_)
  · have h := ip hc h
    refine x_iconst C (v := 0) dX5_followWay_86 (by decide) 87 rfl ?_
    cases h
    exact hE _ _ ht 87 _ rfl dX5_followWay_87
  · have h := iq hc h
    refine x_aload_n C dX5_followWay_52 rfl 0 rfl 53 rfl ?_
    refine gf_110_18 C dX5_followWay_53 56 rfl ?_
    refine x_iload C dX5_followWay_56 4 rfl 58 rfl ?_
    refine x_iload C dX5_followWay_58 5 rfl 60 rfl ?_
    obtain ⟨r60, h60, h⟩ := bv_some h
    refine x_callV C 1 [.int l4, .int l5] (c_X0_joined  h60) mi_X0_joined (gt_1 g _) rfl q_247 rfl ⟨rfl, rfl⟩ ⟨by simp only [rmk]; omega, by simp only [rmk]; omega⟩ ⟨Nat.zero_le _, Nat.zero_le _⟩ _ rfl (Nat.le_of_ble_eq_true rfl) dX5_followWay_60 63 rfl ?_
    refine x_if_eq C dX5_followWay_63 80 (by decide) 66 rfl (fun hc => ?_) (fun hc => ?_)
    · have h := ip hc h
      refine x_iinc C [(5, .int (l5 + 1)), (0, .ref (adr g 18)), (1, .int l1), (2, .int l2), (3, .int l3), (4, .int l4)] dX5_followWay_80 5 rfl rfl (by decide) rfl 83 rfl ?_
      refine x_goto C dX5_followWay_83 40 (by decide) ?_
      cases h
      exact x_sub [1, 2, 3, 4, 5, 0] rfl (hI0 ((l5 + 1), σ) ht)
    · have h := iq hc h
      refine x_aload_n C dX5_followWay_66 rfl 0 rfl 67 rfl ?_
      refine x_iload C dX5_followWay_67 5 rfl 69 rfl ?_
      refine x_iload_n C dX5_followWay_69 rfl 1 rfl 70 rfl ?_
      refine x_iload_n C dX5_followWay_70 rfl 2 rfl 71 rfl ?_
      refine x_iload_n C dX5_followWay_71 rfl 3 rfl 72 rfl ?_
      obtain ⟨r72, σ72, h72, h⟩ := bn_some h
      refine x_callV C 18 [.int l5, .int l1, .int l2, .int l3] (c_X5_followWayTo hfr h72) mi_X5_followWayTo (gt_18 g _) rfl q_251 rfl ⟨rfl, rfl⟩ ⟨by simp only [rmk]; omega, by simp only [rmk]; omega⟩ ⟨Nat.zero_le _, Nat.zero_le _⟩ _ rfl (Nat.le_of_ble_eq_true rfl) dX5_followWay_72 75 rfl ?_
      refine x_if_eq C dX5_followWay_75 80 (by decide) 78 rfl (fun hc => ?_) (fun hc => ?_)
      · have h := ip hc h
        refine x_iinc C [(5, .int (l5 + 1)), (0, .ref (adr g 18)), (1, .int l1), (2, .int l2), (3, .int l3), (4, .int l4)] dX5_followWay_80 5 rfl rfl (by decide) rfl 83 rfl ?_
        refine x_goto C dX5_followWay_83 40 (by decide) ?_
        cases h
        exact x_sub [1, 2, 3, 4, 5, 0] rfl (hI0 ((l5 + 1), σ72) ht)
      · have h := iq hc h
        refine x_iconst C (v := 1) dX5_followWay_78 (by decide) 79 rfl ?_
        cases h
        exact hE _ _ ht 79 _ rfl dX5_followWay_79
set_option maxHeartbeats 4000000 in
set_option maxRecDepth 100000 in
theorem w_X5_followWay_40 {x : Cx} {g : Gb} {E : Int32 × WD → Prop} {d : Nat} {fr : Int32 → Int32 → Int32 → WD → Option (Int32 × WD)} (hfr : ∀ {z0 : Int32} {z1 : Int32} {z2 : Int32} {zσ : WD} {zr : Int32} {zs : WD}, fr z0 z1 z2 zσ = some (zr, zs) → MC x.2.1 g yX5_followWay (.code yX5_followWay cX5_followWay 6 (some (.boolean))) (rmk (3 + 2 * d) (90 + 50 * d)) [.ref (adr g 18), .int z0, .int z1, .int z2] zσ (some (.int zr)) zs) (C : CF x g RX5 cX5_followWay 6 (rmk (3 + 2 * d + 2) (90 + 50 * d + 50)))  {l1 : Int32} {l2 : Int32} {l3 : Int32} {l4 : Int32} {l5 : Int32} {σ : WD} (hE : ∀ (a : Int32) (s2 : WD), E (a, s2) → ∀ pc lv, narrow .boolean (.int a) = .int a → decode cX5_followWay pc = .ok (.ireturn, 1) → WW x g 6 0 0 pc lv [.int a] s2) {t : Int32 × WD} (h : f_X5_followWay_40 fr l1 l2 l3 l4 l5 σ = some t) (ht : E t) : WW x g 6 0 0 40 [(0, .ref (adr g 18)), (1, .int l1), (2, .int l2), (3, .int l3), (4, .int l4), (5, .int l5)] [] σ := by
  unfold f_X5_followWay_40 at h
  exact lp_ind (fun s : Int32 × WD => WW x g 6 0 0 40 [(0, .ref (adr g 18)), (1, .int l1), (2, .int l2), (3, .int l3), (4, .int l4), (5, .int s.1)] [] s.2) E h ht (fun s y hb hy => w_X5_followWay_b40 (E := Sum.elim (fun s : Int32 × WD => WW x g 6 0 0 40 [(0, .ref (adr g 18)), (1, .int l1), (2, .int l2), (3, .int l3), (4, .int l4), (5, .int s.1)] [] s.2) E) hfr C  (fun _ h => h)  hE hb hy)
set_option maxHeartbeats 4000000 in
set_option maxRecDepth 100000 in
theorem w_X5_followWay {x : Cx} {g : Gb} {E : Int32 × WD → Prop} {d : Nat} {fr : Int32 → Int32 → Int32 → WD → Option (Int32 × WD)} (hfr : ∀ {z0 : Int32} {z1 : Int32} {z2 : Int32} {zσ : WD} {zr : Int32} {zs : WD}, fr z0 z1 z2 zσ = some (zr, zs) → MC x.2.1 g yX5_followWay (.code yX5_followWay cX5_followWay 6 (some (.boolean))) (rmk (3 + 2 * d) (90 + 50 * d)) [.ref (adr g 18), .int z0, .int z1, .int z2] zσ (some (.int zr)) zs) (C : CF x g RX5 cX5_followWay 6 (rmk (3 + 2 * d + 2) (90 + 50 * d + 50)))  {a1 : Int32} {a2 : Int32} {a3 : Int32} {σ : WD} (hE : ∀ (a : Int32) (s2 : WD), E (a, s2) → ∀ pc lv, narrow .boolean (.int a) = .int a → decode cX5_followWay pc = .ok (.ireturn, 1) → WW x g 6 0 0 pc lv [.int a] s2) {t : Int32 × WD} (h : f_X5_followWay_0 fr a1 a2 a3 σ = some t) (ht : E t) : WW x g 6 0 0 0 [(0, .ref (adr g 18)), (1, .int a1), (2, .int a2), (3, .int a3)] [] σ := by
  unfold f_X5_followWay_0 at h
  refine x_aload_n C dX5_followWay_0 rfl 0 rfl 1 rfl ?_
  refine gf_114_18 C dX5_followWay_1 4 rfl ?_
  refine x_iload_n C dX5_followWay_4 rfl 1 rfl 5 rfl ?_
  obtain ⟨hin, h⟩ := gi_some h
  refine x_iald C 21 (gt_21 g _) hin dX5_followWay_5 6 rfl ?_
  obtain ⟨v6, e6, h⟩ := li_some h
  refine x_te e6 ?_
  refine x_istore C [(4, .int v6), (0, .ref (adr g 18)), (1, .int a1), (2, .int a2), (3, .int a3)] dX5_followWay_6 (by decide) rfl 8 rfl ?_
  refine x_aload_n C dX5_followWay_8 rfl 1 rfl 9 rfl ?_
  refine gf_113_18 C dX5_followWay_9 12 rfl ?_
  refine x_iload_n C dX5_followWay_12 rfl 3 rfl 13 rfl ?_
  obtain ⟨hin, h⟩ := gi_some h
  refine x_iald C 20 (gt_20 g _) hin dX5_followWay_13 14 rfl ?_
  refine x_iload C dX5_followWay_14 0 rfl 16 rfl ?_
  refine x_ishr C dX5_followWay_16 17 rfl ?_
  refine x_iconst C (v := 1) dX5_followWay_17 (by decide) 18 rfl ?_
  refine x_iand C dX5_followWay_18 19 rfl ?_
  refine x_if_eq C dX5_followWay_19 24 (by decide) 22 rfl (fun hc => ?_) (fun hc => ?_)
  · have h := ip hc h
    refine x_aload_n C dX5_followWay_24 rfl 1 rfl 25 rfl ?_
    refine gf_113_18 C dX5_followWay_25 28 rfl ?_
    refine x_iload_n C dX5_followWay_28 rfl 3 rfl 29 rfl ?_
    refine x_dup2 C dX5_followWay_29 rfl rfl 30 rfl ?_
    obtain ⟨hin, h⟩ := gi_some h
    refine x_iald C 20 (gt_20 g _) hin dX5_followWay_30 31 rfl ?_
    refine x_iconst C (v := 1) dX5_followWay_31 (by decide) 32 rfl ?_
    refine x_iload C dX5_followWay_32 0 rfl 34 rfl ?_
    refine x_ishl C dX5_followWay_34 35 rfl ?_
    refine x_ior C dX5_followWay_35 36 rfl ?_
    obtain ⟨hin, h⟩ := gi_some h
    refine x_iast C 20 (gt_20 g _) (st_20 g _) hin dX5_followWay_36 37 rfl ?_
    obtain ⟨σ36, e36, h⟩ := lt_some h
    refine x_we e36 ?_
    refine x_iconst C (v := 0) dX5_followWay_37 (by decide) 38 rfl ?_
    refine x_istore C [(5, .int 0), (4, .int v6), (0, .ref (adr g 18)), (1, .int a1), (2, .int a2), (3, .int a3)] dX5_followWay_38 (by decide) rfl 40 rfl ?_
    exact x_sub [2, 3, 4, 5, 1, 0] rfl (w_X5_followWay_40 hfr C  hE h ht)
  · have h := iq hc h
    refine x_iconst C (v := 0) dX5_followWay_22 (by decide) 23 rfl ?_
    cases h
    exact hE _ _ ht 23 _ rfl dX5_followWay_23
set_option maxHeartbeats 4000000 in
set_option maxRecDepth 100000 in
theorem c_X5_followWay {l : Launch} {g : Gb} : ∀ {d : Nat} {a1 : Int32} {a2 : Int32} {a3 : Int32} {σ : WD} {r : Int32} {σ2 : WD}, f_X5_followWay d a1 a2 a3 σ = some (r, σ2) → MC l g yX5_followWay (.code yX5_followWay cX5_followWay 6 (some (.boolean))) (rmk (3 + 2 * d) (90 + 50 * d)) [.ref (adr g 18), .int a1, .int a2, .int a3] σ (some (.int r)) σ2
  | 0, _, _, _, _, _, _, h => by cases h
  | d + 1, a1, a2, a3, σ, r, σ2, h => by
    have h : f_X5_followWay_0 (f_X5_followWay d) a1 a2 a3 σ = some (r, σ2) := h
    refine MC.of (by decide) (Nat.le_of_ble_eq_true rfl) (fun x C hl hr hq => ?_)
    subst hl
    exact w_X5_followWay (E := fun z => z = (r, σ2)) (d := d) (fun h => c_X5_followWay h) C (fun a s2 he pc lv hn hd => by cases he; exact x_zret C hr hq hn hd) h rfl
set_option maxHeartbeats 4000000 in
set_option maxRecDepth 100000 in
theorem w_X5_findWay_44 {x : Cx} {g : Gb} {E : Int32 × WD → Prop} (C : CF x g RX5 cX5_findWay 4 (rmk 22 566))  {l3 : Int32} {σ : WD} (hE : ∀ (a : Int32) (s2 : WD), E (a, s2) → ∀ pc lv, decode cX5_findWay pc = .ok (.ireturn, 1) → WW x g 4 0 0 pc lv [.int a] s2) {t : Int32 × WD} (h : f_X5_findWay_44 l3 σ = some t) (ht : E t) : WW x g 4 0 0 44 [(3, .int l3)] [] σ := by
  unfold f_X5_findWay_44 at h
  refine x_iconst C (v := 2) dX5_findWay_44 (by decide) 45 rfl ?_
  refine x_iload_n C dX5_findWay_45 rfl 0 rfl 46 rfl ?_
  refine x_imul C dX5_findWay_46 47 rfl ?_
  refine x_iconst C (v := 1) dX5_findWay_47 (by decide) 48 rfl ?_
  refine x_iadd C dX5_findWay_48 49 rfl ?_
  cases h
  exact hE _ _ ht 49 _ dX5_findWay_49
set_option maxHeartbeats 4000000 in
set_option maxRecDepth 100000 in
theorem w_X5_findWay_b21 {x : Cx} {g : Gb} {E : (Int32 × WD) ⊕ (Int32 × WD) → Prop} (C : CF x g RX5 cX5_findWay 4 (rmk 22 566))  {l2 : Int32} {l3 : Int32} {σ : WD} (hI0 : ∀ s, E (.inl s) → WW x g 4 0 0 21 [(0, .ref (adr g 18)), (2, .int l2), (3, .int s.1)] [] s.2) (hE : ∀ (a : Int32) (s2 : WD), E (.inr (a, s2)) → ∀ pc lv, decode cX5_findWay pc = .ok (.ireturn, 1) → WW x g 4 0 0 pc lv [.int a] s2) {t : (Int32 × WD) ⊕ (Int32 × WD)} (h : f_X5_findWay_b21 l2 l3 σ = some t) (ht : E t) : WW x g 4 0 0 21 [(0, .ref (adr g 18)), (2, .int l2), (3, .int l3)] [] σ := by
  unfold f_X5_findWay_b21 at h
  refine x_iload_n C dX5_findWay_21 rfl 2 rfl 22 rfl ?_
  refine x_iload_n C dX5_findWay_22 rfl 1 rfl 23 rfl ?_
  refine x_icmp_gt C dX5_findWay_23 56 (by decide) 26 rfl (fun hc => ?_) (fun hc => ?_)
  · have h := ip hc h
    refine x_iconst C (v := 0) dX5_findWay_56 (by decide) 57 rfl ?_
    cases h
    exact hE _ _ ht 57 _ dX5_findWay_57
  · have h := iq hc h
    refine x_aload_n C dX5_findWay_26 rfl 0 rfl 27 rfl ?_
    refine gf_113_18 C dX5_findWay_27 30 rfl ?_
    refine x_iconst C (v := 0) dX5_findWay_30 (by decide) 31 rfl ?_
    refine x_callS C [.ref (adr g 20), .int 0] (c_fill 20 64 (by decide) (fun σ => (gt_20 g σ)) (fun σ => (st_20 g σ)) 0) mi_J7_fill_53178 q_242 rfl ⟨rfl, rfl⟩ (by decide) (by decide) _ rfl (Nat.le_of_ble_eq_true rfl) dX5_findWay_31 34 rfl ?_
    obtain ⟨σ31, e31, h⟩ := lt_some h
    refine x_we e31 ?_
    refine x_aload_n C dX5_findWay_34 rfl 0 rfl 35 rfl ?_
    refine x_iconst C (v := 0) dX5_findWay_35 (by decide) 36 rfl ?_
    refine x_iconst C (v := 0) dX5_findWay_36 (by decide) 37 rfl ?_
    refine x_iload_n C dX5_findWay_37 rfl 2 rfl 38 rfl ?_
    obtain ⟨r38, σ38, h38, h⟩ := bn_some h
    refine x_callV C 18 [.int 0, .int 0, .int l3] (c_X5_followWay  h38) mi_X5_followWay (gt_18 g _) rfl q_243 rfl ⟨rfl, rfl⟩ ⟨Nat.le_of_ble_eq_true rfl, Nat.le_of_ble_eq_true rfl⟩ ⟨Nat.zero_le _, Nat.zero_le _⟩ _ rfl (Nat.le_of_ble_eq_true rfl) dX5_findWay_38 41 rfl ?_
    refine x_if_eq C dX5_findWay_41 50 (by decide) 44 rfl (fun hc => ?_) (fun hc => ?_)
    · have h := ip hc h
      refine x_iinc C [(3, .int (l3 + 1)), (0, .ref (adr g 18)), (2, .int l2)] dX5_findWay_50 2 rfl rfl (by decide) rfl 53 rfl ?_
      refine x_goto C dX5_findWay_53 21 (by decide) ?_
      cases h
      exact x_sub [1, 2, 0] rfl (hI0 ((l3 + 1), σ38) ht)
    · have h := iq hc h
      obtain ⟨_, hm0, rfl⟩ := mr_some h
      exact x_sub [2] rfl (w_X5_findWay_44 (E := fun r => E (.inr r)) C  hE hm0 ht)
set_option maxHeartbeats 4000000 in
set_option maxRecDepth 100000 in
theorem w_X5_findWay_21 {x : Cx} {g : Gb} {E : Int32 × WD → Prop} (C : CF x g RX5 cX5_findWay 4 (rmk 22 566))  {l2 : Int32} {l3 : Int32} {σ : WD} (hE : ∀ (a : Int32) (s2 : WD), E (a, s2) → ∀ pc lv, decode cX5_findWay pc = .ok (.ireturn, 1) → WW x g 4 0 0 pc lv [.int a] s2) {t : Int32 × WD} (h : f_X5_findWay_21 l2 l3 σ = some t) (ht : E t) : WW x g 4 0 0 21 [(0, .ref (adr g 18)), (2, .int l2), (3, .int l3)] [] σ := by
  unfold f_X5_findWay_21 at h
  exact lp_ind (fun s : Int32 × WD => WW x g 4 0 0 21 [(0, .ref (adr g 18)), (2, .int l2), (3, .int s.1)] [] s.2) E h ht (fun s y hb hy => w_X5_findWay_b21 (E := Sum.elim (fun s : Int32 × WD => WW x g 4 0 0 21 [(0, .ref (adr g 18)), (2, .int l2), (3, .int s.1)] [] s.2) E) C  (fun _ h => h)  hE hb hy)
set_option maxHeartbeats 4000000 in
set_option maxRecDepth 100000 in
theorem w_X5_findWay {x : Cx} {g : Gb} {E : Int32 × WD → Prop} (C : CF x g RX5 cX5_findWay 4 (rmk 22 566))  {a1 : Int32} {σ : WD} (hE : ∀ (a : Int32) (s2 : WD), E (a, s2) → ∀ pc lv, decode cX5_findWay pc = .ok (.ireturn, 1) → WW x g 4 0 0 pc lv [.int a] s2) {t : Int32 × WD} (h : f_X5_findWay a1 σ = some t) (ht : E t) : WW x g 4 0 0 0 [(0, .ref (adr g 18)), (1, .int a1)] [] σ := by
  unfold f_X5_findWay at h
  refine x_aload_n C dX5_findWay_0 rfl 0 rfl 1 rfl ?_
  obtain ⟨σ1, h1, h⟩ := bv_some h
  refine x_callV C 18 [] (c_X5_numberPairs  h1) mi_X5_numberPairs (gt_18 g _) rfl q_234 rfl ⟨rfl, rfl⟩ ⟨Nat.le_of_ble_eq_true rfl, Nat.le_of_ble_eq_true rfl⟩ ⟨Nat.zero_le _, Nat.zero_le _⟩ _ rfl (Nat.le_of_ble_eq_true rfl) dX5_findWay_1 4 rfl ?_
  refine x_aload_n C dX5_findWay_4 rfl 0 rfl 5 rfl ?_
  refine gf_114_18 C dX5_findWay_5 8 rfl ?_
  refine x_iconst C (v := 0) dX5_findWay_8 (by decide) 9 rfl ?_
  refine x_iload_n C dX5_findWay_9 rfl 1 rfl 10 rfl ?_
  obtain ⟨hin, h⟩ := gi_some h
  refine x_iast C 21 (gt_21 g _) (st_21 g _) hin dX5_findWay_10 11 rfl ?_
  obtain ⟨σ10, e10, h⟩ := lt_some h
  refine x_we e10 ?_
  refine x_aload_n C dX5_findWay_11 rfl 0 rfl 12 rfl ?_
  refine gf_111_18 C dX5_findWay_12 15 rfl ?_
  obtain ⟨r15, h15, h⟩ := bv_some h
  refine x_callV C 3 [] (c_X3_size  h15) mi_X3_size (gt_3 g _) rfl q_238 rfl ⟨rfl, rfl⟩ ⟨Nat.le_of_ble_eq_true rfl, Nat.le_of_ble_eq_true rfl⟩ ⟨Nat.zero_le _, Nat.zero_le _⟩ _ rfl (Nat.le_of_ble_eq_true rfl) dX5_findWay_15 18 rfl ?_
  refine x_istore_n C [(2, .int r15), (0, .ref (adr g 18)), (1, .int a1)] dX5_findWay_18 rfl (by decide) rfl 19 rfl ?_
  refine x_iconst C (v := 0) dX5_findWay_19 (by decide) 20 rfl ?_
  refine x_istore_n C [(3, .int 0), (2, .int r15), (0, .ref (adr g 18)), (1, .int a1)] dX5_findWay_20 rfl (by decide) rfl 21 rfl ?_
  exact x_sub [2, 1, 0] rfl (w_X5_findWay_21 C  hE h ht)
set_option maxHeartbeats 4000000 in
set_option maxRecDepth 100000 in
theorem c_X5_findWay {g : Gb} {l : Launch}  {a1 : Int32} {σ : WD} {r : Int32} {σ2 : WD} (h : f_X5_findWay a1 σ = some (r, σ2)) : MC l g yX5_findWay (.code yX5_findWay cX5_findWay 4 (some (.int))) (rmk 22 566) [.ref (adr g 18), .int a1] σ (some (.int r)) σ2 := by
  refine MC.of (by decide) (Nat.le_of_ble_eq_true rfl) (fun x C hl hr hq => ?_)
  subst hl
  exact w_X5_findWay (E := fun z => z = (r, σ2)) C  (fun a s2 he pc lv hd => by cases he; exact x_iret C hr hq hd) h rfl
set_option maxHeartbeats 4000000 in
set_option maxRecDepth 100000 in
theorem w_X4_findOut_227 {x : Cx} {g : Gb} {E : WD → Prop} {d : Nat} {fr : Int32 → Int32 → WD → Option (WD)} (hfr : ∀ {z0 : Int32} {z1 : Int32} {zσ : WD} {zs : WD}, fr z0 z1 zσ = some zs → MC x.2.1 g yX4_findOut (.code yX4_findOut cX4_findOut 10 none) (rmk (3 + 1 * d) (90 + 29 * d)) [.ref (adr g 22), .int z0, .int z1] zσ none zs) (C : CF x g RX4 cX4_findOut 10 (rmk (3 + 1 * d + 1) (90 + 29 * d + 29)))  {l1 : Int32} {l5 : Int32} {l6 : Int32} {σ : WD} (hE : ∀ (s2 : WD), E s2 → ∀ pc lv, decode cX4_findOut pc = .ok (.return_, 1) → WW x g 10 0 0 pc lv [] s2) {t : WD} (h : f_X4_findOut_227 fr l1 l5 l6 σ = some t) (ht : E t) : WW x g 10 0 0 227 [(0, .ref (adr g 22)), (1, .int l1), (5, .int l5), (6, .int l6)] [] σ := by
  unfold f_X4_findOut_227 at h
  refine x_aload_n C dX4_findOut_227 rfl 0 rfl 228 rfl ?_
  refine gf_144_22 C dX4_findOut_228 231 rfl ?_
  refine x_iload_n C dX4_findOut_231 rfl 1 rfl 232 rfl ?_
  refine x_iload C dX4_findOut_232 2 rfl 234 rfl ?_
  obtain ⟨hin, h⟩ := gi_some h
  refine x_iast C 23 (gt_23 g _) (st_23 g _) hin dX4_findOut_234 235 rfl ?_
  obtain ⟨σ234, e234, h⟩ := lt_some h
  refine x_we e234 ?_
  refine x_aload_n C dX4_findOut_235 rfl 0 rfl 236 rfl ?_
  refine gf_145_22 C dX4_findOut_236 239 rfl ?_
  refine x_iload_n C dX4_findOut_239 rfl 1 rfl 240 rfl ?_
  refine x_iload C dX4_findOut_240 3 rfl 242 rfl ?_
  obtain ⟨hin, h⟩ := gi_some h
  refine x_iast C 24 (gt_24 g _) (st_24 g _) hin dX4_findOut_242 243 rfl ?_
  obtain ⟨σ242, e242, h⟩ := lt_some h
  refine x_we e242 ?_
  cases h
  exact hE _ ht 243 _ dX4_findOut_243
set_option maxHeartbeats 4000000 in
set_option maxRecDepth 100000 in
theorem w_X4_findOut_191 {x : Cx} {g : Gb} {E : (Int32 × Int32 × Int32 × WD) ⊕ (WD) → Prop} {d : Nat} {fr : Int32 → Int32 → WD → Option (WD)} (hfr : ∀ {z0 : Int32} {z1 : Int32} {zσ : WD} {zs : WD}, fr z0 z1 zσ = some zs → MC x.2.1 g yX4_findOut (.code yX4_findOut cX4_findOut 10 none) (rmk (3 + 1 * d) (90 + 29 * d)) [.ref (adr g 22), .int z0, .int z1] zσ none zs) (C : CF x g RX4 cX4_findOut 10 (rmk (3 + 1 * d + 1) (90 + 29 * d + 29)))  {l1 : Int32} {l3 : Int32} {l4 : Int32} {l5 : Int32} {l6 : Int32} {l7 : Int32} {l8 : Int32} {l9 : Int32} {σ : WD} (hI0 : ∀ s, E (.inl s) → WW x g 10 0 0 118 [(0, .ref (adr g 22)), (1, .int l1), (3, .int l3), (4, .int l4), (5, .int s.1), (6, .int s.2.1), (7, .int l7), (8, .int s.2.2.1)] [] s.2.2.2) (hE : ∀ (s2 : WD), E (.inr s2) → ∀ pc lv, decode cX4_findOut pc = .ok (.return_, 1) → WW x g 10 0 0 pc lv [] s2) {t : (Int32 × Int32 × Int32 × WD) ⊕ (WD)} (h : f_X4_findOut_191 fr l1 l3 l4 l5 l6 l7 l8 l9 σ = some t) (ht : E t) : WW x g 10 0 0 191 [(0, .ref (adr g 22)), (1, .int l1), (3, .int l3), (4, .int l4), (5, .int l5), (6, .int l6), (7, .int l7), (8, .int l8), (9, .int l9)] [] σ := by
  unfold f_X4_findOut_191 at h
  refine x_iload C dX4_findOut_191 5 rfl 193 rfl ?_
  refine x_aload_n C dX4_findOut_193 rfl 0 rfl 194 rfl ?_
  refine gf_144_22 C dX4_findOut_194 197 rfl ?_
  refine x_iload C dX4_findOut_197 8 rfl 199 rfl ?_
  obtain ⟨hin, h⟩ := gi_some h
  refine x_iald C 23 (gt_23 g _) hin dX4_findOut_199 200 rfl ?_
  refine x_iconst C (v := 1) dX4_findOut_200 (by decide) 201 rfl ?_
  refine x_iadd C dX4_findOut_201 202 rfl ?_
  refine x_iload C dX4_findOut_202 4 rfl 204 rfl ?_
  refine x_icmp_ne C dX4_findOut_204 217 (by decide) 207 rfl (fun hc => ?_) (fun hc => ?_)
  · have h := iq hc h
    refine x_iconst C (v := 0) dX4_findOut_217 (by decide) 218 rfl ?_
    refine x_iadd C dX4_findOut_218 219 rfl ?_
    refine x_istore C [(6, .int (l6 + 0)), (0, .ref (adr g 22)), (1, .int l1), (3, .int l3), (4, .int l4), (5, .int l5), (7, .int l7), (8, .int l8), (9, .int l9)] dX4_findOut_219 (by decide) rfl 221 rfl ?_
    refine x_iinc C [(8, .int (l8 + 1)), (6, .int (l6 + 0)), (0, .ref (adr g 22)), (1, .int l1), (3, .int l3), (4, .int l4), (5, .int l5), (7, .int l7), (9, .int l9)] dX4_findOut_221 7 rfl rfl (by decide) rfl 224 rfl ?_
    refine x_goto C dX4_findOut_224 118 (by decide) ?_
    cases h
    exact x_sub [2, 3, 4, 5, 6, 1, 7, 0] rfl (hI0 (l5, (l6 + 0), (l8 + 1), σ) ht)
  · have h := ip hc h
    refine x_aload_n C dX4_findOut_207 rfl 0 rfl 208 rfl ?_
    refine gf_145_22 C dX4_findOut_208 211 rfl ?_
    refine x_iload C dX4_findOut_211 8 rfl 213 rfl ?_
    obtain ⟨hin, h⟩ := gi_some h
    refine x_iald C 24 (gt_24 g _) hin dX4_findOut_213 214 rfl ?_
    refine x_goto C dX4_findOut_214 218 (by decide) ?_
    refine x_iadd C dX4_findOut_218 219 rfl ?_
    obtain ⟨v219, e219, h⟩ := li_some h
    refine x_te e219 ?_
    refine x_istore C [(6, .int v219), (0, .ref (adr g 22)), (1, .int l1), (3, .int l3), (4, .int l4), (5, .int l5), (7, .int l7), (8, .int l8), (9, .int l9)] dX4_findOut_219 (by decide) rfl 221 rfl ?_
    refine x_iinc C [(8, .int (l8 + 1)), (6, .int v219), (0, .ref (adr g 22)), (1, .int l1), (3, .int l3), (4, .int l4), (5, .int l5), (7, .int l7), (9, .int l9)] dX4_findOut_221 7 rfl rfl (by decide) rfl 224 rfl ?_
    refine x_goto C dX4_findOut_224 118 (by decide) ?_
    cases h
    exact x_sub [2, 3, 4, 5, 6, 1, 7, 0] rfl (hI0 (l5, v219, (l8 + 1), σ) ht)
set_option maxHeartbeats 4000000 in
set_option maxRecDepth 100000 in
theorem w_X4_findOut_b118 {x : Cx} {g : Gb} {E : (Int32 × Int32 × Int32 × WD) ⊕ (WD) → Prop} {d : Nat} {fr : Int32 → Int32 → WD → Option (WD)} (hfr : ∀ {z0 : Int32} {z1 : Int32} {zσ : WD} {zs : WD}, fr z0 z1 zσ = some zs → MC x.2.1 g yX4_findOut (.code yX4_findOut cX4_findOut 10 none) (rmk (3 + 1 * d) (90 + 29 * d)) [.ref (adr g 22), .int z0, .int z1] zσ none zs) (C : CF x g RX4 cX4_findOut 10 (rmk (3 + 1 * d + 1) (90 + 29 * d + 29)))  {l1 : Int32} {l3 : Int32} {l4 : Int32} {l5 : Int32} {l6 : Int32} {l7 : Int32} {l8 : Int32} {σ : WD} (hI0 : ∀ s, E (.inl s) → WW x g 10 0 0 118 [(0, .ref (adr g 22)), (1, .int l1), (3, .int l3), (4, .int l4), (5, .int s.1), (6, .int s.2.1), (7, .int l7), (8, .int s.2.2.1)] [] s.2.2.2) (hE : ∀ (s2 : WD), E (.inr s2) → ∀ pc lv, decode cX4_findOut pc = .ok (.return_, 1) → WW x g 10 0 0 pc lv [] s2) {t : (Int32 × Int32 × Int32 × WD) ⊕ (WD)} (h : f_X4_findOut_b118 fr l1 l3 l4 l5 l6 l7 l8 σ = some t) (ht : E t) : WW x g 10 0 0 118 [(0, .ref (adr g 22)), (1, .int l1), (3, .int l3), (4, .int l4), (5, .int l5), (6, .int l6), (7, .int l7), (8, .int l8)] [] σ := by
  unfold f_X4_findOut_b118 at h
  refine x_iload C dX4_findOut_118 7 rfl 120 rfl ?_
  refine x_aload_n C dX4_findOut_120 rfl 0 rfl 121 rfl ?_
  refine gf_143_22 C dX4_findOut_121 124 rfl ?_
  refine gf_36_1 C dX4_findOut_124 127 rfl ?_
  refine x_icmp_ge C dX4_findOut_127 227 (by decide) 130 rfl (fun hc => ?_) (fun hc => ?_)
  · have h := ip hc h
    obtain ⟨_, hm0, rfl⟩ := mr_some h
    exact x_sub [0, 1, 4, 5] rfl (w_X4_findOut_227 (E := fun r => E (.inr r)) hfr C  hE hm0 ht)
  · have h := iq hc h
    refine x_iload C dX4_findOut_130 6 rfl 132 rfl ?_
    refine x_iload C dX4_findOut_132 7 rfl 134 rfl ?_
    refine x_ishr C dX4_findOut_134 135 rfl ?_
    refine x_iconst C (v := 1) dX4_findOut_135 (by decide) 136 rfl ?_
    refine x_iand C dX4_findOut_136 137 rfl ?_
    refine x_if_ne C dX4_findOut_137 143 (by decide) 140 rfl (fun hc => ?_) (fun hc => ?_)
    · have h := iq hc h
      refine x_iload C dX4_findOut_143 3 rfl 145 rfl ?_
      refine x_iconst C (v := 1) dX4_findOut_145 (by decide) 146 rfl ?_
      refine x_iload C dX4_findOut_146 7 rfl 148 rfl ?_
      refine x_ishl C dX4_findOut_148 149 rfl ?_
      refine x_iconst C (v := -1) dX4_findOut_149 (by decide) 150 rfl ?_
      refine x_ixor C dX4_findOut_150 151 rfl ?_
      refine x_iand C dX4_findOut_151 152 rfl ?_
      obtain ⟨v152, e152, h⟩ := li_some h
      refine x_te e152 ?_
      refine x_istore C [(9, .int v152), (0, .ref (adr g 22)), (1, .int l1), (3, .int l3), (4, .int l4), (5, .int l5), (6, .int l6), (7, .int l7), (8, .int l8)] dX4_findOut_152 (by decide) rfl 154 rfl ?_
      refine x_aload_n C dX4_findOut_154 rfl 1 rfl 155 rfl ?_
      refine x_iload C dX4_findOut_155 0 rfl 157 rfl ?_
      refine x_iload_n C dX4_findOut_157 rfl 3 rfl 158 rfl ?_
      refine x_iconst C (v := 1) dX4_findOut_158 (by decide) 159 rfl ?_
      refine x_iadd C dX4_findOut_159 160 rfl ?_
      obtain ⟨σ160, h160, h⟩ := bv_some h
      refine x_callV C 22 [.int v152, .int (l3 + 1)] (hfr h160) mi_X4_findOut (gt_22 g _) rfl q_280 rfl ⟨rfl, rfl⟩ ⟨by simp only [rmk]; omega, by simp only [rmk]; omega⟩ ⟨Nat.zero_le _, Nat.zero_le _⟩ _ rfl (Nat.le_of_ble_eq_true rfl) dX4_findOut_160 163 rfl ?_
      refine x_aload_n C dX4_findOut_163 rfl 1 rfl 164 rfl ?_
      refine gf_144_22 C dX4_findOut_164 167 rfl ?_
      refine x_iload C dX4_findOut_167 0 rfl 169 rfl ?_
      obtain ⟨hin, h⟩ := gi_some h
      refine x_iald C 23 (gt_23 g _) hin dX4_findOut_169 170 rfl ?_
      refine x_iconst C (v := 1) dX4_findOut_170 (by decide) 171 rfl ?_
      refine x_iadd C dX4_findOut_171 172 rfl ?_
      refine x_iload C dX4_findOut_172 5 rfl 174 rfl ?_
      refine x_icmp_le C dX4_findOut_174 191 (by decide) 177 rfl (fun hc => ?_) (fun hc => ?_)
      · have h := ip hc h
        exact x_sub [1, 2, 3, 4, 5, 6, 7, 8, 0] rfl (w_X4_findOut_191 hfr C  hI0 hE h ht)
      · have h := iq hc h
        refine x_aload_n C dX4_findOut_177 rfl 1 rfl 178 rfl ?_
        refine gf_144_22 C dX4_findOut_178 181 rfl ?_
        refine x_iload C dX4_findOut_181 0 rfl 183 rfl ?_
        obtain ⟨hin, h⟩ := gi_some h
        refine x_iald C 23 (gt_23 g _) hin dX4_findOut_183 184 rfl ?_
        refine x_iconst C (v := 1) dX4_findOut_184 (by decide) 185 rfl ?_
        refine x_iadd C dX4_findOut_185 186 rfl ?_
        obtain ⟨v186, e186, h⟩ := li_some h
        refine x_te e186 ?_
        refine x_istore C [(5, .int v186), (9, .int v152), (0, .ref (adr g 22)), (1, .int l1), (3, .int l3), (4, .int l4), (6, .int l6), (7, .int l7), (8, .int l8)] dX4_findOut_186 (by decide) rfl 188 rfl ?_
        refine x_iconst C (v := 0) dX4_findOut_188 (by decide) 189 rfl ?_
        refine x_istore C [(6, .int 0), (5, .int v186), (9, .int v152), (0, .ref (adr g 22)), (1, .int l1), (3, .int l3), (4, .int l4), (7, .int l7), (8, .int l8)] dX4_findOut_189 (by decide) rfl 191 rfl ?_
        exact x_sub [3, 4, 5, 6, 1, 0, 7, 8, 2] rfl (w_X4_findOut_191 hfr C  hI0 hE h ht)
    · have h := ip hc h
      refine x_goto C dX4_findOut_140 221 (by decide) ?_
      refine x_iinc C [(8, .int (l8 + 1)), (0, .ref (adr g 22)), (1, .int l1), (3, .int l3), (4, .int l4), (5, .int l5), (6, .int l6), (7, .int l7)] dX4_findOut_221 7 rfl rfl (by decide) rfl 224 rfl ?_
      refine x_goto C dX4_findOut_224 118 (by decide) ?_
      cases h
      exact x_sub [1, 2, 3, 4, 5, 6, 7, 0] rfl (hI0 (l5, l6, (l8 + 1), σ) ht)
set_option maxHeartbeats 4000000 in
set_option maxRecDepth 100000 in
theorem w_X4_findOut_118 {x : Cx} {g : Gb} {E : WD → Prop} {d : Nat} {fr : Int32 → Int32 → WD → Option (WD)} (hfr : ∀ {z0 : Int32} {z1 : Int32} {zσ : WD} {zs : WD}, fr z0 z1 zσ = some zs → MC x.2.1 g yX4_findOut (.code yX4_findOut cX4_findOut 10 none) (rmk (3 + 1 * d) (90 + 29 * d)) [.ref (adr g 22), .int z0, .int z1] zσ none zs) (C : CF x g RX4 cX4_findOut 10 (rmk (3 + 1 * d + 1) (90 + 29 * d + 29)))  {l1 : Int32} {l3 : Int32} {l4 : Int32} {l5 : Int32} {l6 : Int32} {l7 : Int32} {l8 : Int32} {σ : WD} (hE : ∀ (s2 : WD), E s2 → ∀ pc lv, decode cX4_findOut pc = .ok (.return_, 1) → WW x g 10 0 0 pc lv [] s2) {t : WD} (h : f_X4_findOut_118 fr l1 l3 l4 l5 l6 l7 l8 σ = some t) (ht : E t) : WW x g 10 0 0 118 [(0, .ref (adr g 22)), (1, .int l1), (3, .int l3), (4, .int l4), (5, .int l5), (6, .int l6), (7, .int l7), (8, .int l8)] [] σ := by
  unfold f_X4_findOut_118 at h
  exact lp_ind (fun s : Int32 × Int32 × Int32 × WD => WW x g 10 0 0 118 [(0, .ref (adr g 22)), (1, .int l1), (3, .int l3), (4, .int l4), (5, .int s.1), (6, .int s.2.1), (7, .int l7), (8, .int s.2.2.1)] [] s.2.2.2) E h ht (fun s y hb hy => w_X4_findOut_b118 (E := Sum.elim (fun s : Int32 × Int32 × Int32 × WD => WW x g 10 0 0 118 [(0, .ref (adr g 22)), (1, .int l1), (3, .int l3), (4, .int l4), (5, .int s.1), (6, .int s.2.1), (7, .int l7), (8, .int s.2.2.1)] [] s.2.2.2) E) hfr C  (fun _ h => h)  hE hb hy)
set_option maxHeartbeats 4000000 in
set_option maxRecDepth 100000 in
theorem w_X4_findOut_37 {x : Cx} {g : Gb} {E : WD → Prop} {d : Nat} {fr : Int32 → Int32 → WD → Option (WD)} (hfr : ∀ {z0 : Int32} {z1 : Int32} {zσ : WD} {zs : WD}, fr z0 z1 zσ = some zs → MC x.2.1 g yX4_findOut (.code yX4_findOut cX4_findOut 10 none) (rmk (3 + 1 * d) (90 + 29 * d)) [.ref (adr g 22), .int z0, .int z1] zσ none zs) (C : CF x g RX4 cX4_findOut 10 (rmk (3 + 1 * d + 1) (90 + 29 * d + 29)))  {l1 : Int32} {l3 : Int32} {σ : WD} (hE : ∀ (s2 : WD), E s2 → ∀ pc lv, decode cX4_findOut pc = .ok (.return_, 1) → WW x g 10 0 0 pc lv [] s2) {t : WD} (h : f_X4_findOut_37 fr l1 l3 σ = some t) (ht : E t) : WW x g 10 0 0 37 [(0, .ref (adr g 22)), (1, .int l1), (3, .int l3)] [] σ := by
  unfold f_X4_findOut_37 at h
  refine x_iload_n C dX4_findOut_37 rfl 2 rfl 38 rfl ?_
  refine x_aload_n C dX4_findOut_38 rfl 0 rfl 39 rfl ?_
  refine gf_143_22 C dX4_findOut_39 42 rfl ?_
  refine gf_36_1 C dX4_findOut_42 45 rfl ?_
  refine x_icmp_lt C dX4_findOut_45 63 (by decide) 48 rfl (fun hc => ?_) (fun hc => ?_)
  · have h := ip hc h
    refine x_iload_n C dX4_findOut_63 rfl 1 rfl 64 rfl ?_
    refine x_iconst C (v := 1) dX4_findOut_64 (by decide) 65 rfl ?_
    refine x_iload_n C dX4_findOut_65 rfl 2 rfl 66 rfl ?_
    refine x_ishl C dX4_findOut_66 67 rfl ?_
    refine x_iconst C (v := -1) dX4_findOut_67 (by decide) 68 rfl ?_
    refine x_ixor C dX4_findOut_68 69 rfl ?_
    refine x_iand C dX4_findOut_69 70 rfl ?_
    obtain ⟨v70, e70, h⟩ := li_some h
    refine x_te e70 ?_
    refine x_istore C [(4, .int v70), (0, .ref (adr g 22)), (1, .int l1), (3, .int l3)] dX4_findOut_70 (by decide) rfl 72 rfl ?_
    refine x_aload_n C dX4_findOut_72 rfl 1 rfl 73 rfl ?_
    refine x_iload C dX4_findOut_73 0 rfl 75 rfl ?_
    refine x_iload_n C dX4_findOut_75 rfl 3 rfl 76 rfl ?_
    refine x_iconst C (v := 1) dX4_findOut_76 (by decide) 77 rfl ?_
    refine x_iadd C dX4_findOut_77 78 rfl ?_
    obtain ⟨σ78, h78, h⟩ := bv_some h
    refine x_callV C 22 [.int v70, .int (l3 + 1)] (hfr h78) mi_X4_findOut (gt_22 g _) rfl q_280 rfl ⟨rfl, rfl⟩ ⟨by simp only [rmk]; omega, by simp only [rmk]; omega⟩ ⟨Nat.zero_le _, Nat.zero_le _⟩ _ rfl (Nat.le_of_ble_eq_true rfl) dX4_findOut_78 81 rfl ?_
    refine x_aload_n C dX4_findOut_81 rfl 1 rfl 82 rfl ?_
    refine gf_144_22 C dX4_findOut_82 85 rfl ?_
    refine x_iload C dX4_findOut_85 0 rfl 87 rfl ?_
    obtain ⟨hin, h⟩ := gi_some h
    refine x_iald C 23 (gt_23 g _) hin dX4_findOut_87 88 rfl ?_
    obtain ⟨v88, e88, h⟩ := li_some h
    refine x_te e88 ?_
    refine x_istore C [(5, .int v88), (4, .int v70), (0, .ref (adr g 22)), (1, .int l1), (3, .int l3)] dX4_findOut_88 (by decide) rfl 90 rfl ?_
    refine x_aload_n C dX4_findOut_90 rfl 2 rfl 91 rfl ?_
    refine gf_145_22 C dX4_findOut_91 94 rfl ?_
    refine x_iload C dX4_findOut_94 1 rfl 96 rfl ?_
    obtain ⟨hin, h⟩ := gi_some h
    refine x_iald C 24 (gt_24 g _) hin dX4_findOut_96 97 rfl ?_
    obtain ⟨v97, e97, h⟩ := li_some h
    refine x_te e97 ?_
    refine x_istore C [(6, .int v97), (5, .int v88), (4, .int v70), (0, .ref (adr g 22)), (1, .int l1), (3, .int l3)] dX4_findOut_97 (by decide) rfl 99 rfl ?_
    refine x_iload C dX4_findOut_99 2 rfl 101 rfl ?_
    refine x_aload_n C dX4_findOut_101 rfl 3 rfl 102 rfl ?_
    refine gf_143_22 C dX4_findOut_102 105 rfl ?_
    refine gf_39_1 C dX4_findOut_105 108 rfl ?_
    refine x_iload_n C dX4_findOut_108 rfl 5 rfl 109 rfl ?_
    obtain ⟨hin, h⟩ := gi_some h
    refine x_iald C 2 (gt_2 g _) hin dX4_findOut_109 110 rfl ?_
    refine x_iand C dX4_findOut_110 111 rfl ?_
    obtain ⟨v111, e111, h⟩ := li_some h
    refine x_te e111 ?_
    refine x_istore C [(7, .int v111), (6, .int v97), (5, .int v88), (4, .int v70), (0, .ref (adr g 22)), (1, .int l1), (3, .int l3)] dX4_findOut_111 (by decide) rfl 113 rfl ?_
    refine x_iload_n C dX4_findOut_113 rfl 6 rfl 114 rfl ?_
    refine x_iconst C (v := 1) dX4_findOut_114 (by decide) 115 rfl ?_
    refine x_iadd C dX4_findOut_115 116 rfl ?_
    refine x_istore C [(8, .int (l3 + 1)), (7, .int v111), (6, .int v97), (5, .int v88), (4, .int v70), (0, .ref (adr g 22)), (1, .int l1), (3, .int l3)] dX4_findOut_116 (by decide) rfl 118 rfl ?_
    exact x_sub [5, 6, 7, 4, 3, 2, 1, 0] rfl (w_X4_findOut_118 hfr C  hE h ht)
  · have h := iq hc h
    refine x_aload_n C dX4_findOut_48 rfl 0 rfl 49 rfl ?_
    refine gf_144_22 C dX4_findOut_49 52 rfl ?_
    refine x_iload_n C dX4_findOut_52 rfl 1 rfl 53 rfl ?_
    refine x_iconst C (v := 0) dX4_findOut_53 (by decide) 54 rfl ?_
    obtain ⟨hin, h⟩ := gi_some h
    refine x_iast C 23 (gt_23 g _) (st_23 g _) hin dX4_findOut_54 55 rfl ?_
    obtain ⟨σ54, e54, h⟩ := lt_some h
    refine x_we e54 ?_
    refine x_aload_n C dX4_findOut_55 rfl 0 rfl 56 rfl ?_
    refine gf_145_22 C dX4_findOut_56 59 rfl ?_
    refine x_iload_n C dX4_findOut_59 rfl 1 rfl 60 rfl ?_
    refine x_iconst C (v := 1) dX4_findOut_60 (by decide) 61 rfl ?_
    obtain ⟨hin, h⟩ := gi_some h
    refine x_iast C 24 (gt_24 g _) (st_24 g _) hin dX4_findOut_61 62 rfl ?_
    obtain ⟨σ61, e61, h⟩ := lt_some h
    refine x_we e61 ?_
    cases h
    exact hE _ ht 62 _ dX4_findOut_62
set_option maxHeartbeats 4000000 in
set_option maxRecDepth 100000 in
theorem w_X4_findOut_b12 {x : Cx} {g : Gb} {E : (Int32) ⊕ (WD) → Prop} {d : Nat} {fr : Int32 → Int32 → WD → Option (WD)} (hfr : ∀ {z0 : Int32} {z1 : Int32} {zσ : WD} {zs : WD}, fr z0 z1 zσ = some zs → MC x.2.1 g yX4_findOut (.code yX4_findOut cX4_findOut 10 none) (rmk (3 + 1 * d) (90 + 29 * d)) [.ref (adr g 22), .int z0, .int z1] zσ none zs) (C : CF x g RX4 cX4_findOut 10 (rmk (3 + 1 * d + 1) (90 + 29 * d + 29)))  {l1 : Int32} {l3 : Int32} {σ : WD} (hI0 : ∀ s, E (.inl s) → WW x g 10 0 0 12 [(0, .ref (adr g 22)), (1, .int l1), (3, .int s)] [] σ) (hE : ∀ (s2 : WD), E (.inr s2) → ∀ pc lv, decode cX4_findOut pc = .ok (.return_, 1) → WW x g 10 0 0 pc lv [] s2) {t : (Int32) ⊕ (WD)} (h : f_X4_findOut_b12 fr l1 l3 σ = some t) (ht : E t) : WW x g 10 0 0 12 [(0, .ref (adr g 22)), (1, .int l1), (3, .int l3)] [] σ := by
  unfold f_X4_findOut_b12 at h
  refine x_iload_n C dX4_findOut_12 rfl 2 rfl 13 rfl ?_
  refine x_aload_n C dX4_findOut_13 rfl 0 rfl 14 rfl ?_
  refine gf_143_22 C dX4_findOut_14 17 rfl ?_
  refine gf_36_1 C dX4_findOut_17 20 rfl ?_
  refine x_icmp_ge C dX4_findOut_20 37 (by decide) 23 rfl (fun hc => ?_) (fun hc => ?_)
  · have h := ip hc h
    obtain ⟨_, hm0, rfl⟩ := mr_some h
    exact x_sub [0, 1, 2] rfl (w_X4_findOut_37 (E := fun r => E (.inr r)) hfr C  hE hm0 ht)
  · have h := iq hc h
    refine x_iload_n C dX4_findOut_23 rfl 1 rfl 24 rfl ?_
    refine x_iload_n C dX4_findOut_24 rfl 2 rfl 25 rfl ?_
    refine x_ishr C dX4_findOut_25 26 rfl ?_
    refine x_iconst C (v := 1) dX4_findOut_26 (by decide) 27 rfl ?_
    refine x_iand C dX4_findOut_27 28 rfl ?_
    refine x_if_ne C dX4_findOut_28 37 (by decide) 31 rfl (fun hc => ?_) (fun hc => ?_)
    · have h := iq hc h
      obtain ⟨_, hm0, rfl⟩ := mr_some h
      exact x_sub [0, 1, 2] rfl (w_X4_findOut_37 (E := fun r => E (.inr r)) hfr C  hE hm0 ht)
    · have h := ip hc h
      refine x_iinc C [(3, .int (l3 + 1)), (0, .ref (adr g 22)), (1, .int l1)] dX4_findOut_31 2 rfl rfl (by decide) rfl 34 rfl ?_
      refine x_goto C dX4_findOut_34 12 (by decide) ?_
      cases h
      exact x_sub [1, 2, 0] rfl (hI0 (l3 + 1) ht)
set_option maxHeartbeats 4000000 in
set_option maxRecDepth 100000 in
theorem w_X4_findOut_12 {x : Cx} {g : Gb} {E : WD → Prop} {d : Nat} {fr : Int32 → Int32 → WD → Option (WD)} (hfr : ∀ {z0 : Int32} {z1 : Int32} {zσ : WD} {zs : WD}, fr z0 z1 zσ = some zs → MC x.2.1 g yX4_findOut (.code yX4_findOut cX4_findOut 10 none) (rmk (3 + 1 * d) (90 + 29 * d)) [.ref (adr g 22), .int z0, .int z1] zσ none zs) (C : CF x g RX4 cX4_findOut 10 (rmk (3 + 1 * d + 1) (90 + 29 * d + 29)))  {l1 : Int32} {l3 : Int32} {σ : WD} (hE : ∀ (s2 : WD), E s2 → ∀ pc lv, decode cX4_findOut pc = .ok (.return_, 1) → WW x g 10 0 0 pc lv [] s2) {t : WD} (h : f_X4_findOut_12 fr l1 l3 σ = some t) (ht : E t) : WW x g 10 0 0 12 [(0, .ref (adr g 22)), (1, .int l1), (3, .int l3)] [] σ := by
  unfold f_X4_findOut_12 at h
  exact lp_ind (fun s : Int32 => WW x g 10 0 0 12 [(0, .ref (adr g 22)), (1, .int l1), (3, .int s)] [] σ) E h ht (fun s y hb hy => w_X4_findOut_b12 (E := Sum.elim (fun s : Int32 => WW x g 10 0 0 12 [(0, .ref (adr g 22)), (1, .int l1), (3, .int s)] [] σ) E) hfr C  (fun _ h => h)  hE hb hy)
set_option maxHeartbeats 4000000 in
set_option maxRecDepth 100000 in
theorem w_X4_findOut {x : Cx} {g : Gb} {E : WD → Prop} {d : Nat} {fr : Int32 → Int32 → WD → Option (WD)} (hfr : ∀ {z0 : Int32} {z1 : Int32} {zσ : WD} {zs : WD}, fr z0 z1 zσ = some zs → MC x.2.1 g yX4_findOut (.code yX4_findOut cX4_findOut 10 none) (rmk (3 + 1 * d) (90 + 29 * d)) [.ref (adr g 22), .int z0, .int z1] zσ none zs) (C : CF x g RX4 cX4_findOut 10 (rmk (3 + 1 * d + 1) (90 + 29 * d + 29)))  {a1 : Int32} {a2 : Int32} {σ : WD} (hE : ∀ (s2 : WD), E s2 → ∀ pc lv, decode cX4_findOut pc = .ok (.return_, 1) → WW x g 10 0 0 pc lv [] s2) {t : WD} (h : f_X4_findOut_0 fr a1 a2 σ = some t) (ht : E t) : WW x g 10 0 0 0 [(0, .ref (adr g 22)), (1, .int a1), (2, .int a2)] [] σ := by
  unfold f_X4_findOut_0 at h
  refine x_aload_n C dX4_findOut_0 rfl 0 rfl 1 rfl ?_
  refine gf_145_22 C dX4_findOut_1 4 rfl ?_
  refine x_iload_n C dX4_findOut_4 rfl 1 rfl 5 rfl ?_
  obtain ⟨hin, h⟩ := gi_some h
  refine x_iald C 24 (gt_24 g _) hin dX4_findOut_5 6 rfl ?_
  refine x_if_eq C dX4_findOut_6 10 (by decide) 9 rfl (fun hc => ?_) (fun hc => ?_)
  · have h := ip hc h
    refine x_iload_n C dX4_findOut_10 rfl 2 rfl 11 rfl ?_
    refine x_istore_n C [(3, .int a2), (0, .ref (adr g 22)), (1, .int a1), (2, .int a2)] dX4_findOut_11 rfl (by decide) rfl 12 rfl ?_
    exact x_sub [1, 2, 0] rfl (w_X4_findOut_12 hfr C  hE h ht)
  · have h := iq hc h
    cases h
    exact hE _ ht 9 _ dX4_findOut_9
set_option maxHeartbeats 4000000 in
set_option maxRecDepth 100000 in
theorem c_X4_findOut {l : Launch} {g : Gb} : ∀ {d : Nat} {a1 : Int32} {a2 : Int32} {σ : WD} {σ2 : WD}, f_X4_findOut d a1 a2 σ = some σ2 → MC l g yX4_findOut (.code yX4_findOut cX4_findOut 10 none) (rmk (3 + 1 * d) (90 + 29 * d)) [.ref (adr g 22), .int a1, .int a2] σ none σ2
  | 0, _, _, _, _, h => by cases h
  | d + 1, a1, a2, σ, σ2, h => by
    have h : f_X4_findOut_0 (f_X4_findOut d) a1 a2 σ = some σ2 := h
    refine MC.of (by decide) (Nat.le_of_ble_eq_true rfl) (fun x C hl hr hq => ?_)
    subst hl
    exact w_X4_findOut (E := fun z => z = σ2) (d := d) (fun h => c_X4_findOut h) C (fun a he pc lv hd => by cases he; exact x_vret C hr hq hd) h rfl
set_option maxHeartbeats 4000000 in
set_option maxRecDepth 100000 in
theorem w_X4_learn_b55 {x : Cx} {g : Gb} {E : (Int32 × WD) ⊕ (WD) → Prop} (C : CF x g RX4 cX4_learn 3 (rmk 18 526))  {l1 : Int32} {l2 : Int32} {σ : WD} (hI0 : ∀ s, E (.inl s) → WW x g 3 0 0 55 [(0, .ref (adr g 22)), (1, .int l1), (2, .int s.1)] [] s.2) (hE : ∀ (s2 : WD), E (.inr s2) → ∀ pc lv, decode cX4_learn pc = .ok (.return_, 1) → WW x g 3 0 0 pc lv [] s2) {t : (Int32 × WD) ⊕ (WD)} (h : f_X4_learn_b55 l1 l2 σ = some t) (ht : E t) : WW x g 3 0 0 55 [(0, .ref (adr g 22)), (1, .int l1), (2, .int l2)] [] σ := by
  unfold f_X4_learn_b55 at h
  refine x_iload_n C dX4_learn_55 rfl 2 rfl 56 rfl ?_
  refine x_aload_n C dX4_learn_56 rfl 0 rfl 57 rfl ?_
  refine gf_143_22 C dX4_learn_57 60 rfl ?_
  refine gf_36_1 C dX4_learn_60 63 rfl ?_
  refine x_icmp_ge C dX4_learn_63 84 (by decide) 66 rfl (fun hc => ?_) (fun hc => ?_)
  · have h := ip hc h
    cases h
    exact hE _ ht 84 _ dX4_learn_84
  · have h := iq hc h
    refine x_aload_n C dX4_learn_66 rfl 0 rfl 67 rfl ?_
    refine x_iload_n C dX4_learn_67 rfl 1 rfl 68 rfl ?_
    refine x_iconst C (v := 1) dX4_learn_68 (by decide) 69 rfl ?_
    refine x_iload_n C dX4_learn_69 rfl 2 rfl 70 rfl ?_
    refine x_ishl C dX4_learn_70 71 rfl ?_
    refine x_iconst C (v := -1) dX4_learn_71 (by decide) 72 rfl ?_
    refine x_ixor C dX4_learn_72 73 rfl ?_
    refine x_iand C dX4_learn_73 74 rfl ?_
    refine x_iconst C (v := 0) dX4_learn_74 (by decide) 75 rfl ?_
    obtain ⟨σ75, h75, h⟩ := bv_some h
    refine x_callV C 22 [.int (l1 &&& (((1 : Int32) <<< (l2 &&& 31)) ^^^ (-1))), .int 0] (c_X4_findOut  h75) mi_X4_findOut (gt_22 g _) rfl q_280 rfl ⟨rfl, rfl⟩ ⟨Nat.le_of_ble_eq_true rfl, Nat.le_of_ble_eq_true rfl⟩ ⟨Nat.zero_le _, Nat.zero_le _⟩ _ rfl (Nat.le_of_ble_eq_true rfl) dX4_learn_75 78 rfl ?_
    refine x_iinc C [(2, .int (l2 + 1)), (0, .ref (adr g 22)), (1, .int l1)] dX4_learn_78 2 rfl rfl (by decide) rfl 81 rfl ?_
    refine x_goto C dX4_learn_81 55 (by decide) ?_
    cases h
    exact x_sub [1, 2, 0] rfl (hI0 ((l2 + 1), σ75) ht)
set_option maxHeartbeats 4000000 in
set_option maxRecDepth 100000 in
theorem w_X4_learn_55 {x : Cx} {g : Gb} {E : WD → Prop} (C : CF x g RX4 cX4_learn 3 (rmk 18 526))  {l1 : Int32} {l2 : Int32} {σ : WD} (hE : ∀ (s2 : WD), E s2 → ∀ pc lv, decode cX4_learn pc = .ok (.return_, 1) → WW x g 3 0 0 pc lv [] s2) {t : WD} (h : f_X4_learn_55 l1 l2 σ = some t) (ht : E t) : WW x g 3 0 0 55 [(0, .ref (adr g 22)), (1, .int l1), (2, .int l2)] [] σ := by
  unfold f_X4_learn_55 at h
  exact lp_ind (fun s : Int32 × WD => WW x g 3 0 0 55 [(0, .ref (adr g 22)), (1, .int l1), (2, .int s.1)] [] s.2) E h ht (fun s y hb hy => w_X4_learn_b55 (E := Sum.elim (fun s : Int32 × WD => WW x g 3 0 0 55 [(0, .ref (adr g 22)), (1, .int l1), (2, .int s.1)] [] s.2) E) C  (fun _ h => h)  hE hb hy)
set_option maxHeartbeats 4000000 in
set_option maxRecDepth 100000 in
theorem w_X4_learn {x : Cx} {g : Gb} {E : WD → Prop} (C : CF x g RX4 cX4_learn 3 (rmk 18 526))   {σ : WD} (hE : ∀ (s2 : WD), E s2 → ∀ pc lv, decode cX4_learn pc = .ok (.return_, 1) → WW x g 3 0 0 pc lv [] s2) {t : WD} (h : f_X4_learn  σ = some t) (ht : E t) : WW x g 3 0 0 0 [(0, .ref (adr g 22))] [] σ := by
  unfold f_X4_learn at h
  refine x_aload_n C dX4_learn_0 rfl 0 rfl 1 rfl ?_
  refine gf_148_22 C dX4_learn_1 4 rfl ?_
  refine x_aload_n C dX4_learn_4 rfl 0 rfl 5 rfl ?_
  refine gf_143_22 C dX4_learn_5 8 rfl ?_
  refine gf_42_1 C dX4_learn_8 11 rfl ?_
  refine x_icmp_ne C dX4_learn_11 15 (by decide) 14 rfl (fun hc => ?_) (fun hc => ?_)
  · have h := iq hc h
    refine x_aload_n C dX4_learn_15 rfl 0 rfl 16 rfl ?_
    refine x_aload_n C dX4_learn_16 rfl 0 rfl 17 rfl ?_
    refine gf_143_22 C dX4_learn_17 20 rfl ?_
    refine gf_42_1 C dX4_learn_20 23 rfl ?_
    refine pf_148_22 C dX4_learn_23 26 rfl ?_
    obtain ⟨σ23, e23, h⟩ := lt_some h
    refine x_we e23 ?_
    refine x_aload_n C dX4_learn_26 rfl 0 rfl 27 rfl ?_
    refine x_iconst C (v := 0) dX4_learn_27 (by decide) 28 rfl ?_
    refine pf_147_22 C (Or.inl rfl) dX4_learn_28 31 rfl ?_
    obtain ⟨σ28, e28, h⟩ := lt_some h
    refine x_we e28 ?_
    refine x_aload_n C dX4_learn_31 rfl 0 rfl 32 rfl ?_
    refine gf_145_22 C dX4_learn_32 35 rfl ?_
    refine x_iconst C (v := 0) dX4_learn_35 (by decide) 36 rfl ?_
    refine x_callS C [.ref (adr g 24), .int 0] (c_fill 24 4096 (by decide) (fun σ => (gt_24 g σ)) (fun σ => (st_24 g σ)) 0) mi_J7_fill_53178 q_275 rfl ⟨rfl, rfl⟩ (by decide) (by decide) _ rfl (Nat.le_of_ble_eq_true rfl) dX4_learn_36 39 rfl ?_
    obtain ⟨σ36, e36, h⟩ := lt_some h
    refine x_we e36 ?_
    refine x_aload_n C dX4_learn_39 rfl 0 rfl 40 rfl ?_
    refine gf_143_22 C dX4_learn_40 43 rfl ?_
    obtain ⟨r43, h43, h⟩ := bv_some h
    refine x_callV C 1 [] (c_X0_all  h43) mi_X0_all (gt_1 g _) rfl q_276 rfl ⟨rfl, rfl⟩ ⟨Nat.le_of_ble_eq_true rfl, Nat.le_of_ble_eq_true rfl⟩ ⟨Nat.zero_le _, Nat.zero_le _⟩ _ rfl (Nat.le_of_ble_eq_true rfl) dX4_learn_43 46 rfl ?_
    refine x_istore_n C [(1, .int r43), (0, .ref (adr g 22))] dX4_learn_46 rfl (by decide) rfl 47 rfl ?_
    refine x_aload_n C dX4_learn_47 rfl 1 rfl 48 rfl ?_
    refine x_iload_n C dX4_learn_48 rfl 0 rfl 49 rfl ?_
    refine x_iconst C (v := 0) dX4_learn_49 (by decide) 50 rfl ?_
    obtain ⟨σ50, h50, h⟩ := bv_some h
    refine x_callV C 22 [.int r43, .int 0] (c_X4_findOut  h50) mi_X4_findOut (gt_22 g _) rfl q_280 rfl ⟨rfl, rfl⟩ ⟨Nat.le_of_ble_eq_true rfl, Nat.le_of_ble_eq_true rfl⟩ ⟨Nat.zero_le _, Nat.zero_le _⟩ _ rfl (Nat.le_of_ble_eq_true rfl) dX4_learn_50 53 rfl ?_
    refine x_iconst C (v := 0) dX4_learn_53 (by decide) 54 rfl ?_
    refine x_istore_n C [(2, .int 0), (1, .int r43), (0, .ref (adr g 22))] dX4_learn_54 rfl (by decide) rfl 55 rfl ?_
    exact x_sub [2, 1, 0] rfl (w_X4_learn_55 C  hE h ht)
  · have h := ip hc h
    cases h
    exact hE _ ht 14 _ dX4_learn_14
set_option maxHeartbeats 4000000 in
set_option maxRecDepth 100000 in
theorem c_X4_learn {g : Gb} {l : Launch}   {σ : WD} {σ2 : WD} (h : f_X4_learn  σ = some σ2) : MC l g yX4_learn (.code yX4_learn cX4_learn 3 none) (rmk 18 526) [.ref (adr g 22)] σ none σ2 := by
  refine MC.of (by decide) (Nat.le_of_ble_eq_true rfl) (fun x C hl hr hq => ?_)
  subst hl
  exact w_X4_learn (E := fun z => z = σ2) C  (fun a he pc lv hd => by cases he; exact x_vret C hr hq hd) h rfl
set_option maxHeartbeats 4000000 in
set_option maxRecDepth 100000 in
theorem w_X4_leastMate_b23 {x : Cx} {g : Gb} {E : (Int32 × WD) ⊕ (Int32 × WD) → Prop} (C : CF x g RX4 cX4_leastMate 6 (rmk 18 526))  {l1 : Int32} {l2 : Int32} {l3 : Int32} {l4 : Int32} {σ : WD} (hI0 : ∀ s, E (.inl s) → WW x g 6 0 0 23 [(0, .ref (adr g 22)), (1, .int l1), (2, .int l2), (3, .int l3), (4, .int s.1)] [] s.2) (hE : ∀ (a : Int32) (s2 : WD), E (.inr (a, s2)) → ∀ pc lv, decode cX4_leastMate pc = .ok (.ireturn, 1) → WW x g 6 0 0 pc lv [.int a] s2) {t : (Int32 × WD) ⊕ (Int32 × WD)} (h : f_X4_leastMate_b23 l1 l2 l3 l4 σ = some t) (ht : E t) : WW x g 6 0 0 23 [(0, .ref (adr g 22)), (1, .int l1), (2, .int l2), (3, .int l3), (4, .int l4)] [] σ := by
  unfold f_X4_leastMate_b23 at h
  refine x_iload C dX4_leastMate_23 4 rfl 25 rfl ?_
  refine x_aload_n C dX4_leastMate_25 rfl 0 rfl 26 rfl ?_
  refine gf_143_22 C dX4_leastMate_26 29 rfl ?_
  refine gf_36_1 C dX4_leastMate_29 32 rfl ?_
  refine x_icmp_ge C dX4_leastMate_32 99 (by decide) 35 rfl (fun hc => ?_) (fun hc => ?_)
  · have h := ip hc h
    refine x_iconst C (v := -1) dX4_leastMate_99 (by decide) 100 rfl ?_
    cases h
    exact hE _ _ ht 100 _ dX4_leastMate_100
  · have h := iq hc h
    refine x_iload_n C dX4_leastMate_35 rfl 3 rfl 36 rfl ?_
    refine x_iload C dX4_leastMate_36 4 rfl 38 rfl ?_
    refine x_ishr C dX4_leastMate_38 39 rfl ?_
    refine x_iconst C (v := 1) dX4_leastMate_39 (by decide) 40 rfl ?_
    refine x_iand C dX4_leastMate_40 41 rfl ?_
    refine x_if_ne C dX4_leastMate_41 47 (by decide) 44 rfl (fun hc => ?_) (fun hc => ?_)
    · have h := iq hc h
      refine x_iload_n C dX4_leastMate_47 rfl 2 rfl 48 rfl ?_
      refine x_iconst C (v := 1) dX4_leastMate_48 (by decide) 49 rfl ?_
      refine x_iload_n C dX4_leastMate_49 rfl 1 rfl 50 rfl ?_
      refine x_ishl C dX4_leastMate_50 51 rfl ?_
      refine x_iconst C (v := -1) dX4_leastMate_51 (by decide) 52 rfl ?_
      refine x_ixor C dX4_leastMate_52 53 rfl ?_
      refine x_iand C dX4_leastMate_53 54 rfl ?_
      refine x_iconst C (v := 1) dX4_leastMate_54 (by decide) 55 rfl ?_
      refine x_iload C dX4_leastMate_55 4 rfl 57 rfl ?_
      refine x_ishl C dX4_leastMate_57 58 rfl ?_
      refine x_iconst C (v := -1) dX4_leastMate_58 (by decide) 59 rfl ?_
      refine x_ixor C dX4_leastMate_59 60 rfl ?_
      refine x_iand C dX4_leastMate_60 61 rfl ?_
      obtain ⟨v61, e61, h⟩ := li_some h
      refine x_te e61 ?_
      refine x_istore C [(5, .int v61), (0, .ref (adr g 22)), (1, .int l1), (2, .int l2), (3, .int l3), (4, .int l4)] dX4_leastMate_61 (by decide) rfl 63 rfl ?_
      refine x_aload_n C dX4_leastMate_63 rfl 1 rfl 64 rfl ?_
      refine x_iload C dX4_leastMate_64 0 rfl 66 rfl ?_
      refine x_iload_n C dX4_leastMate_66 rfl 2 rfl 67 rfl ?_
      refine x_iconst C (v := 1) dX4_leastMate_67 (by decide) 68 rfl ?_
      refine x_iadd C dX4_leastMate_68 69 rfl ?_
      obtain ⟨σ69, h69, h⟩ := bv_some h
      refine x_callV C 22 [.int v61, .int (l1 + 1)] (c_X4_findOut  h69) mi_X4_findOut (gt_22 g _) rfl q_280 rfl ⟨rfl, rfl⟩ ⟨Nat.le_of_ble_eq_true rfl, Nat.le_of_ble_eq_true rfl⟩ ⟨Nat.zero_le _, Nat.zero_le _⟩ _ rfl (Nat.le_of_ble_eq_true rfl) dX4_leastMate_69 72 rfl ?_
      refine x_aload_n C dX4_leastMate_72 rfl 1 rfl 73 rfl ?_
      refine gf_144_22 C dX4_leastMate_73 76 rfl ?_
      refine x_iload C dX4_leastMate_76 0 rfl 78 rfl ?_
      obtain ⟨hin, h⟩ := gi_some h
      refine x_iald C 23 (gt_23 g _) hin dX4_leastMate_78 79 rfl ?_
      refine x_iconst C (v := 1) dX4_leastMate_79 (by decide) 80 rfl ?_
      refine x_iadd C dX4_leastMate_80 81 rfl ?_
      refine x_aload_n C dX4_leastMate_81 rfl 1 rfl 82 rfl ?_
      refine gf_144_22 C dX4_leastMate_82 85 rfl ?_
      refine x_iload_n C dX4_leastMate_85 rfl 3 rfl 86 rfl ?_
      obtain ⟨hin, h⟩ := gi_some h
      refine x_iald C 23 (gt_23 g _) hin dX4_leastMate_86 87 rfl ?_
      refine x_icmp_ne C dX4_leastMate_87 93 (by decide) 90 rfl (fun hc => ?_) (fun hc => ?_)
      · have h := iq hc h
        refine x_iinc C [(4, .int (l4 + 1)), (5, .int v61), (0, .ref (adr g 22)), (1, .int l1), (2, .int l2), (3, .int l3)] dX4_leastMate_93 5 rfl rfl (by decide) rfl 96 rfl ?_
        refine x_goto C dX4_leastMate_96 23 (by decide) ?_
        cases h
        exact x_sub [2, 3, 4, 5, 0] rfl (hI0 ((l4 + 1), σ69) ht)
      · have h := ip hc h
        refine x_iload C dX4_leastMate_90 5 rfl 92 rfl ?_
        cases h
        exact hE _ _ ht 92 _ dX4_leastMate_92
    · have h := ip hc h
      refine x_goto C dX4_leastMate_44 93 (by decide) ?_
      refine x_iinc C [(4, .int (l4 + 1)), (0, .ref (adr g 22)), (1, .int l1), (2, .int l2), (3, .int l3)] dX4_leastMate_93 4 rfl rfl (by decide) rfl 96 rfl ?_
      refine x_goto C dX4_leastMate_96 23 (by decide) ?_
      cases h
      exact x_sub [1, 2, 3, 4, 0] rfl (hI0 ((l4 + 1), σ) ht)
set_option maxHeartbeats 4000000 in
set_option maxRecDepth 100000 in
theorem w_X4_leastMate_23 {x : Cx} {g : Gb} {E : Int32 × WD → Prop} (C : CF x g RX4 cX4_leastMate 6 (rmk 18 526))  {l1 : Int32} {l2 : Int32} {l3 : Int32} {l4 : Int32} {σ : WD} (hE : ∀ (a : Int32) (s2 : WD), E (a, s2) → ∀ pc lv, decode cX4_leastMate pc = .ok (.ireturn, 1) → WW x g 6 0 0 pc lv [.int a] s2) {t : Int32 × WD} (h : f_X4_leastMate_23 l1 l2 l3 l4 σ = some t) (ht : E t) : WW x g 6 0 0 23 [(0, .ref (adr g 22)), (1, .int l1), (2, .int l2), (3, .int l3), (4, .int l4)] [] σ := by
  unfold f_X4_leastMate_23 at h
  exact lp_ind (fun s : Int32 × WD => WW x g 6 0 0 23 [(0, .ref (adr g 22)), (1, .int l1), (2, .int l2), (3, .int l3), (4, .int s.1)] [] s.2) E h ht (fun s y hb hy => w_X4_leastMate_b23 (E := Sum.elim (fun s : Int32 × WD => WW x g 6 0 0 23 [(0, .ref (adr g 22)), (1, .int l1), (2, .int l2), (3, .int l3), (4, .int s.1)] [] s.2) E) C  (fun _ h => h)  hE hb hy)
set_option maxHeartbeats 4000000 in
set_option maxRecDepth 100000 in
theorem w_X4_leastMate {x : Cx} {g : Gb} {E : Int32 × WD → Prop} (C : CF x g RX4 cX4_leastMate 6 (rmk 18 526))  {a1 : Int32} {a2 : Int32} {σ : WD} (hE : ∀ (a : Int32) (s2 : WD), E (a, s2) → ∀ pc lv, decode cX4_leastMate pc = .ok (.ireturn, 1) → WW x g 6 0 0 pc lv [.int a] s2) {t : Int32 × WD} (h : f_X4_leastMate a1 a2 σ = some t) (ht : E t) : WW x g 6 0 0 0 [(0, .ref (adr g 22)), (1, .int a1), (2, .int a2)] [] σ := by
  unfold f_X4_leastMate at h
  refine x_aload_n C dX4_leastMate_0 rfl 0 rfl 1 rfl ?_
  refine x_iload_n C dX4_leastMate_1 rfl 2 rfl 2 rfl ?_
  refine x_iload_n C dX4_leastMate_2 rfl 1 rfl 3 rfl ?_
  obtain ⟨σ3, h3, h⟩ := bv_some h
  refine x_callV C 22 [.int a2, .int a1] (c_X4_findOut  h3) mi_X4_findOut (gt_22 g _) rfl q_280 rfl ⟨rfl, rfl⟩ ⟨Nat.le_of_ble_eq_true rfl, Nat.le_of_ble_eq_true rfl⟩ ⟨Nat.zero_le _, Nat.zero_le _⟩ _ rfl (Nat.le_of_ble_eq_true rfl) dX4_leastMate_3 6 rfl ?_
  refine x_aload_n C dX4_leastMate_6 rfl 0 rfl 7 rfl ?_
  refine gf_143_22 C dX4_leastMate_7 10 rfl ?_
  refine gf_39_1 C dX4_leastMate_10 13 rfl ?_
  refine x_iload_n C dX4_leastMate_13 rfl 1 rfl 14 rfl ?_
  obtain ⟨hin, h⟩ := gi_some h
  refine x_iald C 2 (gt_2 g _) hin dX4_leastMate_14 15 rfl ?_
  refine x_iload_n C dX4_leastMate_15 rfl 2 rfl 16 rfl ?_
  refine x_iand C dX4_leastMate_16 17 rfl ?_
  obtain ⟨v17, e17, h⟩ := li_some h
  refine x_te e17 ?_
  refine x_istore_n C [(3, .int v17), (0, .ref (adr g 22)), (1, .int a1), (2, .int a2)] dX4_leastMate_17 rfl (by decide) rfl 18 rfl ?_
  refine x_iload_n C dX4_leastMate_18 rfl 2 rfl 19 rfl ?_
  refine x_iconst C (v := 1) dX4_leastMate_19 (by decide) 20 rfl ?_
  refine x_iadd C dX4_leastMate_20 21 rfl ?_
  refine x_istore C [(4, .int (a1 + 1)), (3, .int v17), (0, .ref (adr g 22)), (1, .int a1), (2, .int a2)] dX4_leastMate_21 (by decide) rfl 23 rfl ?_
  exact x_sub [2, 3, 4, 1, 0] rfl (w_X4_leastMate_23 C  hE h ht)
set_option maxHeartbeats 4000000 in
set_option maxRecDepth 100000 in
theorem c_X4_leastMate {g : Gb} {l : Launch}  {a1 : Int32} {a2 : Int32} {σ : WD} {r : Int32} {σ2 : WD} (h : f_X4_leastMate a1 a2 σ = some (r, σ2)) : MC l g yX4_leastMate (.code yX4_leastMate cX4_leastMate 6 (some (.int))) (rmk 18 526) [.ref (adr g 22), .int a1, .int a2] σ (some (.int r)) σ2 := by
  refine MC.of (by decide) (Nat.le_of_ble_eq_true rfl) (fun x C hl hr hq => ?_)
  subst hl
  exact w_X4_leastMate (E := fun z => z = (r, σ2)) C  (fun a s2 he pc lv hd => by cases he; exact x_iret C hr hq hd) h rfl
set_option maxHeartbeats 4000000 in
set_option maxRecDepth 100000 in
theorem w_X4_findFirst_b17 {x : Cx} {g : Gb} {E : (Int32 × Int32 × WD) ⊕ (WD) → Prop} (C : CF x g RX4 cX4_findFirst 4 (rmk 19 552))  {l1 : Int32} {l2 : Int32} {σ : WD} (hI0 : ∀ s, E (.inl s) → WW x g 4 0 0 17 [(0, .ref (adr g 22)), (1, .int s.1), (2, .int s.2.1)] [] s.2.2) (hE : ∀ (s2 : WD), E (.inr s2) → ∀ pc lv, decode cX4_findFirst pc = .ok (.return_, 1) → WW x g 4 0 0 pc lv [] s2) {t : (Int32 × Int32 × WD) ⊕ (WD)} (h : f_X4_findFirst_b17 l1 l2 σ = some t) (ht : E t) : WW x g 4 0 0 17 [(0, .ref (adr g 22)), (1, .int l1), (2, .int l2)] [] σ := by
  unfold f_X4_findFirst_b17 at h
  refine x_iload_n C dX4_findFirst_17 rfl 2 rfl 18 rfl ?_
  refine x_aload_n C dX4_findFirst_18 rfl 0 rfl 19 rfl ?_
  refine gf_143_22 C dX4_findFirst_19 22 rfl ?_
  refine gf_36_1 C dX4_findFirst_22 25 rfl ?_
  refine x_icmp_ge C dX4_findFirst_25 79 (by decide) 28 rfl (fun hc => ?_) (fun hc => ?_)
  · have h := ip hc h
    cases h
    exact hE _ ht 79 _ dX4_findFirst_79
  · have h := iq hc h
    refine x_iload_n C dX4_findFirst_28 rfl 1 rfl 29 rfl ?_
    refine x_iload_n C dX4_findFirst_29 rfl 2 rfl 30 rfl ?_
    refine x_ishr C dX4_findFirst_30 31 rfl ?_
    refine x_iconst C (v := 1) dX4_findFirst_31 (by decide) 32 rfl ?_
    refine x_iand C dX4_findFirst_32 33 rfl ?_
    refine x_if_eq C dX4_findFirst_33 73 (by decide) 36 rfl (fun hc => ?_) (fun hc => ?_)
    · have h := ip hc h
      refine x_iinc C [(2, .int (l2 + 1)), (0, .ref (adr g 22)), (1, .int l1)] dX4_findFirst_73 2 rfl rfl (by decide) rfl 76 rfl ?_
      refine x_goto C dX4_findFirst_76 17 (by decide) ?_
      cases h
      exact x_sub [1, 2, 0] rfl (hI0 (l1, (l2 + 1), σ) ht)
    · have h := iq hc h
      refine x_aload_n C dX4_findFirst_36 rfl 0 rfl 37 rfl ?_
      refine x_iload_n C dX4_findFirst_37 rfl 2 rfl 38 rfl ?_
      refine x_iload_n C dX4_findFirst_38 rfl 1 rfl 39 rfl ?_
      obtain ⟨r39, σ39, h39, h⟩ := bn_some h
      refine x_callV C 22 [.int l2, .int l1] (c_X4_leastMate  h39) mi_X4_leastMate (gt_22 g _) rfl q_292 rfl ⟨rfl, rfl⟩ ⟨Nat.le_of_ble_eq_true rfl, Nat.le_of_ble_eq_true rfl⟩ ⟨Nat.zero_le _, Nat.zero_le _⟩ _ rfl (Nat.le_of_ble_eq_true rfl) dX4_findFirst_39 42 rfl ?_
      refine x_istore_n C [(3, .int r39), (0, .ref (adr g 22)), (1, .int l1), (2, .int l2)] dX4_findFirst_42 rfl (by decide) rfl 43 rfl ?_
      refine x_iload_n C dX4_findFirst_43 rfl 2 rfl 44 rfl ?_
      refine x_iconst C (v := 1) dX4_findFirst_44 (by decide) 45 rfl ?_
      refine x_iload_n C dX4_findFirst_45 rfl 3 rfl 46 rfl ?_
      refine x_ishl C dX4_findFirst_46 47 rfl ?_
      refine x_iconst C (v := -1) dX4_findFirst_47 (by decide) 48 rfl ?_
      refine x_ixor C dX4_findFirst_48 49 rfl ?_
      refine x_iand C dX4_findFirst_49 50 rfl ?_
      obtain ⟨v50, e50, h⟩ := li_some h
      refine x_te e50 ?_
      refine x_istore_n C [(1, .int v50), (3, .int r39), (0, .ref (adr g 22)), (2, .int l2)] dX4_findFirst_50 rfl (by decide) rfl 51 rfl ?_
      refine x_iload_n C dX4_findFirst_51 rfl 1 rfl 52 rfl ?_
      refine x_iconst C (v := -1) dX4_findFirst_52 (by decide) 53 rfl ?_
      refine x_icmp_eq C dX4_findFirst_53 73 (by decide) 56 rfl (fun hc => ?_) (fun hc => ?_)
      · have h := ip hc h
        refine x_iinc C [(2, .int (l2 + 1)), (1, .int v50), (3, .int r39), (0, .ref (adr g 22))] dX4_findFirst_73 3 rfl rfl (by decide) rfl 76 rfl ?_
        refine x_goto C dX4_findFirst_76 17 (by decide) ?_
        cases h
        exact x_sub [3, 1, 0] rfl (hI0 (v50, (l2 + 1), σ39) ht)
      · have h := iq hc h
        refine x_aload_n C dX4_findFirst_56 rfl 2 rfl 57 rfl ?_
        refine gf_146_22 C dX4_findFirst_57 60 rfl ?_
        refine x_iload_n C dX4_findFirst_60 rfl 3 rfl 61 rfl ?_
        refine x_iload_n C dX4_findFirst_61 rfl 1 rfl 62 rfl ?_
        obtain ⟨σ62, h62, h⟩ := bv_some h
        refine x_callV C 25 [.int l2, .int r39] (c_X3_join_f  h62) mi_X3_join (gt_25 g _) rfl q_296 rfl ⟨rfl, rfl⟩ ⟨Nat.le_of_ble_eq_true rfl, Nat.le_of_ble_eq_true rfl⟩ ⟨Nat.zero_le _, Nat.zero_le _⟩ _ rfl (Nat.le_of_ble_eq_true rfl) dX4_findFirst_62 65 rfl ?_
        refine x_iload_n C dX4_findFirst_65 rfl 0 rfl 66 rfl ?_
        refine x_iconst C (v := 1) dX4_findFirst_66 (by decide) 67 rfl ?_
        refine x_iload_n C dX4_findFirst_67 rfl 1 rfl 68 rfl ?_
        refine x_ishl C dX4_findFirst_68 69 rfl ?_
        refine x_iconst C (v := -1) dX4_findFirst_69 (by decide) 70 rfl ?_
        refine x_ixor C dX4_findFirst_70 71 rfl ?_
        refine x_iand C dX4_findFirst_71 72 rfl ?_
        obtain ⟨v72, e72, h⟩ := li_some h
        refine x_te e72 ?_
        refine x_istore_n C [(1, .int v72), (3, .int r39), (0, .ref (adr g 22)), (2, .int l2)] dX4_findFirst_72 rfl (by decide) rfl 73 rfl ?_
        refine x_iinc C [(2, .int (l2 + 1)), (1, .int v72), (3, .int r39), (0, .ref (adr g 22))] dX4_findFirst_73 3 rfl rfl (by decide) rfl 76 rfl ?_
        refine x_goto C dX4_findFirst_76 17 (by decide) ?_
        cases h
        exact x_sub [3, 1, 0] rfl (hI0 (v72, (l2 + 1), σ62) ht)
set_option maxHeartbeats 4000000 in
set_option maxRecDepth 100000 in
theorem w_X4_findFirst_17 {x : Cx} {g : Gb} {E : WD → Prop} (C : CF x g RX4 cX4_findFirst 4 (rmk 19 552))  {l1 : Int32} {l2 : Int32} {σ : WD} (hE : ∀ (s2 : WD), E s2 → ∀ pc lv, decode cX4_findFirst pc = .ok (.return_, 1) → WW x g 4 0 0 pc lv [] s2) {t : WD} (h : f_X4_findFirst_17 l1 l2 σ = some t) (ht : E t) : WW x g 4 0 0 17 [(0, .ref (adr g 22)), (1, .int l1), (2, .int l2)] [] σ := by
  unfold f_X4_findFirst_17 at h
  exact lp_ind (fun s : Int32 × Int32 × WD => WW x g 4 0 0 17 [(0, .ref (adr g 22)), (1, .int s.1), (2, .int s.2.1)] [] s.2.2) E h ht (fun s y hb hy => w_X4_findFirst_b17 (E := Sum.elim (fun s : Int32 × Int32 × WD => WW x g 4 0 0 17 [(0, .ref (adr g 22)), (1, .int s.1), (2, .int s.2.1)] [] s.2.2) E) C  (fun _ h => h)  hE hb hy)
set_option maxHeartbeats 4000000 in
set_option maxRecDepth 100000 in
theorem w_X4_findFirst {x : Cx} {g : Gb} {E : WD → Prop} (C : CF x g RX4 cX4_findFirst 4 (rmk 19 552))   {σ : WD} (hE : ∀ (s2 : WD), E s2 → ∀ pc lv, decode cX4_findFirst pc = .ok (.return_, 1) → WW x g 4 0 0 pc lv [] s2) {t : WD} (h : f_X4_findFirst  σ = some t) (ht : E t) : WW x g 4 0 0 0 [(0, .ref (adr g 22))] [] σ := by
  unfold f_X4_findFirst at h
  refine x_aload_n C dX4_findFirst_0 rfl 0 rfl 1 rfl ?_
  refine gf_146_22 C dX4_findFirst_1 4 rfl ?_
  obtain ⟨σ4, h4, h⟩ := bv_some h
  refine x_callV C 25 [] (c_X3_clear_f  h4) mi_X3_clear (gt_25 g _) rfl q_288 rfl ⟨rfl, rfl⟩ ⟨Nat.le_of_ble_eq_true rfl, Nat.le_of_ble_eq_true rfl⟩ ⟨Nat.zero_le _, Nat.zero_le _⟩ _ rfl (Nat.le_of_ble_eq_true rfl) dX4_findFirst_4 7 rfl ?_
  refine x_aload_n C dX4_findFirst_7 rfl 0 rfl 8 rfl ?_
  refine gf_143_22 C dX4_findFirst_8 11 rfl ?_
  obtain ⟨r11, h11, h⟩ := bv_some h
  refine x_callV C 1 [] (c_X0_all  h11) mi_X0_all (gt_1 g _) rfl q_276 rfl ⟨rfl, rfl⟩ ⟨Nat.le_of_ble_eq_true rfl, Nat.le_of_ble_eq_true rfl⟩ ⟨Nat.zero_le _, Nat.zero_le _⟩ _ rfl (Nat.le_of_ble_eq_true rfl) dX4_findFirst_11 14 rfl ?_
  refine x_istore_n C [(1, .int r11), (0, .ref (adr g 22))] dX4_findFirst_14 rfl (by decide) rfl 15 rfl ?_
  refine x_iconst C (v := 0) dX4_findFirst_15 (by decide) 16 rfl ?_
  refine x_istore_n C [(2, .int 0), (1, .int r11), (0, .ref (adr g 22))] dX4_findFirst_16 rfl (by decide) rfl 17 rfl ?_
  exact x_sub [2, 1, 0] rfl (w_X4_findFirst_17 C  hE h ht)
set_option maxHeartbeats 4000000 in
set_option maxRecDepth 100000 in
theorem c_X4_findFirst {g : Gb} {l : Launch}   {σ : WD} {σ2 : WD} (h : f_X4_findFirst  σ = some σ2) : MC l g yX4_findFirst (.code yX4_findFirst cX4_findFirst 4 none) (rmk 19 552) [.ref (adr g 22)] σ none σ2 := by
  refine MC.of (by decide) (Nat.le_of_ble_eq_true rfl) (fun x C hl hr hq => ?_)
  subst hl
  exact w_X4_findFirst (E := fun z => z = σ2) C  (fun a he pc lv hd => by cases he; exact x_vret C hr hq hd) h rfl
set_option maxHeartbeats 4000000 in
set_option maxRecDepth 100000 in
theorem w_X4_first_20 {x : Cx} {g : Gb} {E : WD → Prop} (C : CF x g RX4 cX4_first 1 (rmk 20 576))   {σ : WD} (hE : ∀ (s2 : WD), E s2 → ∀ pc lv, decode cX4_first pc = .ok (.areturn, 1) → WW x g 1 0 0 pc lv [.ref (adr g 25)] s2) {t : WD} (h : f_X4_first_20  σ = some t) (ht : E t) : WW x g 1 0 0 20 [(0, .ref (adr g 22))] [] σ := by
  unfold f_X4_first_20 at h
  refine x_aload_n C dX4_first_20 rfl 0 rfl 21 rfl ?_
  refine gf_146_22 C dX4_first_21 24 rfl ?_
  cases h
  exact hE _ ht 24 _ dX4_first_24
set_option maxHeartbeats 4000000 in
set_option maxRecDepth 100000 in
theorem w_X4_first {x : Cx} {g : Gb} {E : WD → Prop} (C : CF x g RX4 cX4_first 1 (rmk 20 576))   {σ : WD} (hE : ∀ (s2 : WD), E s2 → ∀ pc lv, decode cX4_first pc = .ok (.areturn, 1) → WW x g 1 0 0 pc lv [.ref (adr g 25)] s2) {t : WD} (h : f_X4_first  σ = some t) (ht : E t) : WW x g 1 0 0 0 [(0, .ref (adr g 22))] [] σ := by
  unfold f_X4_first at h
  refine x_aload_n C dX4_first_0 rfl 0 rfl 1 rfl ?_
  obtain ⟨σ1, h1, h⟩ := bv_some h
  refine x_callV C 22 [] (c_X4_learn  h1) mi_X4_learn (gt_22 g _) rfl q_271 rfl ⟨rfl, rfl⟩ ⟨Nat.le_of_ble_eq_true rfl, Nat.le_of_ble_eq_true rfl⟩ ⟨Nat.zero_le _, Nat.zero_le _⟩ _ rfl (Nat.le_of_ble_eq_true rfl) dX4_first_1 4 rfl ?_
  refine x_aload_n C dX4_first_4 rfl 0 rfl 5 rfl ?_
  refine gf_147_22 C dX4_first_5 8 rfl ?_
  refine x_if_ne C dX4_first_8 20 (by decide) 11 rfl (fun hc => ?_) (fun hc => ?_)
  · have h := iq hc h
    exact x_sub [0] rfl (w_X4_first_20 C  hE h ht)
  · have h := ip hc h
    refine x_aload_n C dX4_first_11 rfl 0 rfl 12 rfl ?_
    obtain ⟨σ12, h12, h⟩ := bv_some h
    refine x_callV C 22 [] (c_X4_findFirst  h12) mi_X4_findFirst (gt_22 g _) rfl q_284 rfl ⟨rfl, rfl⟩ ⟨Nat.le_of_ble_eq_true rfl, Nat.le_of_ble_eq_true rfl⟩ ⟨Nat.zero_le _, Nat.zero_le _⟩ _ rfl (Nat.le_of_ble_eq_true rfl) dX4_first_12 15 rfl ?_
    refine x_aload_n C dX4_first_15 rfl 0 rfl 16 rfl ?_
    refine x_iconst C (v := 1) dX4_first_16 (by decide) 17 rfl ?_
    refine pf_147_22 C (Or.inr rfl) dX4_first_17 20 rfl ?_
    obtain ⟨σ17, e17, h⟩ := lt_some h
    refine x_we e17 ?_
    exact x_sub [0] rfl (w_X4_first_20 C  hE h ht)
set_option maxHeartbeats 4000000 in
set_option maxRecDepth 100000 in
theorem c_X4_first {g : Gb} {l : Launch}   {σ : WD} {σ2 : WD} (h : f_X4_first  σ = some σ2) : MC l g yX4_first (.code yX4_first cX4_first 1 (some (.object "MatchingGraph$Matching"))) (rmk 20 576) [.ref (adr g 22)] σ (some (.ref (adr g 25))) σ2 := by
  refine MC.of (by decide) (Nat.le_of_ble_eq_true rfl) (fun x C hl hr hq => ?_)
  subst hl
  exact w_X4_first (E := fun z => z = σ2) C  (fun a he pc lv hd => by cases he; exact x_aret C hr hq hd) h rfl
set_option maxHeartbeats 4000000 in
set_option maxRecDepth 100000 in
theorem w_X5_followFrom_b3 {x : Cx} {g : Gb} {E : (Int32 × WD) ⊕ (WD) → Prop} (C : CF x g RX5 cX5_followFrom 6 (rmk 2 24))  {l1 : Int32} {l2 : Int32} {l3 : Int32} {l4 : Int32} {σ : WD} (hI0 : ∀ s, E (.inl s) → WW x g 6 0 0 3 [(0, .ref (adr g 18)), (1, .int l1), (2, .int l2), (3, .int l3), (4, .int s.1)] [] s.2) (hE : ∀ (s2 : WD), E (.inr s2) → ∀ pc lv, decode cX5_followFrom pc = .ok (.return_, 1) → WW x g 6 0 0 pc lv [] s2) {t : (Int32 × WD) ⊕ (WD)} (h : f_X5_followFrom_b3 l1 l2 l3 l4 σ = some t) (ht : E t) : WW x g 6 0 0 3 [(0, .ref (adr g 18)), (1, .int l1), (2, .int l2), (3, .int l3), (4, .int l4)] [] σ := by
  unfold f_X5_followFrom_b3 at h
  refine x_iload C dX5_followFrom_3 4 rfl 5 rfl ?_
  refine x_aload_n C dX5_followFrom_5 rfl 0 rfl 6 rfl ?_
  refine gf_110_18 C dX5_followFrom_6 9 rfl ?_
  refine gf_34_1 C dX5_followFrom_9 12 rfl ?_
  refine x_icmp_ge C dX5_followFrom_12 101 (by decide) 15 rfl (fun hc => ?_) (fun hc => ?_)
  · have h := ip hc h
    cases h
    exact hE _ ht 101 _ dX5_followFrom_101
  · have h := iq hc h
    refine x_aload_n C dX5_followFrom_15 rfl 0 rfl 16 rfl ?_
    refine gf_112_18 C dX5_followFrom_16 19 rfl ?_
    refine x_iload C dX5_followFrom_19 4 rfl 21 rfl ?_
    obtain ⟨hin, h⟩ := gi_some h
    refine x_iald C 19 (gt_19 g _) hin dX5_followFrom_21 22 rfl ?_
    obtain ⟨v22, e22, h⟩ := li_some h
    refine x_te e22 ?_
    refine x_istore C [(5, .int v22), (0, .ref (adr g 18)), (1, .int l1), (2, .int l2), (3, .int l3), (4, .int l4)] dX5_followFrom_22 (by decide) rfl 24 rfl ?_
    refine x_iload C dX5_followFrom_24 5 rfl 26 rfl ?_
    refine x_iload_n C dX5_followFrom_26 rfl 4 rfl 27 rfl ?_
    refine x_icmp_eq C dX5_followFrom_27 95 (by decide) 30 rfl (fun hc => ?_) (fun hc => ?_)
    · have h := ip hc h
      refine x_iinc C [(4, .int (l4 + 1)), (5, .int v22), (0, .ref (adr g 18)), (1, .int l1), (2, .int l2), (3, .int l3)] dX5_followFrom_95 5 rfl rfl (by decide) rfl 98 rfl ?_
      refine x_goto C dX5_followFrom_98 3 (by decide) ?_
      cases h
      exact x_sub [2, 3, 4, 5, 0] rfl (hI0 ((l4 + 1), σ) ht)
    · have h := iq hc h
      refine x_aload_n C dX5_followFrom_30 rfl 1 rfl 31 rfl ?_
      refine gf_110_18 C dX5_followFrom_31 34 rfl ?_
      refine x_iload_n C dX5_followFrom_34 rfl 2 rfl 35 rfl ?_
      refine x_iload C dX5_followFrom_35 5 rfl 37 rfl ?_
      obtain ⟨r37, h37, h⟩ := bv_some h
      refine x_callV C 1 [.int l1, .int l4] (c_X0_joined  h37) mi_X0_joined (gt_1 g _) rfl q_247 rfl ⟨rfl, rfl⟩ ⟨Nat.le_of_ble_eq_true rfl, Nat.le_of_ble_eq_true rfl⟩ ⟨Nat.zero_le _, Nat.zero_le _⟩ _ rfl (Nat.le_of_ble_eq_true rfl) dX5_followFrom_37 40 rfl ?_
      refine x_if_eq C dX5_followFrom_40 95 (by decide) 43 rfl (fun hc => ?_) (fun hc => ?_)
      · have h := ip hc h
        refine x_iinc C [(4, .int (l4 + 1)), (5, .int v22), (0, .ref (adr g 18)), (1, .int l1), (2, .int l2), (3, .int l3)] dX5_followFrom_95 5 rfl rfl (by decide) rfl 98 rfl ?_
        refine x_goto C dX5_followFrom_98 3 (by decide) ?_
        cases h
        exact x_sub [2, 3, 4, 5, 0] rfl (hI0 ((l4 + 1), σ) ht)
      · have h := iq hc h
        refine x_iload C dX5_followFrom_43 0 rfl 45 rfl ?_
        refine x_iload_n C dX5_followFrom_45 rfl 3 rfl 46 rfl ?_
        refine x_iand C dX5_followFrom_46 47 rfl ?_
        refine x_if_eq C dX5_followFrom_47 53 (by decide) 50 rfl (fun hc => ?_) (fun hc => ?_)
        · have h := ip hc h
          refine x_aload_n C dX5_followFrom_53 rfl 1 rfl 54 rfl ?_
          refine x_dup C dX5_followFrom_54 rfl 55 rfl ?_
          refine gf_118_18 C dX5_followFrom_55 58 rfl ?_
          refine x_iconst C (v := 1) dX5_followFrom_58 (by decide) 59 rfl ?_
          refine x_iload C dX5_followFrom_59 5 rfl 61 rfl ?_
          refine x_ishl C dX5_followFrom_61 62 rfl ?_
          refine x_ior C dX5_followFrom_62 63 rfl ?_
          refine pf_118_18 C dX5_followFrom_63 66 rfl ?_
          obtain ⟨σ63, e63, h⟩ := lt_some h
          refine x_we e63 ?_
          refine x_iload C dX5_followFrom_66 0 rfl 68 rfl ?_
          refine x_if_eq C dX5_followFrom_68 95 (by decide) 71 rfl (fun hc => ?_) (fun hc => ?_)
          · have h := ip hc h
            refine x_iinc C [(4, .int (l4 + 1)), (5, .int v22), (0, .ref (adr g 18)), (1, .int l1), (2, .int l2), (3, .int l3)] dX5_followFrom_95 5 rfl rfl (by decide) rfl 98 rfl ?_
            refine x_goto C dX5_followFrom_98 3 (by decide) ?_
            cases h
            exact x_sub [2, 3, 4, 5, 0] rfl (hI0 ((l4 + 1), σ63) ht)
          · have h := iq hc h
            refine x_aload_n C dX5_followFrom_71 rfl 1 rfl 72 rfl ?_
            refine gf_113_18 C dX5_followFrom_72 75 rfl ?_
            refine x_iload_n C dX5_followFrom_75 rfl 3 rfl 76 rfl ?_
            refine x_iload C dX5_followFrom_76 0 rfl 78 rfl ?_
            refine x_ior C dX5_followFrom_78 79 rfl ?_
            refine x_dup2 C dX5_followFrom_79 rfl rfl 80 rfl ?_
            obtain ⟨hin, h⟩ := gi_some h
            refine x_iald C 20 (gt_20 g _) hin dX5_followFrom_80 81 rfl ?_
            refine x_iconst C (v := 1) dX5_followFrom_81 (by decide) 82 rfl ?_
            refine x_aload_n C dX5_followFrom_82 rfl 1 rfl 83 rfl ?_
            refine gf_111_18 C dX5_followFrom_83 86 rfl ?_
            refine gf_61_3 C dX5_followFrom_86 89 rfl ?_
            refine x_iload C dX5_followFrom_89 5 rfl 91 rfl ?_
            obtain ⟨hin, h⟩ := gi_some h
            refine x_iald C 4 (gt_4 g _) hin dX5_followFrom_91 92 rfl ?_
            refine x_ishl C dX5_followFrom_92 93 rfl ?_
            refine x_ior C dX5_followFrom_93 94 rfl ?_
            obtain ⟨hin, h⟩ := gi_some h
            refine x_iast C 20 (gt_20 g _) (st_20 g _) hin dX5_followFrom_94 95 rfl ?_
            obtain ⟨σ94, e94, h⟩ := lt_some h
            refine x_we e94 ?_
            refine x_iinc C [(4, .int (l4 + 1)), (5, .int v22), (0, .ref (adr g 18)), (1, .int l1), (2, .int l2), (3, .int l3)] dX5_followFrom_95 5 rfl rfl (by decide) rfl 98 rfl ?_
            refine x_goto C dX5_followFrom_98 3 (by decide) ?_
            cases h
            exact x_sub [2, 3, 4, 5, 0] rfl (hI0 ((l4 + 1), σ94) ht)
        · have h := iq hc h
          refine x_goto C dX5_followFrom_50 95 (by decide) ?_
          refine x_iinc C [(4, .int (l4 + 1)), (5, .int v22), (0, .ref (adr g 18)), (1, .int l1), (2, .int l2), (3, .int l3)] dX5_followFrom_95 5 rfl rfl (by decide) rfl 98 rfl ?_
          refine x_goto C dX5_followFrom_98 3 (by decide) ?_
          cases h
          exact x_sub [2, 3, 4, 5, 0] rfl (hI0 ((l4 + 1), σ) ht)
set_option maxHeartbeats 4000000 in
set_option maxRecDepth 100000 in
theorem w_X5_followFrom_3 {x : Cx} {g : Gb} {E : WD → Prop} (C : CF x g RX5 cX5_followFrom 6 (rmk 2 24))  {l1 : Int32} {l2 : Int32} {l3 : Int32} {l4 : Int32} {σ : WD} (hE : ∀ (s2 : WD), E s2 → ∀ pc lv, decode cX5_followFrom pc = .ok (.return_, 1) → WW x g 6 0 0 pc lv [] s2) {t : WD} (h : f_X5_followFrom_3 l1 l2 l3 l4 σ = some t) (ht : E t) : WW x g 6 0 0 3 [(0, .ref (adr g 18)), (1, .int l1), (2, .int l2), (3, .int l3), (4, .int l4)] [] σ := by
  unfold f_X5_followFrom_3 at h
  exact lp_ind (fun s : Int32 × WD => WW x g 6 0 0 3 [(0, .ref (adr g 18)), (1, .int l1), (2, .int l2), (3, .int l3), (4, .int s.1)] [] s.2) E h ht (fun s y hb hy => w_X5_followFrom_b3 (E := Sum.elim (fun s : Int32 × WD => WW x g 6 0 0 3 [(0, .ref (adr g 18)), (1, .int l1), (2, .int l2), (3, .int l3), (4, .int s.1)] [] s.2) E) C  (fun _ h => h)  hE hb hy)
set_option maxHeartbeats 4000000 in
set_option maxRecDepth 100000 in
theorem w_X5_followFrom {x : Cx} {g : Gb} {E : WD → Prop} (C : CF x g RX5 cX5_followFrom 6 (rmk 2 24))  {a1 : Int32} {a2 : Int32} {a3 : Int32} {σ : WD} (hE : ∀ (s2 : WD), E s2 → ∀ pc lv, decode cX5_followFrom pc = .ok (.return_, 1) → WW x g 6 0 0 pc lv [] s2) {t : WD} (h : f_X5_followFrom a1 a2 a3 σ = some t) (ht : E t) : WW x g 6 0 0 0 [(0, .ref (adr g 18)), (1, .int a1), (2, .int a2), (3, .int a3)] [] σ := by
  unfold f_X5_followFrom at h
  refine x_iconst C (v := 0) dX5_followFrom_0 (by decide) 1 rfl ?_
  refine x_istore C [(4, .int 0), (0, .ref (adr g 18)), (1, .int a1), (2, .int a2), (3, .int a3)] dX5_followFrom_1 (by decide) rfl 3 rfl ?_
  exact x_sub [1, 2, 3, 4, 0] rfl (w_X5_followFrom_3 C  hE h ht)
set_option maxHeartbeats 4000000 in
set_option maxRecDepth 100000 in
theorem c_X5_followFrom {g : Gb} {l : Launch}  {a1 : Int32} {a2 : Int32} {a3 : Int32} {σ : WD} {σ2 : WD} (h : f_X5_followFrom a1 a2 a3 σ = some σ2) : MC l g yX5_followFrom (.code yX5_followFrom cX5_followFrom 6 none) (rmk 2 24) [.ref (adr g 18), .int a1, .int a2, .int a3] σ none σ2 := by
  refine MC.of (by decide) (Nat.le_of_ble_eq_true rfl) (fun x C hl hr hq => ?_)
  subst hl
  exact w_X5_followFrom (E := fun z => z = σ2) C  (fun a he pc lv hd => by cases he; exact x_vret C hr hq hd) h rfl
set_option maxHeartbeats 4000000 in
set_option maxRecDepth 100000 in
theorem w_X5_findEnds_b59 {x : Cx} {g : Gb} {E : (Int32 × WD) ⊕ ((Int32 × WD) ⊕ (WD)) → Prop} (C : CF x g RX5 cX5_findEnds 4 (rmk 3 50))  {l1 : Int32} {l2 : Int32} {l3 : Int32} {σ : WD} (hI0 : ∀ s, E (.inl s) → WW x g 4 0 0 59 [(0, .ref (adr g 18)), (1, .int l1), (2, .int l2), (3, .int s.1)] [] s.2) (hI1 : ∀ s, E (.inr (.inl s)) → WW x g 4 0 0 33 [(0, .ref (adr g 18)), (1, .int l1), (2, .int s.1)] [] s.2) (hE : ∀ (s2 : WD), E (.inr (.inr s2)) → ∀ pc lv, decode cX5_findEnds pc = .ok (.return_, 1) → WW x g 4 0 0 pc lv [] s2) {t : (Int32 × WD) ⊕ ((Int32 × WD) ⊕ (WD))} (h : f_X5_findEnds_b59 l1 l2 l3 σ = some t) (ht : E t) : WW x g 4 0 0 59 [(0, .ref (adr g 18)), (1, .int l1), (2, .int l2), (3, .int l3)] [] σ := by
  unfold f_X5_findEnds_b59 at h
  refine x_iload_n C dX5_findEnds_59 rfl 3 rfl 60 rfl ?_
  refine x_aload_n C dX5_findEnds_60 rfl 0 rfl 61 rfl ?_
  refine gf_110_18 C dX5_findEnds_61 64 rfl ?_
  refine gf_34_1 C dX5_findEnds_64 67 rfl ?_
  refine x_icmp_ge C dX5_findEnds_67 96 (by decide) 70 rfl (fun hc => ?_) (fun hc => ?_)
  · have h := ip hc h
    refine x_iinc C [(2, .int (l2 + 1)), (0, .ref (adr g 18)), (1, .int l1), (3, .int l3)] dX5_findEnds_96 2 rfl rfl (by decide) rfl 99 rfl ?_
    refine x_goto C dX5_findEnds_99 33 (by decide) ?_
    cases h
    exact x_sub [1, 2, 0] rfl (hI1 ((l2 + 1), σ) ht)
  · have h := iq hc h
    refine x_aload_n C dX5_findEnds_70 rfl 0 rfl 71 rfl ?_
    refine gf_113_18 C dX5_findEnds_71 74 rfl ?_
    refine x_iload_n C dX5_findEnds_74 rfl 2 rfl 75 rfl ?_
    obtain ⟨hin, h⟩ := gi_some h
    refine x_iald C 20 (gt_20 g _) hin dX5_findEnds_75 76 rfl ?_
    refine x_iload_n C dX5_findEnds_76 rfl 3 rfl 77 rfl ?_
    refine x_ishr C dX5_findEnds_77 78 rfl ?_
    refine x_iconst C (v := 1) dX5_findEnds_78 (by decide) 79 rfl ?_
    refine x_iand C dX5_findEnds_79 80 rfl ?_
    refine x_if_eq C dX5_findEnds_80 90 (by decide) 83 rfl (fun hc => ?_) (fun hc => ?_)
    · have h := ip hc h
      refine x_iinc C [(3, .int (l3 + 1)), (0, .ref (adr g 18)), (1, .int l1), (2, .int l2)] dX5_findEnds_90 3 rfl rfl (by decide) rfl 93 rfl ?_
      refine x_goto C dX5_findEnds_93 59 (by decide) ?_
      cases h
      exact x_sub [1, 2, 3, 0] rfl (hI0 ((l3 + 1), σ) ht)
    · have h := iq hc h
      refine x_aload_n C dX5_findEnds_83 rfl 0 rfl 84 rfl ?_
      refine x_iload_n C dX5_findEnds_84 rfl 3 rfl 85 rfl ?_
      refine x_iload_n C dX5_findEnds_85 rfl 2 rfl 86 rfl ?_
      refine x_iload_n C dX5_findEnds_86 rfl 1 rfl 87 rfl ?_
      obtain ⟨σ87, h87, h⟩ := bv_some h
      refine x_callV C 18 [.int l3, .int l2, .int l1] (c_X5_followFrom  h87) mi_X5_followFrom (gt_18 g _) rfl q_517 rfl ⟨rfl, rfl⟩ ⟨Nat.le_of_ble_eq_true rfl, Nat.le_of_ble_eq_true rfl⟩ ⟨Nat.zero_le _, Nat.zero_le _⟩ _ rfl (Nat.le_of_ble_eq_true rfl) dX5_findEnds_87 90 rfl ?_
      refine x_iinc C [(3, .int (l3 + 1)), (0, .ref (adr g 18)), (1, .int l1), (2, .int l2)] dX5_findEnds_90 3 rfl rfl (by decide) rfl 93 rfl ?_
      refine x_goto C dX5_findEnds_93 59 (by decide) ?_
      cases h
      exact x_sub [1, 2, 3, 0] rfl (hI0 ((l3 + 1), σ87) ht)
set_option maxHeartbeats 4000000 in
set_option maxRecDepth 100000 in
theorem w_X5_findEnds_59 {x : Cx} {g : Gb} {E : (Int32 × WD) ⊕ (WD) → Prop} (C : CF x g RX5 cX5_findEnds 4 (rmk 3 50))  {l1 : Int32} {l2 : Int32} {l3 : Int32} {σ : WD} (hI0 : ∀ s, E (.inl s) → WW x g 4 0 0 33 [(0, .ref (adr g 18)), (1, .int l1), (2, .int s.1)] [] s.2) (hE : ∀ (s2 : WD), E (.inr s2) → ∀ pc lv, decode cX5_findEnds pc = .ok (.return_, 1) → WW x g 4 0 0 pc lv [] s2) {t : (Int32 × WD) ⊕ (WD)} (h : f_X5_findEnds_59 l1 l2 l3 σ = some t) (ht : E t) : WW x g 4 0 0 59 [(0, .ref (adr g 18)), (1, .int l1), (2, .int l2), (3, .int l3)] [] σ := by
  unfold f_X5_findEnds_59 at h
  exact lp_ind (fun s : Int32 × WD => WW x g 4 0 0 59 [(0, .ref (adr g 18)), (1, .int l1), (2, .int l2), (3, .int s.1)] [] s.2) E h ht (fun s y hb hy => w_X5_findEnds_b59 (E := Sum.elim (fun s : Int32 × WD => WW x g 4 0 0 59 [(0, .ref (adr g 18)), (1, .int l1), (2, .int l2), (3, .int s.1)] [] s.2) E) C  (fun _ h => h) hI0 hE hb hy)
set_option maxHeartbeats 4000000 in
set_option maxRecDepth 100000 in
theorem w_X5_findEnds_b33 {x : Cx} {g : Gb} {E : (Int32 × WD) ⊕ (WD) → Prop} (C : CF x g RX5 cX5_findEnds 4 (rmk 3 50))  {l1 : Int32} {l2 : Int32} {σ : WD} (hI0 : ∀ s, E (.inl s) → WW x g 4 0 0 33 [(0, .ref (adr g 18)), (1, .int l1), (2, .int s.1)] [] s.2) (hE : ∀ (s2 : WD), E (.inr s2) → ∀ pc lv, decode cX5_findEnds pc = .ok (.return_, 1) → WW x g 4 0 0 pc lv [] s2) {t : (Int32 × WD) ⊕ (WD)} (h : f_X5_findEnds_b33 l1 l2 σ = some t) (ht : E t) : WW x g 4 0 0 33 [(0, .ref (adr g 18)), (1, .int l1), (2, .int l2)] [] σ := by
  unfold f_X5_findEnds_b33 at h
  refine x_iload_n C dX5_findEnds_33 rfl 2 rfl 34 rfl ?_
  refine x_aload_n C dX5_findEnds_34 rfl 0 rfl 35 rfl ?_
  refine gf_113_18 C dX5_findEnds_35 38 rfl ?_
  refine x_alen C 20 (gt_20 g _) rfl dX5_findEnds_38 39 rfl ?_
  refine x_icmp_ge C dX5_findEnds_39 102 (by decide) 42 rfl (fun hc => ?_) (fun hc => ?_)
  · have h := ip hc h
    cases h
    exact hE _ ht 102 _ dX5_findEnds_102
  · have h := iq hc h
    refine x_aload_n C dX5_findEnds_42 rfl 0 rfl 43 rfl ?_
    refine x_dup C dX5_findEnds_43 rfl 44 rfl ?_
    refine gf_116_18 C dX5_findEnds_44 47 rfl ?_
    refine x_aload_n C dX5_findEnds_47 rfl 0 rfl 48 rfl ?_
    refine gf_113_18 C dX5_findEnds_48 51 rfl ?_
    refine x_iload_n C dX5_findEnds_51 rfl 2 rfl 52 rfl ?_
    obtain ⟨hin, h⟩ := gi_some h
    refine x_iald C 20 (gt_20 g _) hin dX5_findEnds_52 53 rfl ?_
    refine x_ior C dX5_findEnds_53 54 rfl ?_
    refine pf_116_18 C dX5_findEnds_54 57 rfl ?_
    obtain ⟨σ54, e54, h⟩ := lt_some h
    refine x_we e54 ?_
    refine x_iconst C (v := 0) dX5_findEnds_57 (by decide) 58 rfl ?_
    refine x_istore_n C [(3, .int 0), (0, .ref (adr g 18)), (1, .int l1), (2, .int l2)] dX5_findEnds_58 rfl (by decide) rfl 59 rfl ?_
    exact x_sub [1, 2, 3, 0] rfl (w_X5_findEnds_59 C  hI0 hE h ht)
set_option maxHeartbeats 4000000 in
set_option maxRecDepth 100000 in
theorem w_X5_findEnds_33 {x : Cx} {g : Gb} {E : WD → Prop} (C : CF x g RX5 cX5_findEnds 4 (rmk 3 50))  {l1 : Int32} {l2 : Int32} {σ : WD} (hE : ∀ (s2 : WD), E s2 → ∀ pc lv, decode cX5_findEnds pc = .ok (.return_, 1) → WW x g 4 0 0 pc lv [] s2) {t : WD} (h : f_X5_findEnds_33 l1 l2 σ = some t) (ht : E t) : WW x g 4 0 0 33 [(0, .ref (adr g 18)), (1, .int l1), (2, .int l2)] [] σ := by
  unfold f_X5_findEnds_33 at h
  exact lp_ind (fun s : Int32 × WD => WW x g 4 0 0 33 [(0, .ref (adr g 18)), (1, .int l1), (2, .int s.1)] [] s.2) E h ht (fun s y hb hy => w_X5_findEnds_b33 (E := Sum.elim (fun s : Int32 × WD => WW x g 4 0 0 33 [(0, .ref (adr g 18)), (1, .int l1), (2, .int s.1)] [] s.2) E) C  (fun _ h => h)  hE hb hy)
set_option maxHeartbeats 4000000 in
set_option maxRecDepth 100000 in
theorem w_X5_findEnds {x : Cx} {g : Gb} {E : WD → Prop} (C : CF x g RX5 cX5_findEnds 4 (rmk 3 50))  {a1 : Int32} {σ : WD} (hE : ∀ (s2 : WD), E s2 → ∀ pc lv, decode cX5_findEnds pc = .ok (.return_, 1) → WW x g 4 0 0 pc lv [] s2) {t : WD} (h : f_X5_findEnds a1 σ = some t) (ht : E t) : WW x g 4 0 0 0 [(0, .ref (adr g 18)), (1, .int a1)] [] σ := by
  unfold f_X5_findEnds at h
  refine x_aload_n C dX5_findEnds_0 rfl 0 rfl 1 rfl ?_
  obtain ⟨σ1, h1, h⟩ := bv_some h
  refine x_callV C 18 [] (c_X5_numberPairs  h1) mi_X5_numberPairs (gt_18 g _) rfl q_234 rfl ⟨rfl, rfl⟩ ⟨Nat.le_of_ble_eq_true rfl, Nat.le_of_ble_eq_true rfl⟩ ⟨Nat.zero_le _, Nat.zero_le _⟩ _ rfl (Nat.le_of_ble_eq_true rfl) dX5_findEnds_1 4 rfl ?_
  refine x_aload_n C dX5_findEnds_4 rfl 0 rfl 5 rfl ?_
  refine gf_113_18 C dX5_findEnds_5 8 rfl ?_
  refine x_iconst C (v := 0) dX5_findEnds_8 (by decide) 9 rfl ?_
  refine x_callS C [.ref (adr g 20), .int 0] (c_fill 20 64 (by decide) (fun σ => (gt_20 g σ)) (fun σ => (st_20 g σ)) 0) mi_J7_fill_53178 q_242 rfl ⟨rfl, rfl⟩ (by decide) (by decide) _ rfl (Nat.le_of_ble_eq_true rfl) dX5_findEnds_9 12 rfl ?_
  obtain ⟨σ9, e9, h⟩ := lt_some h
  refine x_we e9 ?_
  refine x_aload_n C dX5_findEnds_12 rfl 0 rfl 13 rfl ?_
  refine gf_113_18 C dX5_findEnds_13 16 rfl ?_
  refine x_iconst C (v := 0) dX5_findEnds_16 (by decide) 17 rfl ?_
  refine x_iconst C (v := 1) dX5_findEnds_17 (by decide) 18 rfl ?_
  refine x_iload_n C dX5_findEnds_18 rfl 1 rfl 19 rfl ?_
  refine x_ishl C dX5_findEnds_19 20 rfl ?_
  obtain ⟨hin, h⟩ := gi_some h
  refine x_iast C 20 (gt_20 g _) (st_20 g _) hin dX5_findEnds_20 21 rfl ?_
  obtain ⟨σ20, e20, h⟩ := lt_some h
  refine x_we e20 ?_
  refine x_aload_n C dX5_findEnds_21 rfl 0 rfl 22 rfl ?_
  refine x_iconst C (v := 0) dX5_findEnds_22 (by decide) 23 rfl ?_
  refine pf_116_18 C dX5_findEnds_23 26 rfl ?_
  obtain ⟨σ23, e23, h⟩ := lt_some h
  refine x_we e23 ?_
  refine x_aload_n C dX5_findEnds_26 rfl 0 rfl 27 rfl ?_
  refine x_iconst C (v := 0) dX5_findEnds_27 (by decide) 28 rfl ?_
  refine pf_118_18 C dX5_findEnds_28 31 rfl ?_
  obtain ⟨σ28, e28, h⟩ := lt_some h
  refine x_we e28 ?_
  refine x_iconst C (v := 0) dX5_findEnds_31 (by decide) 32 rfl ?_
  refine x_istore_n C [(2, .int 0), (0, .ref (adr g 18)), (1, .int a1)] dX5_findEnds_32 rfl (by decide) rfl 33 rfl ?_
  exact x_sub [1, 2, 0] rfl (w_X5_findEnds_33 C  hE h ht)
set_option maxHeartbeats 4000000 in
set_option maxRecDepth 100000 in
theorem c_X5_findEnds {g : Gb} {l : Launch}  {a1 : Int32} {σ : WD} {σ2 : WD} (h : f_X5_findEnds a1 σ = some σ2) : MC l g yX5_findEnds (.code yX5_findEnds cX5_findEnds 4 none) (rmk 3 50) [.ref (adr g 18), .int a1] σ none σ2 := by
  refine MC.of (by decide) (Nat.le_of_ble_eq_true rfl) (fun x C hl hr hq => ?_)
  subst hl
  exact w_X5_findEnds (E := fun z => z = σ2) C  (fun a he pc lv hd => by cases he; exact x_vret C hr hq hd) h rfl
set_option maxHeartbeats 4000000 in
set_option maxRecDepth 100000 in
theorem w_X4_exposable_b16 {x : Cx} {g : Gb} {E : (Int32 × Int32) ⊕ (Int32 × WD) → Prop} (C : CF x g RX4 cX4_exposable 4 (rmk 19 549))  {l1 : Int32} {l2 : Int32} {l3 : Int32} {σ : WD} (hI0 : ∀ s, E (.inl s) → WW x g 4 0 0 16 [(0, .ref (adr g 22)), (1, .int l1), (2, .int s.1), (3, .int s.2)] [] σ) (hE : ∀ (a : Int32) (s2 : WD), E (.inr (a, s2)) → ∀ pc lv, decode cX4_exposable pc = .ok (.ireturn, 1) → WW x g 4 0 0 pc lv [.int a] s2) {t : (Int32 × Int32) ⊕ (Int32 × WD)} (h : f_X4_exposable_b16 l1 l2 l3 σ = some t) (ht : E t) : WW x g 4 0 0 16 [(0, .ref (adr g 22)), (1, .int l1), (2, .int l2), (3, .int l3)] [] σ := by
  unfold f_X4_exposable_b16 at h
  refine x_iload_n C dX4_exposable_16 rfl 3 rfl 17 rfl ?_
  refine x_aload_n C dX4_exposable_17 rfl 0 rfl 18 rfl ?_
  refine gf_143_22 C dX4_exposable_18 21 rfl ?_
  refine gf_36_1 C dX4_exposable_21 24 rfl ?_
  refine x_icmp_ge C dX4_exposable_24 60 (by decide) 27 rfl (fun hc => ?_) (fun hc => ?_)
  · have h := ip hc h
    refine x_iload_n C dX4_exposable_60 rfl 2 rfl 61 rfl ?_
    cases h
    exact hE _ _ ht 61 _ dX4_exposable_61
  · have h := iq hc h
    refine x_aload_n C dX4_exposable_27 rfl 0 rfl 28 rfl ?_
    refine gf_144_22 C dX4_exposable_28 31 rfl ?_
    refine x_iload_n C dX4_exposable_31 rfl 1 rfl 32 rfl ?_
    refine x_iconst C (v := 1) dX4_exposable_32 (by decide) 33 rfl ?_
    refine x_iload_n C dX4_exposable_33 rfl 3 rfl 34 rfl ?_
    refine x_ishl C dX4_exposable_34 35 rfl ?_
    refine x_iconst C (v := -1) dX4_exposable_35 (by decide) 36 rfl ?_
    refine x_ixor C dX4_exposable_36 37 rfl ?_
    refine x_iand C dX4_exposable_37 38 rfl ?_
    obtain ⟨hin, h⟩ := gi_some h
    refine x_iald C 23 (gt_23 g _) hin dX4_exposable_38 39 rfl ?_
    refine x_aload_n C dX4_exposable_39 rfl 0 rfl 40 rfl ?_
    refine gf_144_22 C dX4_exposable_40 43 rfl ?_
    refine x_iload_n C dX4_exposable_43 rfl 1 rfl 44 rfl ?_
    obtain ⟨hin, h⟩ := gi_some h
    refine x_iald C 23 (gt_23 g _) hin dX4_exposable_44 45 rfl ?_
    refine x_icmp_ne C dX4_exposable_45 54 (by decide) 48 rfl (fun hc => ?_) (fun hc => ?_)
    · have h := iq hc h
      refine x_iinc C [(3, .int (l3 + 1)), (0, .ref (adr g 22)), (1, .int l1), (2, .int l2)] dX4_exposable_54 3 rfl rfl (by decide) rfl 57 rfl ?_
      refine x_goto C dX4_exposable_57 16 (by decide) ?_
      cases h
      exact x_sub [1, 2, 3, 0] rfl (hI0 (l2, (l3 + 1)) ht)
    · have h := ip hc h
      refine x_iload_n C dX4_exposable_48 rfl 2 rfl 49 rfl ?_
      refine x_iconst C (v := 1) dX4_exposable_49 (by decide) 50 rfl ?_
      refine x_iload_n C dX4_exposable_50 rfl 3 rfl 51 rfl ?_
      refine x_ishl C dX4_exposable_51 52 rfl ?_
      refine x_ior C dX4_exposable_52 53 rfl ?_
      obtain ⟨v53, e53, h⟩ := li_some h
      refine x_te e53 ?_
      refine x_istore_n C [(2, .int v53), (0, .ref (adr g 22)), (1, .int l1), (3, .int l3)] dX4_exposable_53 rfl (by decide) rfl 54 rfl ?_
      refine x_iinc C [(3, .int (l3 + 1)), (2, .int v53), (0, .ref (adr g 22)), (1, .int l1)] dX4_exposable_54 3 rfl rfl (by decide) rfl 57 rfl ?_
      refine x_goto C dX4_exposable_57 16 (by decide) ?_
      cases h
      exact x_sub [2, 3, 1, 0] rfl (hI0 (v53, (l3 + 1)) ht)
set_option maxHeartbeats 4000000 in
set_option maxRecDepth 100000 in
theorem w_X4_exposable_16 {x : Cx} {g : Gb} {E : Int32 × WD → Prop} (C : CF x g RX4 cX4_exposable 4 (rmk 19 549))  {l1 : Int32} {l2 : Int32} {l3 : Int32} {σ : WD} (hE : ∀ (a : Int32) (s2 : WD), E (a, s2) → ∀ pc lv, decode cX4_exposable pc = .ok (.ireturn, 1) → WW x g 4 0 0 pc lv [.int a] s2) {t : Int32 × WD} (h : f_X4_exposable_16 l1 l2 l3 σ = some t) (ht : E t) : WW x g 4 0 0 16 [(0, .ref (adr g 22)), (1, .int l1), (2, .int l2), (3, .int l3)] [] σ := by
  unfold f_X4_exposable_16 at h
  exact lp_ind (fun s : Int32 × Int32 => WW x g 4 0 0 16 [(0, .ref (adr g 22)), (1, .int l1), (2, .int s.1), (3, .int s.2)] [] σ) E h ht (fun s y hb hy => w_X4_exposable_b16 (E := Sum.elim (fun s : Int32 × Int32 => WW x g 4 0 0 16 [(0, .ref (adr g 22)), (1, .int l1), (2, .int s.1), (3, .int s.2)] [] σ) E) C  (fun _ h => h)  hE hb hy)
set_option maxHeartbeats 4000000 in
set_option maxRecDepth 100000 in
theorem w_X4_exposable {x : Cx} {g : Gb} {E : Int32 × WD → Prop} (C : CF x g RX4 cX4_exposable 4 (rmk 19 549))   {σ : WD} (hE : ∀ (a : Int32) (s2 : WD), E (a, s2) → ∀ pc lv, decode cX4_exposable pc = .ok (.ireturn, 1) → WW x g 4 0 0 pc lv [.int a] s2) {t : Int32 × WD} (h : f_X4_exposable  σ = some t) (ht : E t) : WW x g 4 0 0 0 [(0, .ref (adr g 22))] [] σ := by
  unfold f_X4_exposable at h
  refine x_aload_n C dX4_exposable_0 rfl 0 rfl 1 rfl ?_
  obtain ⟨σ1, h1, h⟩ := bv_some h
  refine x_callV C 22 [] (c_X4_learn  h1) mi_X4_learn (gt_22 g _) rfl q_271 rfl ⟨rfl, rfl⟩ ⟨Nat.le_of_ble_eq_true rfl, Nat.le_of_ble_eq_true rfl⟩ ⟨Nat.zero_le _, Nat.zero_le _⟩ _ rfl (Nat.le_of_ble_eq_true rfl) dX4_exposable_1 4 rfl ?_
  refine x_aload_n C dX4_exposable_4 rfl 0 rfl 5 rfl ?_
  refine gf_143_22 C dX4_exposable_5 8 rfl ?_
  obtain ⟨r8, h8, h⟩ := bv_some h
  refine x_callV C 1 [] (c_X0_all  h8) mi_X0_all (gt_1 g _) rfl q_276 rfl ⟨rfl, rfl⟩ ⟨Nat.le_of_ble_eq_true rfl, Nat.le_of_ble_eq_true rfl⟩ ⟨Nat.zero_le _, Nat.zero_le _⟩ _ rfl (Nat.le_of_ble_eq_true rfl) dX4_exposable_8 11 rfl ?_
  refine x_istore_n C [(1, .int r8), (0, .ref (adr g 22))] dX4_exposable_11 rfl (by decide) rfl 12 rfl ?_
  refine x_iconst C (v := 0) dX4_exposable_12 (by decide) 13 rfl ?_
  refine x_istore_n C [(2, .int 0), (1, .int r8), (0, .ref (adr g 22))] dX4_exposable_13 rfl (by decide) rfl 14 rfl ?_
  refine x_iconst C (v := 0) dX4_exposable_14 (by decide) 15 rfl ?_
  refine x_istore_n C [(3, .int 0), (2, .int 0), (1, .int r8), (0, .ref (adr g 22))] dX4_exposable_15 rfl (by decide) rfl 16 rfl ?_
  exact x_sub [3, 2, 1, 0] rfl (w_X4_exposable_16 C  hE h ht)
set_option maxHeartbeats 4000000 in
set_option maxRecDepth 100000 in
theorem c_X4_exposable {g : Gb} {l : Launch}   {σ : WD} {r : Int32} {σ2 : WD} (h : f_X4_exposable  σ = some (r, σ2)) : MC l g yX4_exposable (.code yX4_exposable cX4_exposable 4 (some (.int))) (rmk 19 549) [.ref (adr g 22)] σ (some (.int r)) σ2 := by
  refine MC.of (by decide) (Nat.le_of_ble_eq_true rfl) (fun x C hl hr hq => ?_)
  subst hl
  exact w_X4_exposable (E := fun z => z = (r, σ2)) C  (fun a s2 he pc lv hd => by cases he; exact x_iret C hr hq hd) h rfl
set_option maxHeartbeats 4000000 in
set_option maxRecDepth 100000 in
theorem w_X4_number {x : Cx} {g : Gb} {E : Int32 × WD → Prop} (C : CF x g RX4 cX4_number 1 (rmk 19 549))   {σ : WD} (hE : ∀ (a : Int32) (s2 : WD), E (a, s2) → ∀ pc lv, decode cX4_number pc = .ok (.ireturn, 1) → WW x g 1 0 0 pc lv [.int a] s2) {t : Int32 × WD} (h : f_X4_number  σ = some t) (ht : E t) : WW x g 1 0 0 0 [(0, .ref (adr g 22))] [] σ := by
  unfold f_X4_number at h
  refine x_aload_n C dX4_number_0 rfl 0 rfl 1 rfl ?_
  obtain ⟨σ1, h1, h⟩ := bv_some h
  refine x_callV C 22 [] (c_X4_learn  h1) mi_X4_learn (gt_22 g _) rfl q_271 rfl ⟨rfl, rfl⟩ ⟨Nat.le_of_ble_eq_true rfl, Nat.le_of_ble_eq_true rfl⟩ ⟨Nat.zero_le _, Nat.zero_le _⟩ _ rfl (Nat.le_of_ble_eq_true rfl) dX4_number_1 4 rfl ?_
  refine x_aload_n C dX4_number_4 rfl 0 rfl 5 rfl ?_
  refine gf_144_22 C dX4_number_5 8 rfl ?_
  refine x_aload_n C dX4_number_8 rfl 0 rfl 9 rfl ?_
  refine gf_143_22 C dX4_number_9 12 rfl ?_
  obtain ⟨r12, h12, h⟩ := bv_some h
  refine x_callV C 1 [] (c_X0_all  h12) mi_X0_all (gt_1 g _) rfl q_276 rfl ⟨rfl, rfl⟩ ⟨Nat.le_of_ble_eq_true rfl, Nat.le_of_ble_eq_true rfl⟩ ⟨Nat.zero_le _, Nat.zero_le _⟩ _ rfl (Nat.le_of_ble_eq_true rfl) dX4_number_12 15 rfl ?_
  obtain ⟨hin, h⟩ := gi_some h
  refine x_iald C 23 (gt_23 g _) hin dX4_number_15 16 rfl ?_
  cases h
  exact hE _ _ ht 16 _ dX4_number_16
set_option maxHeartbeats 4000000 in
set_option maxRecDepth 100000 in
theorem c_X4_number {g : Gb} {l : Launch}   {σ : WD} {r : Int32} {σ2 : WD} (h : f_X4_number  σ = some (r, σ2)) : MC l g yX4_number (.code yX4_number cX4_number 1 (some (.int))) (rmk 19 549) [.ref (adr g 22)] σ (some (.int r)) σ2 := by
  refine MC.of (by decide) (Nat.le_of_ble_eq_true rfl) (fun x C hl hr hq => ?_)
  subst hl
  exact w_X4_number (E := fun z => z = (r, σ2)) C  (fun a s2 he pc lv hd => by cases he; exact x_iret C hr hq hd) h rfl
set_option maxHeartbeats 4000000 in
set_option maxRecDepth 100000 in
theorem w_X4_numberWithout {x : Cx} {g : Gb} {E : Int32 × WD → Prop} (C : CF x g RX4 cX4_numberWithout 4 (rmk 19 549))  {a1 : Int32} {a2 : Int32} {σ : WD} (hE : ∀ (a : Int32) (s2 : WD), E (a, s2) → ∀ pc lv, decode cX4_numberWithout pc = .ok (.ireturn, 1) → WW x g 4 0 0 pc lv [.int a] s2) {t : Int32 × WD} (h : f_X4_numberWithout a1 a2 σ = some t) (ht : E t) : WW x g 4 0 0 0 [(0, .ref (adr g 22)), (1, .int a1), (2, .int a2)] [] σ := by
  unfold f_X4_numberWithout at h
  refine x_aload_n C dX4_numberWithout_0 rfl 0 rfl 1 rfl ?_
  obtain ⟨σ1, h1, h⟩ := bv_some h
  refine x_callV C 22 [] (c_X4_learn  h1) mi_X4_learn (gt_22 g _) rfl q_271 rfl ⟨rfl, rfl⟩ ⟨Nat.le_of_ble_eq_true rfl, Nat.le_of_ble_eq_true rfl⟩ ⟨Nat.zero_le _, Nat.zero_le _⟩ _ rfl (Nat.le_of_ble_eq_true rfl) dX4_numberWithout_1 4 rfl ?_
  refine x_aload_n C dX4_numberWithout_4 rfl 0 rfl 5 rfl ?_
  refine gf_143_22 C dX4_numberWithout_5 8 rfl ?_
  obtain ⟨r8, h8, h⟩ := bv_some h
  refine x_callV C 1 [] (c_X0_all  h8) mi_X0_all (gt_1 g _) rfl q_276 rfl ⟨rfl, rfl⟩ ⟨Nat.le_of_ble_eq_true rfl, Nat.le_of_ble_eq_true rfl⟩ ⟨Nat.zero_le _, Nat.zero_le _⟩ _ rfl (Nat.le_of_ble_eq_true rfl) dX4_numberWithout_8 11 rfl ?_
  refine x_iconst C (v := 1) dX4_numberWithout_11 (by decide) 12 rfl ?_
  refine x_iload_n C dX4_numberWithout_12 rfl 1 rfl 13 rfl ?_
  refine x_ishl C dX4_numberWithout_13 14 rfl ?_
  refine x_iconst C (v := -1) dX4_numberWithout_14 (by decide) 15 rfl ?_
  refine x_ixor C dX4_numberWithout_15 16 rfl ?_
  refine x_iand C dX4_numberWithout_16 17 rfl ?_
  refine x_iconst C (v := 1) dX4_numberWithout_17 (by decide) 18 rfl ?_
  refine x_iload_n C dX4_numberWithout_18 rfl 2 rfl 19 rfl ?_
  refine x_ishl C dX4_numberWithout_19 20 rfl ?_
  refine x_iconst C (v := -1) dX4_numberWithout_20 (by decide) 21 rfl ?_
  refine x_ixor C dX4_numberWithout_21 22 rfl ?_
  refine x_iand C dX4_numberWithout_22 23 rfl ?_
  obtain ⟨v23, e23, h⟩ := li_some h
  refine x_te e23 ?_
  refine x_istore_n C [(3, .int v23), (0, .ref (adr g 22)), (1, .int a1), (2, .int a2)] dX4_numberWithout_23 rfl (by decide) rfl 24 rfl ?_
  refine x_aload_n C dX4_numberWithout_24 rfl 1 rfl 25 rfl ?_
  refine x_iload_n C dX4_numberWithout_25 rfl 0 rfl 26 rfl ?_
  refine x_iconst C (v := 0) dX4_numberWithout_26 (by decide) 27 rfl ?_
  obtain ⟨σ27, h27, h⟩ := bv_some h
  refine x_callV C 22 [.int v23, .int 0] (c_X4_findOut  h27) mi_X4_findOut (gt_22 g _) rfl q_280 rfl ⟨rfl, rfl⟩ ⟨Nat.le_of_ble_eq_true rfl, Nat.le_of_ble_eq_true rfl⟩ ⟨Nat.zero_le _, Nat.zero_le _⟩ _ rfl (Nat.le_of_ble_eq_true rfl) dX4_numberWithout_27 30 rfl ?_
  refine x_aload_n C dX4_numberWithout_30 rfl 1 rfl 31 rfl ?_
  refine gf_144_22 C dX4_numberWithout_31 34 rfl ?_
  refine x_iload_n C dX4_numberWithout_34 rfl 0 rfl 35 rfl ?_
  obtain ⟨hin, h⟩ := gi_some h
  refine x_iald C 23 (gt_23 g _) hin dX4_numberWithout_35 36 rfl ?_
  cases h
  exact hE _ _ ht 36 _ dX4_numberWithout_36
set_option maxHeartbeats 4000000 in
set_option maxRecDepth 100000 in
theorem c_X4_numberWithout {g : Gb} {l : Launch}  {a1 : Int32} {a2 : Int32} {σ : WD} {r : Int32} {σ2 : WD} (h : f_X4_numberWithout a1 a2 σ = some (r, σ2)) : MC l g yX4_numberWithout (.code yX4_numberWithout cX4_numberWithout 4 (some (.int))) (rmk 19 549) [.ref (adr g 22), .int a1, .int a2] σ (some (.int r)) σ2 := by
  refine MC.of (by decide) (Nat.le_of_ble_eq_true rfl) (fun x C hl hr hq => ?_)
  subst hl
  exact w_X4_numberWithout (E := fun z => z = (r, σ2)) C  (fun a s2 he pc lv hd => by cases he; exact x_iret C hr hq hd) h rfl
set_option maxHeartbeats 4000000 in
set_option maxRecDepth 100000 in
theorem w_X4_having {x : Cx} {g : Gb} {E : Int32 × WD → Prop} (C : CF x g RX4 cX4_having 5 (rmk 19 549))  {a1 : Int32} {a2 : Int32} {σ : WD} (hE : ∀ (a : Int32) (s2 : WD), E (a, s2) → ∀ pc lv, decode cX4_having pc = .ok (.ireturn, 1) → WW x g 5 0 0 pc lv [.int a] s2) {t : Int32 × WD} (h : f_X4_having a1 a2 σ = some t) (ht : E t) : WW x g 5 0 0 0 [(0, .ref (adr g 22)), (1, .int a1), (2, .int a2)] [] σ := by
  unfold f_X4_having at h
  refine x_aload_n C dX4_having_0 rfl 0 rfl 1 rfl ?_
  refine gf_143_22 C dX4_having_1 4 rfl ?_
  refine x_iload_n C dX4_having_4 rfl 1 rfl 5 rfl ?_
  refine x_iload_n C dX4_having_5 rfl 2 rfl 6 rfl ?_
  obtain ⟨r6, h6, h⟩ := bv_some h
  refine x_callV C 1 [.int a1, .int a2] (c_X0_joined  h6) mi_X0_joined (gt_1 g _) rfl q_374 rfl ⟨rfl, rfl⟩ ⟨Nat.le_of_ble_eq_true rfl, Nat.le_of_ble_eq_true rfl⟩ ⟨Nat.zero_le _, Nat.zero_le _⟩ _ rfl (Nat.le_of_ble_eq_true rfl) dX4_having_6 9 rfl ?_
  refine x_if_ne C dX4_having_9 14 (by decide) 12 rfl (fun hc => ?_) (fun hc => ?_)
  · have h := iq hc h
    refine x_aload_n C dX4_having_14 rfl 0 rfl 15 rfl ?_
    obtain ⟨σ15, h15, h⟩ := bv_some h
    refine x_callV C 22 [] (c_X4_learn  h15) mi_X4_learn (gt_22 g _) rfl q_271 rfl ⟨rfl, rfl⟩ ⟨Nat.le_of_ble_eq_true rfl, Nat.le_of_ble_eq_true rfl⟩ ⟨Nat.zero_le _, Nat.zero_le _⟩ _ rfl (Nat.le_of_ble_eq_true rfl) dX4_having_15 18 rfl ?_
    refine x_aload_n C dX4_having_18 rfl 0 rfl 19 rfl ?_
    refine gf_143_22 C dX4_having_19 22 rfl ?_
    obtain ⟨r22, h22, h⟩ := bv_some h
    refine x_callV C 1 [] (c_X0_all  h22) mi_X0_all (gt_1 g _) rfl q_276 rfl ⟨rfl, rfl⟩ ⟨Nat.le_of_ble_eq_true rfl, Nat.le_of_ble_eq_true rfl⟩ ⟨Nat.zero_le _, Nat.zero_le _⟩ _ rfl (Nat.le_of_ble_eq_true rfl) dX4_having_22 25 rfl ?_
    refine x_istore_n C [(3, .int r22), (0, .ref (adr g 22)), (1, .int a1), (2, .int a2)] dX4_having_25 rfl (by decide) rfl 26 rfl ?_
    refine x_iload_n C dX4_having_26 rfl 0 rfl 27 rfl ?_
    refine x_iconst C (v := 1) dX4_having_27 (by decide) 28 rfl ?_
    refine x_iload_n C dX4_having_28 rfl 2 rfl 29 rfl ?_
    refine x_ishl C dX4_having_29 30 rfl ?_
    refine x_iconst C (v := -1) dX4_having_30 (by decide) 31 rfl ?_
    refine x_ixor C dX4_having_31 32 rfl ?_
    refine x_iand C dX4_having_32 33 rfl ?_
    refine x_iconst C (v := 1) dX4_having_33 (by decide) 34 rfl ?_
    refine x_iload_n C dX4_having_34 rfl 3 rfl 35 rfl ?_
    refine x_ishl C dX4_having_35 36 rfl ?_
    refine x_iconst C (v := -1) dX4_having_36 (by decide) 37 rfl ?_
    refine x_ixor C dX4_having_37 38 rfl ?_
    refine x_iand C dX4_having_38 39 rfl ?_
    obtain ⟨v39, e39, h⟩ := li_some h
    refine x_te e39 ?_
    refine x_istore C [(4, .int v39), (3, .int r22), (0, .ref (adr g 22)), (1, .int a1), (2, .int a2)] dX4_having_39 (by decide) rfl 41 rfl ?_
    refine x_aload_n C dX4_having_41 rfl 2 rfl 42 rfl ?_
    refine x_iload C dX4_having_42 0 rfl 44 rfl ?_
    refine x_iconst C (v := 0) dX4_having_44 (by decide) 45 rfl ?_
    obtain ⟨σ45, h45, h⟩ := bv_some h
    refine x_callV C 22 [.int v39, .int 0] (c_X4_findOut  h45) mi_X4_findOut (gt_22 g _) rfl q_280 rfl ⟨rfl, rfl⟩ ⟨Nat.le_of_ble_eq_true rfl, Nat.le_of_ble_eq_true rfl⟩ ⟨Nat.zero_le _, Nat.zero_le _⟩ _ rfl (Nat.le_of_ble_eq_true rfl) dX4_having_45 48 rfl ?_
    refine x_aload_n C dX4_having_48 rfl 2 rfl 49 rfl ?_
    refine gf_144_22 C dX4_having_49 52 rfl ?_
    refine x_iload C dX4_having_52 0 rfl 54 rfl ?_
    obtain ⟨hin, h⟩ := gi_some h
    refine x_iald C 23 (gt_23 g _) hin dX4_having_54 55 rfl ?_
    refine x_iconst C (v := 1) dX4_having_55 (by decide) 56 rfl ?_
    refine x_iadd C dX4_having_56 57 rfl ?_
    refine x_aload_n C dX4_having_57 rfl 2 rfl 58 rfl ?_
    refine gf_144_22 C dX4_having_58 61 rfl ?_
    refine x_iload_n C dX4_having_61 rfl 1 rfl 62 rfl ?_
    obtain ⟨hin, h⟩ := gi_some h
    refine x_iald C 23 (gt_23 g _) hin dX4_having_62 63 rfl ?_
    refine x_icmp_ne C dX4_having_63 76 (by decide) 66 rfl (fun hc => ?_) (fun hc => ?_)
    · have h := iq hc h
      refine x_iconst C (v := 0) dX4_having_76 (by decide) 77 rfl ?_
      cases h
      exact hE _ _ ht 77 _ dX4_having_77
    · have h := ip hc h
      refine x_aload_n C dX4_having_66 rfl 2 rfl 67 rfl ?_
      refine gf_145_22 C dX4_having_67 70 rfl ?_
      refine x_iload C dX4_having_70 0 rfl 72 rfl ?_
      obtain ⟨hin, h⟩ := gi_some h
      refine x_iald C 24 (gt_24 g _) hin dX4_having_72 73 rfl ?_
      refine x_goto C dX4_having_73 77 (by decide) ?_
      cases h
      exact hE _ _ ht 77 _ dX4_having_77
  · have h := ip hc h
    refine x_iconst C (v := 0) dX4_having_12 (by decide) 13 rfl ?_
    cases h
    exact hE _ _ ht 13 _ dX4_having_13
set_option maxHeartbeats 4000000 in
set_option maxRecDepth 100000 in
theorem c_X4_having {g : Gb} {l : Launch}  {a1 : Int32} {a2 : Int32} {σ : WD} {r : Int32} {σ2 : WD} (h : f_X4_having a1 a2 σ = some (r, σ2)) : MC l g yX4_having (.code yX4_having cX4_having 5 (some (.int))) (rmk 19 549) [.ref (adr g 22), .int a1, .int a2] σ (some (.int r)) σ2 := by
  refine MC.of (by decide) (Nat.le_of_ble_eq_true rfl) (fun x C hl hr hq => ?_)
  subst hl
  exact w_X4_having (E := fun z => z = (r, σ2)) C  (fun a s2 he pc lv hd => by cases he; exact x_iret C hr hq hd) h rfl
set_option maxHeartbeats 4000000 in
set_option maxRecDepth 100000 in
theorem w_X4_howMany {x : Cx} {g : Gb} {E : Int32 × WD → Prop} (C : CF x g RX4 cX4_howMany 1 (rmk 19 549))   {σ : WD} (hE : ∀ (a : Int32) (s2 : WD), E (a, s2) → ∀ pc lv, decode cX4_howMany pc = .ok (.ireturn, 1) → WW x g 1 0 0 pc lv [.int a] s2) {t : Int32 × WD} (h : f_X4_howMany  σ = some t) (ht : E t) : WW x g 1 0 0 0 [(0, .ref (adr g 22))] [] σ := by
  unfold f_X4_howMany at h
  refine x_aload_n C dX4_howMany_0 rfl 0 rfl 1 rfl ?_
  obtain ⟨σ1, h1, h⟩ := bv_some h
  refine x_callV C 22 [] (c_X4_learn  h1) mi_X4_learn (gt_22 g _) rfl q_271 rfl ⟨rfl, rfl⟩ ⟨Nat.le_of_ble_eq_true rfl, Nat.le_of_ble_eq_true rfl⟩ ⟨Nat.zero_le _, Nat.zero_le _⟩ _ rfl (Nat.le_of_ble_eq_true rfl) dX4_howMany_1 4 rfl ?_
  refine x_aload_n C dX4_howMany_4 rfl 0 rfl 5 rfl ?_
  refine gf_145_22 C dX4_howMany_5 8 rfl ?_
  refine x_aload_n C dX4_howMany_8 rfl 0 rfl 9 rfl ?_
  refine gf_143_22 C dX4_howMany_9 12 rfl ?_
  obtain ⟨r12, h12, h⟩ := bv_some h
  refine x_callV C 1 [] (c_X0_all  h12) mi_X0_all (gt_1 g _) rfl q_276 rfl ⟨rfl, rfl⟩ ⟨Nat.le_of_ble_eq_true rfl, Nat.le_of_ble_eq_true rfl⟩ ⟨Nat.zero_le _, Nat.zero_le _⟩ _ rfl (Nat.le_of_ble_eq_true rfl) dX4_howMany_12 15 rfl ?_
  obtain ⟨hin, h⟩ := gi_some h
  refine x_iald C 24 (gt_24 g _) hin dX4_howMany_15 16 rfl ?_
  cases h
  exact hE _ _ ht 16 _ dX4_howMany_16
set_option maxHeartbeats 4000000 in
set_option maxRecDepth 100000 in
theorem c_X4_howMany {g : Gb} {l : Launch}   {σ : WD} {r : Int32} {σ2 : WD} (h : f_X4_howMany  σ = some (r, σ2)) : MC l g yX4_howMany (.code yX4_howMany cX4_howMany 1 (some (.int))) (rmk 19 549) [.ref (adr g 22)] σ (some (.int r)) σ2 := by
  refine MC.of (by decide) (Nat.le_of_ble_eq_true rfl) (fun x C hl hr hq => ?_)
  subst hl
  exact w_X4_howMany (E := fun z => z = (r, σ2)) C  (fun a s2 he pc lv hd => by cases he; exact x_iret C hr hq hd) h rfl
set_option maxHeartbeats 4000000 in
set_option maxRecDepth 100000 in
theorem w_X4_exposing {x : Cx} {g : Gb} {E : Int32 × WD → Prop} (C : CF x g RX4 cX4_exposing 4 (rmk 19 549))  {a1 : Int32} {σ : WD} (hE : ∀ (a : Int32) (s2 : WD), E (a, s2) → ∀ pc lv, decode cX4_exposing pc = .ok (.ireturn, 1) → WW x g 4 0 0 pc lv [.int a] s2) {t : Int32 × WD} (h : f_X4_exposing a1 σ = some t) (ht : E t) : WW x g 4 0 0 0 [(0, .ref (adr g 22)), (1, .int a1)] [] σ := by
  unfold f_X4_exposing at h
  refine x_aload_n C dX4_exposing_0 rfl 0 rfl 1 rfl ?_
  obtain ⟨σ1, h1, h⟩ := bv_some h
  refine x_callV C 22 [] (c_X4_learn  h1) mi_X4_learn (gt_22 g _) rfl q_271 rfl ⟨rfl, rfl⟩ ⟨Nat.le_of_ble_eq_true rfl, Nat.le_of_ble_eq_true rfl⟩ ⟨Nat.zero_le _, Nat.zero_le _⟩ _ rfl (Nat.le_of_ble_eq_true rfl) dX4_exposing_1 4 rfl ?_
  refine x_aload_n C dX4_exposing_4 rfl 0 rfl 5 rfl ?_
  refine gf_143_22 C dX4_exposing_5 8 rfl ?_
  obtain ⟨r8, h8, h⟩ := bv_some h
  refine x_callV C 1 [] (c_X0_all  h8) mi_X0_all (gt_1 g _) rfl q_276 rfl ⟨rfl, rfl⟩ ⟨Nat.le_of_ble_eq_true rfl, Nat.le_of_ble_eq_true rfl⟩ ⟨Nat.zero_le _, Nat.zero_le _⟩ _ rfl (Nat.le_of_ble_eq_true rfl) dX4_exposing_8 11 rfl ?_
  refine x_istore_n C [(2, .int r8), (0, .ref (adr g 22)), (1, .int a1)] dX4_exposing_11 rfl (by decide) rfl 12 rfl ?_
  refine x_iload_n C dX4_exposing_12 rfl 0 rfl 13 rfl ?_
  refine x_iconst C (v := 1) dX4_exposing_13 (by decide) 14 rfl ?_
  refine x_iload_n C dX4_exposing_14 rfl 2 rfl 15 rfl ?_
  refine x_ishl C dX4_exposing_15 16 rfl ?_
  refine x_iconst C (v := -1) dX4_exposing_16 (by decide) 17 rfl ?_
  refine x_ixor C dX4_exposing_17 18 rfl ?_
  refine x_iand C dX4_exposing_18 19 rfl ?_
  obtain ⟨v19, e19, h⟩ := li_some h
  refine x_te e19 ?_
  refine x_istore_n C [(3, .int v19), (2, .int r8), (0, .ref (adr g 22)), (1, .int a1)] dX4_exposing_19 rfl (by decide) rfl 20 rfl ?_
  refine x_aload_n C dX4_exposing_20 rfl 2 rfl 21 rfl ?_
  refine gf_144_22 C dX4_exposing_21 24 rfl ?_
  refine x_iload_n C dX4_exposing_24 rfl 0 rfl 25 rfl ?_
  obtain ⟨hin, h⟩ := gi_some h
  refine x_iald C 23 (gt_23 g _) hin dX4_exposing_25 26 rfl ?_
  refine x_aload_n C dX4_exposing_26 rfl 2 rfl 27 rfl ?_
  refine gf_144_22 C dX4_exposing_27 30 rfl ?_
  refine x_iload_n C dX4_exposing_30 rfl 1 rfl 31 rfl ?_
  obtain ⟨hin, h⟩ := gi_some h
  refine x_iald C 23 (gt_23 g _) hin dX4_exposing_31 32 rfl ?_
  refine x_icmp_ne C dX4_exposing_32 44 (by decide) 35 rfl (fun hc => ?_) (fun hc => ?_)
  · have h := iq hc h
    refine x_iconst C (v := 0) dX4_exposing_44 (by decide) 45 rfl ?_
    cases h
    exact hE _ _ ht 45 _ dX4_exposing_45
  · have h := ip hc h
    refine x_aload_n C dX4_exposing_35 rfl 2 rfl 36 rfl ?_
    refine gf_145_22 C dX4_exposing_36 39 rfl ?_
    refine x_iload_n C dX4_exposing_39 rfl 0 rfl 40 rfl ?_
    obtain ⟨hin, h⟩ := gi_some h
    refine x_iald C 24 (gt_24 g _) hin dX4_exposing_40 41 rfl ?_
    refine x_goto C dX4_exposing_41 45 (by decide) ?_
    cases h
    exact hE _ _ ht 45 _ dX4_exposing_45
set_option maxHeartbeats 4000000 in
set_option maxRecDepth 100000 in
theorem c_X4_exposing {g : Gb} {l : Launch}  {a1 : Int32} {σ : WD} {r : Int32} {σ2 : WD} (h : f_X4_exposing a1 σ = some (r, σ2)) : MC l g yX4_exposing (.code yX4_exposing cX4_exposing 4 (some (.int))) (rmk 19 549) [.ref (adr g 22), .int a1] σ (some (.int r)) σ2 := by
  refine MC.of (by decide) (Nat.le_of_ble_eq_true rfl) (fun x C hl hr hq => ?_)
  subst hl
  exact w_X4_exposing (E := fun z => z = (r, σ2)) C  (fun a s2 he pc lv hd => by cases he; exact x_iret C hr hq hd) h rfl
set_option maxHeartbeats 4000000 in
set_option maxRecDepth 100000 in
theorem w_X4_edgesHadBy_b20 {x : Cx} {g : Gb} {E : (Int32 × Int32 × WD) ⊕ ((Int32 × Int32 × WD) ⊕ (Int32 × WD)) → Prop} (C : CF x g RX4 cX4_edgesHadBy 5 (rmk 20 574))  {l1 : Int32} {l2 : Int32} {l3 : Int32} {l4 : Int32} {σ : WD} (hI0 : ∀ s, E (.inl s) → WW x g 5 0 0 20 [(0, .ref (adr g 22)), (1, .int l1), (2, .int s.1), (3, .int l3), (4, .int s.2.1)] [] s.2.2) (hI1 : ∀ s, E (.inr (.inl s)) → WW x g 5 0 0 4 [(0, .ref (adr g 22)), (1, .int l1), (2, .int s.1), (3, .int s.2.1)] [] s.2.2) (hE : ∀ (a : Int32) (s2 : WD), E (.inr (.inr (a, s2))) → ∀ pc lv, decode cX4_edgesHadBy pc = .ok (.ireturn, 1) → WW x g 5 0 0 pc lv [.int a] s2) {t : (Int32 × Int32 × WD) ⊕ ((Int32 × Int32 × WD) ⊕ (Int32 × WD))} (h : f_X4_edgesHadBy_b20 l1 l2 l3 l4 σ = some t) (ht : E t) : WW x g 5 0 0 20 [(0, .ref (adr g 22)), (1, .int l1), (2, .int l2), (3, .int l3), (4, .int l4)] [] σ := by
  unfold f_X4_edgesHadBy_b20 at h
  refine x_iload C dX4_edgesHadBy_20 4 rfl 22 rfl ?_
  refine x_aload_n C dX4_edgesHadBy_22 rfl 0 rfl 23 rfl ?_
  refine gf_143_22 C dX4_edgesHadBy_23 26 rfl ?_
  refine gf_36_1 C dX4_edgesHadBy_26 29 rfl ?_
  refine x_icmp_ge C dX4_edgesHadBy_29 65 (by decide) 32 rfl (fun hc => ?_) (fun hc => ?_)
  · have h := ip hc h
    refine x_iinc C [(3, .int (l3 + 1)), (0, .ref (adr g 22)), (1, .int l1), (2, .int l2), (4, .int l4)] dX4_edgesHadBy_65 3 rfl rfl (by decide) rfl 68 rfl ?_
    refine x_goto C dX4_edgesHadBy_68 4 (by decide) ?_
    cases h
    exact x_sub [1, 2, 3, 0] rfl (hI1 (l2, (l3 + 1), σ) ht)
  · have h := iq hc h
    refine x_aload_n C dX4_edgesHadBy_32 rfl 0 rfl 33 rfl ?_
    refine gf_143_22 C dX4_edgesHadBy_33 36 rfl ?_
    refine x_iload_n C dX4_edgesHadBy_36 rfl 3 rfl 37 rfl ?_
    refine x_iload C dX4_edgesHadBy_37 4 rfl 39 rfl ?_
    obtain ⟨r39, h39, h⟩ := bv_some h
    refine x_callV C 1 [.int l3, .int l4] (c_X0_joined  h39) mi_X0_joined (gt_1 g _) rfl q_374 rfl ⟨rfl, rfl⟩ ⟨Nat.le_of_ble_eq_true rfl, Nat.le_of_ble_eq_true rfl⟩ ⟨Nat.zero_le _, Nat.zero_le _⟩ _ rfl (Nat.le_of_ble_eq_true rfl) dX4_edgesHadBy_39 42 rfl ?_
    refine x_if_eq C dX4_edgesHadBy_42 59 (by decide) 45 rfl (fun hc => ?_) (fun hc => ?_)
    · have h := ip hc h
      refine x_iinc C [(4, .int (l4 + 1)), (0, .ref (adr g 22)), (1, .int l1), (2, .int l2), (3, .int l3)] dX4_edgesHadBy_59 4 rfl rfl (by decide) rfl 62 rfl ?_
      refine x_goto C dX4_edgesHadBy_62 20 (by decide) ?_
      cases h
      exact x_sub [1, 2, 3, 4, 0] rfl (hI0 (l2, (l4 + 1), σ) ht)
    · have h := iq hc h
      refine x_aload_n C dX4_edgesHadBy_45 rfl 0 rfl 46 rfl ?_
      refine x_iload_n C dX4_edgesHadBy_46 rfl 3 rfl 47 rfl ?_
      refine x_iload C dX4_edgesHadBy_47 4 rfl 49 rfl ?_
      obtain ⟨r49, σ49, h49, h⟩ := bn_some h
      refine x_callV C 22 [.int l3, .int l4] (c_X4_having  h49) mi_X4_having (gt_22 g _) rfl q_389 rfl ⟨rfl, rfl⟩ ⟨Nat.le_of_ble_eq_true rfl, Nat.le_of_ble_eq_true rfl⟩ ⟨Nat.zero_le _, Nat.zero_le _⟩ _ rfl (Nat.le_of_ble_eq_true rfl) dX4_edgesHadBy_49 52 rfl ?_
      refine x_iload_n C dX4_edgesHadBy_52 rfl 1 rfl 53 rfl ?_
      refine x_icmp_ne C dX4_edgesHadBy_53 59 (by decide) 56 rfl (fun hc => ?_) (fun hc => ?_)
      · have h := iq hc h
        refine x_iinc C [(4, .int (l4 + 1)), (0, .ref (adr g 22)), (1, .int l1), (2, .int l2), (3, .int l3)] dX4_edgesHadBy_59 4 rfl rfl (by decide) rfl 62 rfl ?_
        refine x_goto C dX4_edgesHadBy_62 20 (by decide) ?_
        cases h
        exact x_sub [1, 2, 3, 4, 0] rfl (hI0 (l2, (l4 + 1), σ49) ht)
      · have h := ip hc h
        refine x_iinc C [(2, .int (l2 + 1)), (0, .ref (adr g 22)), (1, .int l1), (3, .int l3), (4, .int l4)] dX4_edgesHadBy_56 2 rfl rfl (by decide) rfl 59 rfl ?_
        refine x_iinc C [(4, .int (l4 + 1)), (2, .int (l2 + 1)), (0, .ref (adr g 22)), (1, .int l1), (3, .int l3)] dX4_edgesHadBy_59 4 rfl rfl (by decide) rfl 62 rfl ?_
        refine x_goto C dX4_edgesHadBy_62 20 (by decide) ?_
        cases h
        exact x_sub [2, 3, 1, 4, 0] rfl (hI0 ((l2 + 1), (l4 + 1), σ49) ht)
set_option maxHeartbeats 4000000 in
set_option maxRecDepth 100000 in
theorem w_X4_edgesHadBy_20 {x : Cx} {g : Gb} {E : (Int32 × Int32 × WD) ⊕ (Int32 × WD) → Prop} (C : CF x g RX4 cX4_edgesHadBy 5 (rmk 20 574))  {l1 : Int32} {l2 : Int32} {l3 : Int32} {l4 : Int32} {σ : WD} (hI0 : ∀ s, E (.inl s) → WW x g 5 0 0 4 [(0, .ref (adr g 22)), (1, .int l1), (2, .int s.1), (3, .int s.2.1)] [] s.2.2) (hE : ∀ (a : Int32) (s2 : WD), E (.inr (a, s2)) → ∀ pc lv, decode cX4_edgesHadBy pc = .ok (.ireturn, 1) → WW x g 5 0 0 pc lv [.int a] s2) {t : (Int32 × Int32 × WD) ⊕ (Int32 × WD)} (h : f_X4_edgesHadBy_20 l1 l2 l3 l4 σ = some t) (ht : E t) : WW x g 5 0 0 20 [(0, .ref (adr g 22)), (1, .int l1), (2, .int l2), (3, .int l3), (4, .int l4)] [] σ := by
  unfold f_X4_edgesHadBy_20 at h
  exact lp_ind (fun s : Int32 × Int32 × WD => WW x g 5 0 0 20 [(0, .ref (adr g 22)), (1, .int l1), (2, .int s.1), (3, .int l3), (4, .int s.2.1)] [] s.2.2) E h ht (fun s y hb hy => w_X4_edgesHadBy_b20 (E := Sum.elim (fun s : Int32 × Int32 × WD => WW x g 5 0 0 20 [(0, .ref (adr g 22)), (1, .int l1), (2, .int s.1), (3, .int l3), (4, .int s.2.1)] [] s.2.2) E) C  (fun _ h => h) hI0 hE hb hy)
set_option maxHeartbeats 4000000 in
set_option maxRecDepth 100000 in
theorem w_X4_edgesHadBy_b4 {x : Cx} {g : Gb} {E : (Int32 × Int32 × WD) ⊕ (Int32 × WD) → Prop} (C : CF x g RX4 cX4_edgesHadBy 5 (rmk 20 574))  {l1 : Int32} {l2 : Int32} {l3 : Int32} {σ : WD} (hI0 : ∀ s, E (.inl s) → WW x g 5 0 0 4 [(0, .ref (adr g 22)), (1, .int l1), (2, .int s.1), (3, .int s.2.1)] [] s.2.2) (hE : ∀ (a : Int32) (s2 : WD), E (.inr (a, s2)) → ∀ pc lv, decode cX4_edgesHadBy pc = .ok (.ireturn, 1) → WW x g 5 0 0 pc lv [.int a] s2) {t : (Int32 × Int32 × WD) ⊕ (Int32 × WD)} (h : f_X4_edgesHadBy_b4 l1 l2 l3 σ = some t) (ht : E t) : WW x g 5 0 0 4 [(0, .ref (adr g 22)), (1, .int l1), (2, .int l2), (3, .int l3)] [] σ := by
  unfold f_X4_edgesHadBy_b4 at h
  refine x_iload_n C dX4_edgesHadBy_4 rfl 3 rfl 5 rfl ?_
  refine x_aload_n C dX4_edgesHadBy_5 rfl 0 rfl 6 rfl ?_
  refine gf_143_22 C dX4_edgesHadBy_6 9 rfl ?_
  refine gf_36_1 C dX4_edgesHadBy_9 12 rfl ?_
  refine x_icmp_ge C dX4_edgesHadBy_12 71 (by decide) 15 rfl (fun hc => ?_) (fun hc => ?_)
  · have h := ip hc h
    refine x_iload_n C dX4_edgesHadBy_71 rfl 2 rfl 72 rfl ?_
    cases h
    exact hE _ _ ht 72 _ dX4_edgesHadBy_72
  · have h := iq hc h
    refine x_iload_n C dX4_edgesHadBy_15 rfl 3 rfl 16 rfl ?_
    refine x_iconst C (v := 1) dX4_edgesHadBy_16 (by decide) 17 rfl ?_
    refine x_iadd C dX4_edgesHadBy_17 18 rfl ?_
    refine x_istore C [(4, .int (l3 + 1)), (0, .ref (adr g 22)), (1, .int l1), (2, .int l2), (3, .int l3)] dX4_edgesHadBy_18 (by decide) rfl 20 rfl ?_
    exact x_sub [1, 2, 3, 4, 0] rfl (w_X4_edgesHadBy_20 C  hI0 hE h ht)
set_option maxHeartbeats 4000000 in
set_option maxRecDepth 100000 in
theorem w_X4_edgesHadBy_4 {x : Cx} {g : Gb} {E : Int32 × WD → Prop} (C : CF x g RX4 cX4_edgesHadBy 5 (rmk 20 574))  {l1 : Int32} {l2 : Int32} {l3 : Int32} {σ : WD} (hE : ∀ (a : Int32) (s2 : WD), E (a, s2) → ∀ pc lv, decode cX4_edgesHadBy pc = .ok (.ireturn, 1) → WW x g 5 0 0 pc lv [.int a] s2) {t : Int32 × WD} (h : f_X4_edgesHadBy_4 l1 l2 l3 σ = some t) (ht : E t) : WW x g 5 0 0 4 [(0, .ref (adr g 22)), (1, .int l1), (2, .int l2), (3, .int l3)] [] σ := by
  unfold f_X4_edgesHadBy_4 at h
  exact lp_ind (fun s : Int32 × Int32 × WD => WW x g 5 0 0 4 [(0, .ref (adr g 22)), (1, .int l1), (2, .int s.1), (3, .int s.2.1)] [] s.2.2) E h ht (fun s y hb hy => w_X4_edgesHadBy_b4 (E := Sum.elim (fun s : Int32 × Int32 × WD => WW x g 5 0 0 4 [(0, .ref (adr g 22)), (1, .int l1), (2, .int s.1), (3, .int s.2.1)] [] s.2.2) E) C  (fun _ h => h)  hE hb hy)
set_option maxHeartbeats 4000000 in
set_option maxRecDepth 100000 in
theorem w_X4_edgesHadBy {x : Cx} {g : Gb} {E : Int32 × WD → Prop} (C : CF x g RX4 cX4_edgesHadBy 5 (rmk 20 574))  {a1 : Int32} {σ : WD} (hE : ∀ (a : Int32) (s2 : WD), E (a, s2) → ∀ pc lv, decode cX4_edgesHadBy pc = .ok (.ireturn, 1) → WW x g 5 0 0 pc lv [.int a] s2) {t : Int32 × WD} (h : f_X4_edgesHadBy a1 σ = some t) (ht : E t) : WW x g 5 0 0 0 [(0, .ref (adr g 22)), (1, .int a1)] [] σ := by
  unfold f_X4_edgesHadBy at h
  refine x_iconst C (v := 0) dX4_edgesHadBy_0 (by decide) 1 rfl ?_
  refine x_istore_n C [(2, .int 0), (0, .ref (adr g 22)), (1, .int a1)] dX4_edgesHadBy_1 rfl (by decide) rfl 2 rfl ?_
  refine x_iconst C (v := 0) dX4_edgesHadBy_2 (by decide) 3 rfl ?_
  refine x_istore_n C [(3, .int 0), (2, .int 0), (0, .ref (adr g 22)), (1, .int a1)] dX4_edgesHadBy_3 rfl (by decide) rfl 4 rfl ?_
  exact x_sub [2, 3, 1, 0] rfl (w_X4_edgesHadBy_4 C  hE h ht)
set_option maxHeartbeats 4000000 in
set_option maxRecDepth 100000 in
theorem c_X4_edgesHadBy {g : Gb} {l : Launch}  {a1 : Int32} {σ : WD} {r : Int32} {σ2 : WD} (h : f_X4_edgesHadBy a1 σ = some (r, σ2)) : MC l g yX4_edgesHadBy (.code yX4_edgesHadBy cX4_edgesHadBy 5 (some (.int))) (rmk 20 574) [.ref (adr g 22), .int a1] σ (some (.int r)) σ2 := by
  refine MC.of (by decide) (Nat.le_of_ble_eq_true rfl) (fun x C hl hr hq => ?_)
  subst hl
  exact w_X4_edgesHadBy (E := fun z => z = (r, σ2)) C  (fun a s2 he pc lv hd => by cases he; exact x_iret C hr hq hd) h rfl
set_option maxHeartbeats 4000000 in
set_option maxRecDepth 100000 in
theorem w_X4_isCritical_b14 {x : Cx} {g : Gb} {E : (Int32) ⊕ (Int32 × WD) → Prop} (C : CF x g RX4 cX4_isCritical 3 (rmk 19 549))  {l1 : Int32} {l2 : Int32} {σ : WD} (hI0 : ∀ s, E (.inl s) → WW x g 3 0 0 14 [(0, .ref (adr g 22)), (1, .int l1), (2, .int s)] [] σ) (hE : ∀ (a : Int32) (s2 : WD), E (.inr (a, s2)) → ∀ pc lv, narrow .boolean (.int a) = .int a → decode cX4_isCritical pc = .ok (.ireturn, 1) → WW x g 3 0 0 pc lv [.int a] s2) {t : (Int32) ⊕ (Int32 × WD)} (h : f_X4_isCritical_b14 l1 l2 σ = some t) (ht : E t) : WW x g 3 0 0 14 [(0, .ref (adr g 22)), (1, .int l1), (2, .int l2)] [] σ := by
  unfold f_X4_isCritical_b14 at h
  refine x_iload_n C dX4_isCritical_14 rfl 2 rfl 15 rfl ?_
  refine x_aload_n C dX4_isCritical_15 rfl 0 rfl 16 rfl ?_
  refine gf_143_22 C dX4_isCritical_16 19 rfl ?_
  refine gf_36_1 C dX4_isCritical_19 22 rfl ?_
  refine x_icmp_ge C dX4_isCritical_22 59 (by decide) 25 rfl (fun hc => ?_) (fun hc => ?_)
  · have h := ip hc h
    refine x_iconst C (v := 1) dX4_isCritical_59 (by decide) 60 rfl ?_
    cases h
    exact hE _ _ ht 60 _ rfl dX4_isCritical_60
  · have h := iq hc h
    refine x_iconst C (v := 2) dX4_isCritical_25 (by decide) 26 rfl ?_
    refine x_aload_n C dX4_isCritical_26 rfl 0 rfl 27 rfl ?_
    refine gf_144_22 C dX4_isCritical_27 30 rfl ?_
    refine x_iload_n C dX4_isCritical_30 rfl 1 rfl 31 rfl ?_
    refine x_iconst C (v := 1) dX4_isCritical_31 (by decide) 32 rfl ?_
    refine x_iload_n C dX4_isCritical_32 rfl 2 rfl 33 rfl ?_
    refine x_ishl C dX4_isCritical_33 34 rfl ?_
    refine x_iconst C (v := -1) dX4_isCritical_34 (by decide) 35 rfl ?_
    refine x_ixor C dX4_isCritical_35 36 rfl ?_
    refine x_iand C dX4_isCritical_36 37 rfl ?_
    obtain ⟨hin, h⟩ := gi_some h
    refine x_iald C 23 (gt_23 g _) hin dX4_isCritical_37 38 rfl ?_
    refine x_imul C dX4_isCritical_38 39 rfl ?_
    refine x_aload_n C dX4_isCritical_39 rfl 0 rfl 40 rfl ?_
    refine gf_143_22 C dX4_isCritical_40 43 rfl ?_
    refine gf_36_1 C dX4_isCritical_43 46 rfl ?_
    refine x_iconst C (v := 1) dX4_isCritical_46 (by decide) 47 rfl ?_
    refine x_isub C dX4_isCritical_47 48 rfl ?_
    refine x_icmp_eq C dX4_isCritical_48 53 (by decide) 51 rfl (fun hc => ?_) (fun hc => ?_)
    · have h := ip hc h
      refine x_iinc C [(2, .int (l2 + 1)), (0, .ref (adr g 22)), (1, .int l1)] dX4_isCritical_53 2 rfl rfl (by decide) rfl 56 rfl ?_
      refine x_goto C dX4_isCritical_56 14 (by decide) ?_
      cases h
      exact x_sub [1, 2, 0] rfl (hI0 (l2 + 1) ht)
    · have h := iq hc h
      refine x_iconst C (v := 0) dX4_isCritical_51 (by decide) 52 rfl ?_
      cases h
      exact hE _ _ ht 52 _ rfl dX4_isCritical_52
set_option maxHeartbeats 4000000 in
set_option maxRecDepth 100000 in
theorem w_X4_isCritical_14 {x : Cx} {g : Gb} {E : Int32 × WD → Prop} (C : CF x g RX4 cX4_isCritical 3 (rmk 19 549))  {l1 : Int32} {l2 : Int32} {σ : WD} (hE : ∀ (a : Int32) (s2 : WD), E (a, s2) → ∀ pc lv, narrow .boolean (.int a) = .int a → decode cX4_isCritical pc = .ok (.ireturn, 1) → WW x g 3 0 0 pc lv [.int a] s2) {t : Int32 × WD} (h : f_X4_isCritical_14 l1 l2 σ = some t) (ht : E t) : WW x g 3 0 0 14 [(0, .ref (adr g 22)), (1, .int l1), (2, .int l2)] [] σ := by
  unfold f_X4_isCritical_14 at h
  exact lp_ind (fun s : Int32 => WW x g 3 0 0 14 [(0, .ref (adr g 22)), (1, .int l1), (2, .int s)] [] σ) E h ht (fun s y hb hy => w_X4_isCritical_b14 (E := Sum.elim (fun s : Int32 => WW x g 3 0 0 14 [(0, .ref (adr g 22)), (1, .int l1), (2, .int s)] [] σ) E) C  (fun _ h => h)  hE hb hy)
set_option maxHeartbeats 4000000 in
set_option maxRecDepth 100000 in
theorem w_X4_isCritical {x : Cx} {g : Gb} {E : Int32 × WD → Prop} (C : CF x g RX4 cX4_isCritical 3 (rmk 19 549))   {σ : WD} (hE : ∀ (a : Int32) (s2 : WD), E (a, s2) → ∀ pc lv, narrow .boolean (.int a) = .int a → decode cX4_isCritical pc = .ok (.ireturn, 1) → WW x g 3 0 0 pc lv [.int a] s2) {t : Int32 × WD} (h : f_X4_isCritical  σ = some t) (ht : E t) : WW x g 3 0 0 0 [(0, .ref (adr g 22))] [] σ := by
  unfold f_X4_isCritical at h
  refine x_aload_n C dX4_isCritical_0 rfl 0 rfl 1 rfl ?_
  obtain ⟨σ1, h1, h⟩ := bv_some h
  refine x_callV C 22 [] (c_X4_learn  h1) mi_X4_learn (gt_22 g _) rfl q_271 rfl ⟨rfl, rfl⟩ ⟨Nat.le_of_ble_eq_true rfl, Nat.le_of_ble_eq_true rfl⟩ ⟨Nat.zero_le _, Nat.zero_le _⟩ _ rfl (Nat.le_of_ble_eq_true rfl) dX4_isCritical_1 4 rfl ?_
  refine x_aload_n C dX4_isCritical_4 rfl 0 rfl 5 rfl ?_
  refine gf_143_22 C dX4_isCritical_5 8 rfl ?_
  obtain ⟨r8, h8, h⟩ := bv_some h
  refine x_callV C 1 [] (c_X0_all  h8) mi_X0_all (gt_1 g _) rfl q_276 rfl ⟨rfl, rfl⟩ ⟨Nat.le_of_ble_eq_true rfl, Nat.le_of_ble_eq_true rfl⟩ ⟨Nat.zero_le _, Nat.zero_le _⟩ _ rfl (Nat.le_of_ble_eq_true rfl) dX4_isCritical_8 11 rfl ?_
  refine x_istore_n C [(1, .int r8), (0, .ref (adr g 22))] dX4_isCritical_11 rfl (by decide) rfl 12 rfl ?_
  refine x_iconst C (v := 0) dX4_isCritical_12 (by decide) 13 rfl ?_
  refine x_istore_n C [(2, .int 0), (1, .int r8), (0, .ref (adr g 22))] dX4_isCritical_13 rfl (by decide) rfl 14 rfl ?_
  exact x_sub [2, 1, 0] rfl (w_X4_isCritical_14 C  hE h ht)
set_option maxHeartbeats 4000000 in
set_option maxRecDepth 100000 in
theorem c_X4_isCritical {g : Gb} {l : Launch}   {σ : WD} {r : Int32} {σ2 : WD} (h : f_X4_isCritical  σ = some (r, σ2)) : MC l g yX4_isCritical (.code yX4_isCritical cX4_isCritical 3 (some (.boolean))) (rmk 19 549) [.ref (adr g 22)] σ (some (.int r)) σ2 := by
  refine MC.of (by decide) (Nat.le_of_ble_eq_true rfl) (fun x C hl hr hq => ?_)
  subst hl
  exact w_X4_isCritical (E := fun z => z = (r, σ2)) C  (fun a s2 he pc lv hn hd => by cases he; exact x_zret C hr hq hn hd) h rfl
