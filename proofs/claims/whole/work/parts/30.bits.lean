/-! ===== Int32 by its bits: bt x i ===== -/
def bt (x : Int32) (i : Nat) : Bool := x.toBitVec.getLsbD i
theorem b_ext {x y : Int32} (h : ∀ i, i < 32 → bt x i = bt y i) : x = y := Int32.toBitVec_inj.mp (BitVec.eq_of_getLsbD_eq (fun i hi => h i hi))
theorem b_or (x y : Int32) (i : Nat) : bt (x ||| y) i = (bt x i || bt y i) := by unfold bt; rw [Int32.toBitVec_or, BitVec.getLsbD_or]
theorem b_and (x y : Int32) (i : Nat) : bt (x &&& y) i = (bt x i && bt y i) := by unfold bt; rw [Int32.toBitVec_and, BitVec.getLsbD_and]
theorem b_xor (x y : Int32) (i : Nat) : bt (x ^^^ y) i = (bt x i ^^ bt y i) := by unfold bt; rw [Int32.toBitVec_xor, BitVec.getLsbD_xor]
theorem b_big {x : Int32} {i : Nat} (h : 32 ≤ i) : bt x i = false := BitVec.getLsbD_of_ge _ _ h
theorem b_255 (i : Nat) : bt 255 i = decide (i < 8) := by
  rcases Nat.lt_or_ge i 32 with h | h
  · exact (by decide +kernel : ∀ i, i < 32 → bt 255 i = decide (i < 8)) i h
  · rw [b_big h, decide_eq_false (by omega)]
theorem b_65535 (i : Nat) : bt 65535 i = decide (i < 16) := by
  rcases Nat.lt_or_ge i 32 with h | h
  · exact (by decide +kernel : ∀ i, i < 32 → bt 65535 i = decide (i < 16)) i h
  · rw [b_big h, decide_eq_false (by omega)]
theorem b_m1 : ∀ i, i < 32 → bt (-1) i = true := by decide +kernel
theorem b_0 (i : Nat) : bt 0 i = false := BitVec.getLsbD_zero
theorem s_l : ∀ n, n < 32 → ((nI n &&& 31).toBitVec.smod 32).toNat = n := by decide +kernel
theorem s_u : ∀ n, n < 32 → (((nI n).toUInt32 &&& Int32.toUInt32 31).toBitVec % 32).toNat = n := by decide +kernel
theorem b_shl (n : Nat) (hn : n < 32) (x : Int32) {i : Nat} (hi : i < 32) : bt (x <<< (nI n &&& 31)) i = (decide (n ≤ i) && bt x (i - n)) := by
  unfold bt
  rw [Int32.toBitVec_shiftLeft]
  show (x.toBitVec <<< ((nI n &&& 31).toBitVec.smod 32).toNat).getLsbD i = _
  rw [s_l n hn, BitVec.getLsbD_shiftLeft]
  rcases Nat.lt_or_ge i n with h | h
  · simp [h, Nat.not_le.mpr h]
  · simp [hi, h, Nat.not_lt.mpr h]
theorem b_ushr (n : Nat) (hn : n < 32) (x : Int32) (i : Nat) : bt ((x.toUInt32 >>> ((nI n).toUInt32 &&& Int32.toUInt32 31)).toInt32) i = bt x (n + i) := by
  show (x.toUInt32 >>> ((nI n).toUInt32 &&& Int32.toUInt32 31)).toBitVec.getLsbD i = x.toUInt32.toBitVec.getLsbD (n + i)
  rw [UInt32.toBitVec_shiftRight]
  show (x.toUInt32.toBitVec >>> (((nI n).toUInt32 &&& Int32.toUInt32 31).toBitVec % 32).toNat).getLsbD i = _
  rw [s_u n hn, BitVec.getLsbD_ushiftRight]
theorem b_sshr (n : Nat) (hn : n < 32) (x : Int32) {i : Nat} (hi : i < 32) : bt (x >>> (nI n &&& 31)) i = if n + i < 32 then bt x (n + i) else bt x 31 := by
  unfold bt
  rw [Int32.toBitVec_shiftRight]
  show (x.toBitVec.sshiftRight ((nI n &&& 31).toBitVec.smod 32).toNat).getLsbD i = _
  rw [s_l n hn, BitVec.getLsbD_sshiftRight, BitVec.msb_eq_getLsbD_last]
  simp [hi]
-- ===== our own: sets of nodes as ints =====
theorem tb_eq {x : Int32} {k : Nat} (hk : k < 32) : ((x >>> (nI k &&& 31)) &&& 1) = if bt x k then 1 else 0 := by
  apply b_ext
  intro i hi
  rw [b_and, b_sshr k hk x hi]
  have h1 : bt 1 i = decide (i = 0) := (by decide +kernel : ∀ i, i < 32 → bt 1 i = decide (i = 0)) i hi
  rw [h1]
  by_cases h0 : i = 0
  · subst h0
    simp only [Nat.add_zero, hk, if_true, decide_true, Bool.and_true]
    by_cases hb : bt x k = true
    · rw [hb]; simp; exact (by decide +kernel : bt 1 0 = true).symm
    · simp only [Bool.not_eq_true] at hb
      rw [hb]; simp; exact (b_0 0).symm
  · simp only [h0, decide_false, Bool.and_false]
    by_cases hb : bt x k = true
    · rw [hb]; simp [h1, h0]
    · simp only [Bool.not_eq_true] at hb
      rw [hb]; simp [b_0]
theorem tb_zero {x : Int32} {k : Nat} (hk : k < 32) : ((x >>> (nI k &&& 31)) &&& 1) = 0 ↔ bt x k = false := by
  rw [tb_eq hk]
  cases bt x k <;> simp
theorem tb_one {x : Int32} {k : Nat} (hk : k < 32) : ((x >>> (nI k &&& 31)) &&& 1) = 1 ↔ bt x k = true := by
  rw [tb_eq hk]
  cases bt x k <;> simp
/-- the set of one node -/
def sg (k : Nat) : Int32 := (1 : Int32) <<< (nI k &&& 31)
theorem sg_eq (k : Nat) : (1 : Int32) <<< (nI k &&& 31) = sg k := rfl
theorem b_sg {k i : Nat} (hk : k < 32) (hi : i < 32) : bt (sg k) i = decide (i = k) := by
  unfold sg
  rw [b_shl k hk _ hi]
  have h1 : ∀ j, j < 32 → bt 1 j = decide (j = 0) := by decide +kernel
  rw [h1 _ (by omega)]
  by_cases h : k ≤ i
  · by_cases h2 : i = k
    · subst h2; simp
    · simp [h, h2, show ¬ i - k = 0 by omega]
  · simp [h, show ¬ i = k by omega]
theorem b_not {x : Int32} {i : Nat} (hi : i < 32) : bt (x ^^^ (-1)) i = !bt x i := by
  rw [b_xor, b_m1 i hi]; cases bt x i <;> rfl
/-- x without node k -/
def cl (x : Int32) (k : Nat) : Int32 := x &&& (sg k ^^^ (-1))
theorem cl_eq (x : Int32) (k : Nat) : x &&& (((1 : Int32) <<< (nI k &&& 31)) ^^^ (-1)) = cl x k := rfl
theorem b_cl {x : Int32} {k i : Nat} (hk : k < 32) (hi : i < 32) : bt (cl x k) i = (bt x i && decide (i ≠ k)) := by
  unfold cl
  rw [b_and, b_not hi, b_sg hk hi]
  by_cases h : i = k <;> simp [h]
/-- no bit at n or above -/
def Bd (n : Nat) (x : Int32) : Prop := ∀ i, n ≤ i → i < 32 → bt x i = false
/-- all nodes -/
def al (n : Nat) : Int32 := ((1 : Int32) <<< (nI n &&& 31)) - 1
theorem b_al : ∀ n, n < 13 → ∀ i, i < 32 → bt (al n) i = decide (i < n) := by decide +kernel
theorem Bd.al {n : Nat} (hn : n < 13) : Bd n (al n) := fun i h1 h2 => by rw [b_al n hn i h2]; simp [h1]
theorem Bd.mono {n m : Nat} {x : Int32} (h : Bd n x) (hm : n ≤ m) : Bd m x := fun i h1 h2 => h i (by omega) h2
theorem Bd.and_left {n : Nat} {x : Int32} (h : Bd n x) (y : Int32) : Bd n (x &&& y) := fun i h1 h2 => by rw [b_and, h i h1 h2]; rfl
theorem Bd.and_right {n : Nat} {x : Int32} (h : Bd n x) (y : Int32) : Bd n (y &&& x) := fun i h1 h2 => by rw [b_and, h i h1 h2]; simp
theorem Bd.or {n : Nat} {x y : Int32} (h : Bd n x) (h2 : Bd n y) : Bd n (x ||| y) := fun i h1 hi => by rw [b_or, h i h1 hi, h2 i h1 hi]; rfl
theorem Bd.cl {n : Nat} {x : Int32} (h : Bd n x) (k : Nat) : Bd n (cl x k) := h.and_left _
theorem Bd.sg {n k : Nat} (hk : k < n) (hn : n ≤ 32) : Bd n (sg k) := fun i h1 h2 => by rw [b_sg (by omega) h2]; simp; omega
theorem Bd.zero (n : Nat) : Bd n 0 := fun i _ _ => b_0 i
theorem bd_nat {x : Int32} (h : Bd 12 x) : ∃ k, k < 4096 ∧ x = nI k := by
  refine ⟨x.toBitVec.toNat, ?_, Int32.toBitVec_inj.mp (by show _ = BitVec.ofNat 32 _; simp)⟩
  have : x.toBitVec.toNat < 2 ^ 12 := by
    apply Nat.lt_pow_two_of_testBit
    intro i hi
    rcases Nat.lt_or_ge i 32 with h2 | h2
    · exact h i hi h2
    · exact b_big (x := x) h2
  exact this
theorem bd_of : ∀ k, k < 4096 → Bd 12 (nI k) := by
  intro k hk i h1 h2
  show (BitVec.ofNat 32 k).getLsbD i = false
  rw [BitVec.getLsbD_ofNat]
  have : k.testBit i = false := Nat.testBit_lt_two_pow (Nat.lt_of_lt_of_le hk (Nat.pow_le_pow_right (by decide) h1 : 2 ^ 12 ≤ 2 ^ i))
  simp [this]
theorem bd_in {x : Int32} (h : Bd 12 x) : ¬ (x < 0 ∨ 4096 ≤ x.toNatClampNeg) := by
  obtain ⟨k, hk, rfl⟩ := bd_nat h
  exact nI_in hk (by decide)
theorem bd_nn {x : Int32} (h : Bd 12 x) : nI x.toNatClampNeg = x := by
  obtain ⟨k, hk, rfl⟩ := bd_nat h
  rw [nI_clamp (by omega)]
theorem bd_lt {x : Int32} (h : Bd 12 x) : x.toNatClampNeg < 4096 := by
  obtain ⟨k, hk, rfl⟩ := bd_nat h
  rw [nI_clamp (by omega)]; exact hk
/-- how many nodes -/
def pcn (x : Int32) : Nat := ((List.range 12).filter (fun i => bt x i)).length
def bcx (x : Int32) : Int32 :=
  let v9 := (x - (((x.toUInt32 >>> ((1 : Int32).toUInt32 &&& Int32.toUInt32 31)).toInt32) &&& 1431655765))
  let v23 := ((v9 &&& 858993459) + (((v9.toUInt32 >>> ((2 : Int32).toUInt32 &&& Int32.toUInt32 31)).toInt32) &&& 858993459))
  let v33 := ((v23 + ((v23.toUInt32 >>> ((4 : Int32).toUInt32 &&& Int32.toUInt32 31)).toInt32)) &&& 252645135)
  let v40 := (v33 + ((v33.toUInt32 >>> ((8 : Int32).toUInt32 &&& Int32.toUInt32 31)).toInt32))
  let v47 := (v40 + ((v40.toUInt32 >>> ((16 : Int32).toUInt32 &&& Int32.toUInt32 31)).toInt32))
  v47 &&& 63
theorem bcx_two : ∀ a, a < 64 → ∀ b, b < 64 → bcx (nI (64 * a + b)) = nI (pcn (nI (64 * a + b))) := by decide +kernel
theorem by_64 {P : Nat → Prop} (h : ∀ a, a < 64 → ∀ b, b < 64 → P (64 * a + b)) : ∀ k, k < 4096 → P k := by
  intro k hk
  have := h (k / 64) (by omega) (k % 64) (by omega)
  rwa [Nat.div_add_mod] at this
theorem bcx_pcn : ∀ k, k < 4096 → bcx (nI k) = nI (pcn (nI k)) := by_64 bcx_two
theorem bitCount_eq {x : Int32} (h : Bd 12 x) (σ : WD) : f_J6_bitCount_0f7a4 x σ = some (nI (pcn x)) := by
  obtain ⟨k, hk, rfl⟩ := bd_nat h
  rw [← bcx_pcn k hk]
  rfl
/-- the lowest node; 12 if there is none -/
def lwn (x : Int32) : Nat := ((List.range 12).find? (fun i => bt x i)).getD 12
theorem lwn_spec {x : Int32} (hx : Bd 12 x) (h0 : x ≠ 0) : lwn x < 12 ∧ bt x (lwn x) = true ∧ ∀ i, i < lwn x → bt x i = false := by
  unfold lwn
  cases hf : (List.range 12).find? (fun i => bt x i) with
  | none =>
    exfalso
    apply h0
    rw [List.find?_eq_none] at hf
    apply b_ext
    intro i hi
    rw [b_0]
    rcases Nat.lt_or_ge i 12 with h | h
    · have := hf i (List.mem_range.mpr h)
      simpa using this
    · exact hx i h hi
  | some k =>
    have h1 := List.find?_some hf
    have h2 := List.mem_range.mp (List.mem_of_find?_eq_some hf)
    refine ⟨h2, h1, fun i hi => ?_⟩
    simp only [Option.getD_some] at hi
    rw [List.find?_eq_some_iff_append] at hf
    obtain ⟨-, as, bs, he, hn⟩ := hf
    have hi2 : i ∈ as := by
      have hl : as.length = k := by
        have e1 : (List.range 12)[as.length]? = some k := by rw [he]; simp
        have hlt : as.length < 12 := by
          rcases Nat.lt_or_ge as.length 12 with h | h
          · exact h
          · rw [List.getElem?_eq_none (by simpa using h)] at e1; cases e1
        rw [List.getElem?_range hlt] at e1
        exact Option.some.inj e1
      have e2 : as[i]? = some i := by
        have e3 : (List.range 12)[i]? = some i := List.getElem?_range (by omega)
        rw [he, List.getElem?_append_left (by omega)] at e3
        exact e3
      exact List.mem_of_getElem? e2
    simpa using hn i hi2
def ntz (x : Int32) : Int32 :=
  let v7 := (x ^^^ (-1)) &&& (x - 1)
  if 0 < v7 then
    (let (a, b) := if v7 ≤ 65536 then (v7, (1 : Int32)) else ((v7.toUInt32 >>> ((16 : Int32).toUInt32 &&& Int32.toUInt32 31)).toInt32, 1 + 16)
     let (a, b) := if a ≤ 256 then (a, b) else ((a.toUInt32 >>> ((8 : Int32).toUInt32 &&& Int32.toUInt32 31)).toInt32, b + 8)
     let (a, b) := if a ≤ 16 then (a, b) else ((a.toUInt32 >>> ((4 : Int32).toUInt32 &&& Int32.toUInt32 31)).toInt32, b + 4)
     let (a, b) := if a ≤ 4 then (a, b) else ((a.toUInt32 >>> ((2 : Int32).toUInt32 &&& Int32.toUInt32 31)).toInt32, b + 2)
     b + (a.toUInt32 >>> ((1 : Int32).toUInt32 &&& Int32.toUInt32 31)).toInt32)
  else v7 &&& 32
theorem ntz_two : ∀ a, a < 64 → ∀ b, b < 64 → 0 < 64 * a + b → ntz (nI (64 * a + b)) = nI (lwn (nI (64 * a + b))) := by decide +kernel
theorem ntz_lwn : ∀ k, k < 4096 → 0 < k → ntz (nI k) = nI (lwn (nI k)) := by_64 (P := fun k => 0 < k → ntz (nI k) = nI (lwn (nI k))) ntz_two
theorem ntz_fn (x : Int32) (σ : WD) : f_J6_numberOfTrailingZeros_0f7a4 x σ = some (ntz x) := by
  unfold f_J6_numberOfTrailingZeros_0f7a4 f_J6_numberOfTrailingZeros_0f7a4_34 f_J6_numberOfTrailingZeros_0f7a4_49 f_J6_numberOfTrailingZeros_0f7a4_62 f_J6_numberOfTrailingZeros_0f7a4_74 ntz li
  dsimp only
  repeat' split
  all_goals first | rfl | (dsimp only; repeat' split) <;> first | rfl | simp_all
theorem numTZ_eq {x : Int32} (h : Bd 12 x) (h0 : x ≠ 0) (σ : WD) : f_J6_numberOfTrailingZeros_0f7a4 x σ = some (nI (lwn x)) := by
  rw [ntz_fn]
  obtain ⟨k, hk, rfl⟩ := bd_nat h
  rw [ntz_lwn k hk (by rcases Nat.eq_zero_or_pos k with rfl | h; exact absurd rfl h0; exact h)]
