/-! PURE: numbers -/
theorem l0 : (0 : Int32) = nI 0 := rfl
theorem l1 : (1 : Int32) = nI 1 := rfl
theorem l2 : (2 : Int32) = nI 2 := rfl
theorem l3 : (3 : Int32) = nI 3 := rfl
theorem l4 : (4 : Int32) = nI 4 := rfl
theorem l5 : (5 : Int32) = nI 5 := rfl
theorem l6 : (6 : Int32) = nI 6 := rfl
theorem l7 : (7 : Int32) = nI 7 := rfl
theorem l10 : (10 : Int32) = nI 10 := rfl
theorem l60 : (60 : Int32) = nI 60 := rfl
theorem l85 : (85 : Int32) = nI 85 := rfl
theorem l1023 : (1023 : Int32) = nI 1023 := rfl
theorem l1024 : (1024 : Int32) = nI 1024 := rfl
theorem l6144 : (6144 : Int32) = nI 6144 := rfl
theorem q_le {a b : Nat} (ha : a < 2 ^ 31) (hb : b < 2 ^ 31) : (nI a ≤ nI b) = (a ≤ b) := propext (nI_leI ha hb)
theorem q_lt {a b : Nat} (ha : a < 2 ^ 31) (hb : b < 2 ^ 31) : (nI a < nI b) = (a < b) := propext (nI_ltI ha hb)
theorem q_eq {a b : Nat} (ha : a < 2 ^ 31) (hb : b < 2 ^ 31) : (nI a = nI b) = (a = b) := propext (nI_eq ha hb)
theorem q_in {a N : Nat} (ha : a < 2 ^ 31) : vp_in (nI a) N = (a < N) := by
  unfold vp_in
  rw [nI_clamp ha]
  have h1 : ¬ nI a < 0 := nI_pos ha
  apply propext
  constructor
  · intro h
    exact Nat.not_le.mp (fun z => h (Or.inr z))
  · rintro h (z | z)
    · exact h1 z
    · omega
theorem q_and (a b : Nat) : nI a &&& nI b = nI (a &&& b) := by
  show Int32.ofNat a &&& Int32.ofNat b = Int32.ofNat (a &&& b)
  apply Int32.toBitVec_inj.mp
  rw [Int32.toBitVec_and, Int32.toBitVec_ofNat', Int32.toBitVec_ofNat', Int32.toBitVec_ofNat', BitVec.ofNat_and]
theorem q_or (a b : Nat) : nI a ||| nI b = nI (a ||| b) := by
  show Int32.ofNat a ||| Int32.ofNat b = Int32.ofNat (a ||| b)
  apply Int32.toBitVec_inj.mp
  rw [Int32.toBitVec_or, Int32.toBitVec_ofNat', Int32.toBitVec_ofNat', Int32.toBitVec_ofNat', BitVec.ofNat_or]
/-- set difference -/
def dif (a b : Nat) : Nat := a ^^^ (a &&& b)
theorem dif_bit (a b i : Nat) : (dif a b).testBit i = (a.testBit i && !b.testBit i) := by
  unfold dif
  rw [Nat.testBit_xor, Nat.testBit_and]
  cases a.testBit i <;> cases b.testBit i <;> rfl
theorem q_andn (a b : Nat) : nI a &&& (nI b ^^^ (-1 : Int32)) = nI (dif a b) := by
  show Int32.ofNat a &&& (Int32.ofNat b ^^^ (-1 : Int32)) = Int32.ofNat (dif a b)
  apply Int32.toBitVec_inj.mp
  rw [Int32.toBitVec_and, Int32.toBitVec_xor, Int32.toBitVec_ofNat', Int32.toBitVec_ofNat', Int32.toBitVec_ofNat']
  apply BitVec.eq_of_getLsbD_eq
  intro i hi
  rw [BitVec.getLsbD_and, BitVec.getLsbD_xor, BitVec.getLsbD_ofNat, BitVec.getLsbD_ofNat, BitVec.getLsbD_ofNat, dif_bit]
  have h1 : ((-1 : Int32).toBitVec).getLsbD i = true := by
    rw [show (-1 : Int32).toBitVec = BitVec.allOnes 32 from rfl, BitVec.getLsbD_allOnes]
    simpa using hi
  rw [h1]
  cases a.testBit i <;> cases b.testBit i <;> simp [hi]
theorem q_shl {k : Nat} (h : k < 31) : nI 1 <<< (nI k &&& 31) = nI (2 ^ k) := by
  revert h; revert k; decide +kernel
theorem q_shr {n k : Nat} (hn : n < 2 ^ 31) (h : k < 31) : nI n >>> (nI k &&& 31) = nI (n / 2 ^ k) := by
  refine pk_shrN hn _ k ?_
  revert h; revert k; decide +kernel
theorem q_has {n d : Nat} (hn : n < 2 ^ 31) (hd : d < 31) : ((nI n >>> (nI d &&& 31)) &&& (1 : Int32) = 0) = (n.testBit d = false) := by
  rw [q_shr hn hd, l1, q_and, l0, q_eq (by have := @Nat.and_le_right (n / 2 ^ d) 1; omega) (by decide), Nat.and_one_is_mod]
  rw [Nat.testBit_eq_decide_div_mod_eq]
  apply propext
  simp only [decide_eq_false_iff_not]
  omega
theorem q_has1 {n d : Nat} (hn : n < 2 ^ 31) (hd : d < 31) : (nI n >>> (nI d &&& 31)) &&& (1 : Int32) = if n.testBit d then 1 else 0 := by
  rw [q_shr hn hd, l1, q_and, Nat.and_one_is_mod, Nat.testBit_eq_decide_div_mod_eq]
  by_cases h : n / 2 ^ d % 2 = 1
  · simp [h]
  · rw [show n / 2 ^ d % 2 = 0 by omega]; rfl
/-- sets of doors, or halls, as bits; how many -/
def pcF (n : Nat) : Nat → Nat
  | 0 => 0
  | k + 1 => pcF n k + (if n.testBit k then 1 else 0)
def pc (n : Nat) : Nat := pcF n 10
theorem pcF_le (n : Nat) : ∀ k, pcF n k ≤ k
  | 0 => Nat.le_refl 0
  | k + 1 => by have := pcF_le n k; unfold pcF; split <;> omega
theorem pc_le (n : Nat) : pc n ≤ 10 := pcF_le n 10
def bcE (x : Int32) : Int32 :=
  let z1 := x - (((x.toUInt32 >>> ((1 : Int32).toUInt32 &&& Int32.toUInt32 31)).toInt32) &&& (1431655765 : Int32))
  let z2 := (z1 &&& (858993459 : Int32)) + (((z1.toUInt32 >>> ((2 : Int32).toUInt32 &&& Int32.toUInt32 31)).toInt32) &&& (858993459 : Int32))
  let z3 := (z2 + ((z2.toUInt32 >>> ((4 : Int32).toUInt32 &&& Int32.toUInt32 31)).toInt32)) &&& (252645135 : Int32)
  let z4 := z3 + ((z3.toUInt32 >>> ((8 : Int32).toUInt32 &&& Int32.toUInt32 31)).toInt32)
  let z5 := z4 + ((z4.toUInt32 >>> ((16 : Int32).toUInt32 &&& Int32.toUInt32 31)).toInt32)
  z5 &&& (63 : Int32)
set_option maxRecDepth 100000 in
theorem bc_ok : ∀ n : Nat, n < 1024 → bcE (nI n) = nI (pc n) := by decide +kernel
theorem s_bitCount {n : Nat} (hn : n < 1024) {Q : Int32 → Prop} (h : Q (nI (pc n))) : wp_J6_bitCount_0f7a4 (nI n) Q := by
  rw [← bc_ok n hn] at h
  rintro _ rfl _ rfl _ rfl _ rfl _ rfl
  exact h
/-- the lowest of a set, as a set -/
def lowF (m : Nat) : Nat → Nat
  | 0 => 0
  | k + 1 => if lowF m k = 0 then (if m.testBit k then 2 ^ k else 0) else lowF m k
def lowb (m : Nat) : Nat := lowF m 10
set_option maxRecDepth 100000 in
theorem q_low : ∀ m : Nat, m < 1024 → nI m &&& -(nI m) = nI (lowb m) := by decide +kernel
theorem loop_f {σ : Type} (W : Nat → Int32 → σ → Prop) (N : Nat) (f : Nat → σ) (hx : ∀ n, W (n + 1) (nI N) (f N)) (hs : ∀ n i, i < N → W n (nI (i + 1)) (f (i + 1)) → W (n + 1) (nI i) (f i)) : ∃ n, W n (0 : Int32) (f 0) := by
  have h : ∀ k i, i + k = N → W (k + 1) (nI i) (f i) := by
    intro k
    induction k with
    | zero => intro i hi; rw [Nat.add_zero] at hi; subst hi; exact hx 0
    | succ k ih => intro i hi; exact hs _ i (by omega) (ih (i + 1) (by omega))
  exact ⟨N + 1, h N 0 (by omega)⟩
theorem bit_lt {n k : Nat} (h : ∀ i, k ≤ i → n.testBit i = false) : n < 2 ^ k := by
  apply Nat.lt_pow_two_of_testBit
  exact h
theorem and_lt {a b k : Nat} (h : a < 2 ^ k) : a &&& b < 2 ^ k := Nat.lt_of_le_of_lt Nat.and_le_left h
theorem or_lt {a b k : Nat} (h : a < 2 ^ k) (h2 : b < 2 ^ k) : a ||| b < 2 ^ k := Nat.or_lt_two_pow h h2
theorem dif_lt {a b k : Nat} (h : a < 2 ^ k) : dif a b < 2 ^ k := by
  unfold dif
  exact Nat.xor_lt_two_pow h (and_lt h)
theorem p2_lt {d : Nat} (h : d < 10) : 2 ^ d < 1024 := by
  have : 2 ^ d < 2 ^ 10 := Nat.pow_lt_pow_right (by decide) h
  exact this
