/-! PURE: small things -/
theorem one0 : ¬ (1 : Int32) = 0 := by decide
def cdv (c : Nat) : Int32 := if c = 10 then -4 else nI c
theorem updS {f : Nat → Int32} {k : Nat} {x : Int32} : upd f k x k = x := if_pos rfl
theorem updO {f : Nat → Int32} {k j : Nat} {x : Int32} (h : j ≠ k) : upd f k x j = f j := if_neg h
theorem q_mul (a b : Nat) : nI a * nI b = nI (a * b) := pk_mul a b
theorem cdv_eq {c e : Nat} (hc : c ≤ 10) (he : e < 10) : (cdv c = nI e) = (c = e) := by
  unfold cdv
  by_cases h : c = 10
  · rw [if_pos h]
    apply propext
    constructor
    · intro z
      have hh : ∀ i, i < 10 → ¬ (-4 : Int32) = nI i := by decide
      exact absurd z (hh e he)
    · intro z; omega
  · rw [if_neg h, q_eq (by omega) (by omega)]
theorem b1023 {i : Nat} (h : i < 10) : (1023 : Nat).testBit i = true := by
  rw [show (1023 : Nat) = 2 ^ 10 - 1 from rfl, Nat.testBit_two_pow_sub_one]
  simpa using h
theorem add0 (x : Int32) : x + (0 : Int32) = x := Int32.add_zero x
theorem ctF_le (L : LoS) (t n : Nat) : ∀ i, ctF L t n i ≤ i
  | 0 => Nat.le_refl 0
  | i + 1 => by have := ctF_le L t n i; unfold ctF; split <;> omega
theorem ctF_0 (L : LoS) (t n : Nat) : ∀ i, ctF L t n i = 0 ↔ (heldF L n i).testBit t = false
  | 0 => by simp [ctF, heldF]
  | i + 1 => by
    have ih := ctF_0 L t n i
    unfold ctF heldF
    cases h1 : n.testBit i
    · simpa using ih
    · cases h2 : (tg L i).testBit t
      · simpa [Nat.testBit_or, h2] using ih
      · simp [Nat.testBit_or, h2]
theorem pcF_and (L : LoS) (h n : Nat) {k : Nat} (hk : k < 10) : pcF (doors L h &&& n) (k + 1) = if n.testBit k && jn L k h then pcF (doors L h &&& n) k + 1 else pcF (doors L h &&& n) k := by
  show pcF (doors L h &&& n) k + _ = _
  rw [Nat.testBit_and, doors_bit]
  cases n.testBit k <;> cases jn L k h <;> simp [hk]
theorem b01 {P : Int32 → Prop} {b : Bool} (h : P (if b then 1 else 0)) : (((if b then (1 : Int32) else 0) = 0) → P 0) ∧ ((¬ (if b then (1 : Int32) else 0) = 0) → P 1) := by
  cases b
  · exact ⟨fun _ => h, fun z => absurd rfl z⟩
  · exact ⟨fun z => absurd z one0, fun _ => h⟩
theorem pcF_step (n k : Nat) : pcF n (k + 1) = if n.testBit k then pcF n k + 1 else pcF n k := by
  show pcF n k + _ = _
  cases n.testBit k <;> rfl
theorem pcF_doors (L : LoS) (h : Nat) {k : Nat} (hk : k < 10) : pcF (doors L h) (k + 1) = if jn L k h then pcF (doors L h) k + 1 else pcF (doors L h) k := by
  rw [pcF_step, doors_bit]
  simp [hk]
def giF (g : Nat → Nat) (h : Nat) : Nat → Nat
  | 0 => 0
  | i + 1 => if g i = h then giF g h i + 1 else giF g h i
theorem s_howManyIn {v : GuV} {G : GuS} {h : Nat} {P : Int32 → Prop} (R : rGu v G) (hok : ∀ i, i < 3 → G.1 i < 6 ∧ G.2.1 i < 1024) (hh : h < 6) (hP : P (nI (giF G.1 h 3))) : wp_X1_howManyIn v (nI h) P := by
  refine loop_f (fun k i s => wp_X1_howManyIn_L4 v (nI h) P k s i) 3 (fun i => nI (giF G.1 h i)) ?_ ?_
  · intro k; exact ⟨fun _ => hP, fun z => absurd (ge_self _) z⟩
  · intro k i hi ih
    have := (hok i hi).1
    refine ⟨fun z => absurd z (ge_no hi (by decide)), fun _ => ?_⟩
    rw [q_in (by omega), nI_clamp (by omega), (R i hi).1, q_eq (by omega) (by omega), nI_s]
    refine ⟨hi, fun z => ?_, fun z => ?_⟩
    · rintro _ rfl
      simpa [giF, z] using ih
    · rintro _ rfl _ rfl
      rw [nI_s]
      simpa [giF, z] using ih
theorem nb01 (b : Bool) : narrow .boolean (.int (if b then (1 : Int32) else 0)) = .int (if b then (1 : Int32) else 0) := by cases b <;> rfl
theorem bits_eq {a b : Nat} (h : ∀ i, a.testBit i = b.testBit i) : a = b := Nat.eq_of_testBit_eq h
theorem pcF_or {a b : Nat} (h : ∀ i, ¬ (a.testBit i = true ∧ b.testBit i = true)) : ∀ k, pcF (a ||| b) k = pcF a k + pcF b k
  | 0 => rfl
  | k + 1 => by
    unfold pcF
    rw [pcF_or h k, Nat.testBit_or]
    have := h k
    cases h1 : a.testBit k <;> cases h2 : b.testBit k
    · simp
    · simp; omega
    · simp; omega
    · exact absurd ⟨h1, h2⟩ this
theorem pc_or {a b : Nat} (h : ∀ i, ¬ (a.testBit i = true ∧ b.testBit i = true)) : pc (a ||| b) = pc a + pc b := pcF_or h 10
theorem pcF_mono {a b : Nat} (h : ∀ i, a.testBit i = true → b.testBit i = true) : ∀ k, pcF a k ≤ pcF b k
  | 0 => Nat.le_refl 0
  | k + 1 => by
    unfold pcF
    have := pcF_mono h k
    cases h1 : a.testBit k
    · simp; omega
    · rw [h k h1]; simp; omega
theorem pc_2 : ∀ j, j < 10 → pc (2 ^ j) = 1 := by decide
theorem p2_bit (d i : Nat) : (2 ^ d).testBit i = decide (d = i) := Nat.testBit_two_pow
theorem bit_ge {n i : Nat} (hn : n < 1024) (hi : 10 ≤ i) : n.testBit i = false := by
  apply Nat.testBit_lt_two_pow
  exact Nat.lt_of_lt_of_le hn (show 2 ^ 10 ≤ 2 ^ i from Nat.pow_le_pow_right (by decide) hi)
theorem dif_self (n : Nat) : dif n n = 0 := bits_eq (fun i => by rw [dif_bit, Nat.zero_testBit]; cases n.testBit i <;> rfl)
theorem pc_0 : pc 0 = 0 := by decide
theorem pc_trans {a b c : Nat} (h1 : ∀ i, b.testBit i = true → a.testBit i = true) (h2 : ∀ i, c.testBit i = true → b.testBit i = true) : pc (dif a c) = pc (dif a b) + pc (dif b c) := by
  rw [← pc_or]
  · congr 1
    refine bits_eq (fun i => ?_)
    rw [Nat.testBit_or, dif_bit, dif_bit, dif_bit]
    have a1 := h1 i
    have a2 := h2 i
    cases x : a.testBit i <;> cases y : b.testBit i <;> cases z : c.testBit i <;> simp_all
  · intro i
    rw [dif_bit, dif_bit]
    cases x : a.testBit i <;> cases y : b.testBit i <;> cases z : c.testBit i <;> simp_all
def rowF (L : LoS) (d : Nat) : Nat → Nat
  | 0 => 0
  | j + 1 => rowF L d j + muP L j d
def qdF (L : LoS) : Nat → Nat
  | 0 => 0
  | d + 1 => qdF L d + rowF L d d
theorem qd_pd (L : LoS) : qdF L 10 = pdF L 10 := by
  simp only [qdF, rowF, pdF, sumFr, Nat.zero_add, Nat.reduceAdd, Nat.reduceSub]
  omega
theorem pc_tg {L : LoS} (hok : okL L) {d : Nat} (hd : d < 10) : pc (tg L d) = (if L.1 d = 10 then 0 else 1) + (if L.2.1 d = 10 then 0 else 1) := by
  have hk := hok.1 d hd
  have key : ∀ a, a < 11 → ∀ b, b < 11 → (a = b → a = 10) → pc ((2 ^ a ||| 2 ^ b) &&& 1023) = (if a = 10 then 0 else 1) + (if b = 10 then 0 else 1) := by decide +kernel
  exact key _ (by omega) _ (by omega) hk.2.2.2.2.1
theorem coF_le {L : LoS} (hok : okL L) (n : Nat) : ∀ k, k ≤ 10 → coF L n k ≤ 2 * k
  | 0, _ => Nat.zero_le _
  | k + 1, h => by
    have := coF_le hok n k (by omega)
    have h2 : pc (tg L k) ≤ 2 := by
      rw [pc_tg hok (by omega)]
      split <;> split <;> omega
    unfold coF
    split <;> omega
theorem cdv_4 {c : Nat} (hc : c ≤ 10) : (cdv c = (-4 : Int32)) = (c = 10) := by
  unfold cdv
  by_cases h : c = 10
  · rw [if_pos h]; simp [h]
  · rw [if_neg h]
    apply propext
    have hh : ∀ i, i < 10 → ¬ nI i = (-4 : Int32) := by decide
    exact ⟨fun z => absurd z (hh c (by omega)), fun z => absurd z h⟩
theorem coF_split (L : LoS) (n : Nat) : ∀ k, k ≤ 10 → coF L 1023 k = coF L n k + coF L (dif 1023 n) k
  | 0, _ => rfl
  | k + 1, h => by
    have ih := coF_split L n k (by omega)
    unfold coF
    rw [dif_bit, b1023 (by omega)]
    cases n.testBit k
    · simp; omega
    · simp; omega
set_option maxRecDepth 100000 in
theorem fp_div : ∀ b, b < 21 → b ≠ 0 → ∀ a, a < 21 → vf_n64 (FP.ddiv (FP.i2d (nI a)) (FP.i2d (nI b))) := by unfold vf_n64; decide +kernel
theorem fp_0 : ∀ b, b < 21 → ((Op.cmpValue (FP.dcmp (FP.i2d (nI b)) FP.dconst0) CmpOp.l) = 0 ↔ b = 0) := by decide +kernel
theorem canB_0 (L : LoS) : canB L 0 = true := by
  unfold canB
  rw [Bool.and_eq_true, decide_eq_true_eq]
  refine ⟨Nat.and_zero _, ?_⟩
  have key : ∀ k, cbF L 0 k = true := by
    intro k
    induction k with
    | zero => rfl
    | succ k ih =>
      unfold cbF
      rw [ih]
      unfold tooMany
      rw [Nat.and_zero, pc_0]
      simp
  exact key 6
theorem heldF_cords {L L' : LoS} (h : ∀ d, tg L' d = tg L d) (n : Nat) : ∀ k, heldF L' n k = heldF L n k
  | 0 => rfl
  | k + 1 => by unfold heldF; rw [heldF_cords h n k, h k]
theorem held_cords {L L' : LoS} (h : ∀ d, tg L' d = tg L d) (n : Nat) : held L' n = held L n := heldF_cords h n 10
theorem dF_halls {L L' : LoS} (g : ∀ d h, jn L' d h = jn L d h) (h : Nat) : ∀ k, dF L' h k = dF L h k
  | 0 => rfl
  | k + 1 => by unfold dF; rw [dF_halls g h k, g k h]
theorem doors_halls {L L' : LoS} (g : ∀ d h, jn L' d h = jn L d h) (h : Nat) : doors L' h = doors L h := dF_halls g h 10
