/-! PURE: what the reference tells -/
theorem b01 {P : Int32 → Prop} {b : Bool} (h : P (if b then 1 else 0)) : (((if b then (1 : Int32) else 0) = 0) → P 0) ∧ ((¬ (if b then (1 : Int32) else 0) = 0) → P 1) := by
  cases b
  · exact ⟨fun _ => h, fun z => absurd rfl z⟩
  · exact ⟨fun z => absurd z one0, fun _ => h⟩
theorem pcF_step (n k : Nat) : pcF n (k + 1) = if n.testBit k then pcF n k + 1 else pcF n k := by
  show pcF n k + _ = _
  cases n.testBit k <;> rfl
theorem z_size {n : Nat} {P : Int32 → Prop} (hn : n < 2 ^ 31) (hP : P (nI (pc n))) : wp_X9_size (nI n) P := by
  refine loop_f (fun k i s => wp_X9_size_L4 (nI n) P k s i) 10 (fun i => nI (pcF n i)) ?_ ?_
  · intro k; exact ⟨fun _ => hP, fun z => absurd (ge_self _) z⟩
  · intro k i hi ih
    refine ⟨fun z => absurd z (ge_no hi (by decide)), fun _ => ?_⟩
    rintro _ rfl _ rfl
    rw [q_has1 hn (by omega), nI_s]
    rw [pcF_step] at ih
    cases hb : n.testBit i <;> rw [hb] at ih
    · show wp_X9_size_L4 (nI n) P k (nI (pcF n i) + 0) _
      rw [add0]; exact ih
    · show wp_X9_size_L4 (nI n) P k (nI (pcF n i) + 1) _
      rw [nI_s]; exact ih
theorem pcF_doors (L : LoS) (h : Nat) {k : Nat} (hk : k < 10) : pcF (doors L h) (k + 1) = if jn L k h then pcF (doors L h) k + 1 else pcF (doors L h) k := by
  rw [pcF_step, doors_bit]
  simp [hk]
def giF (g : Nat → Nat) (h : Nat) : Nat → Nat
  | 0 => 0
  | i + 1 => if g i = h then giF g h i + 1 else giF g h i
theorem s_howManyIn {v : GuV} {G : GuS} {h : Nat} {P : Int32 → Prop} (R : rGu v G) (hok : ∀ i, i < 3 → G.1 i < 6 ∧ G.2.1 i < 1024) (hh : h < 6) (hP : P (nI (giF G.1 h 3))) : wp_X1_howManyIn v (nI h) P := by
  refine loop_f (fun k i s => wp_X1_howManyIn_L4 v (nI h) P k s i) 3 (fun i => nI (giF G.1 h i)) ?_ ?_
  · intro k; exact ⟨fun _ => hP, fun z => absurd (ge_self _) z⟩
  · intro k i hi ih
    have := (hok i hi).1
    refine ⟨fun z => absurd z (ge_no hi (by decide)), fun _ => ?_⟩
    rw [q_in (by omega), nI_clamp (by omega), (R i hi).1, q_eq (by omega) (by omega), nI_s]
    refine ⟨hi, fun z => ?_, fun z => ?_⟩
    · rintro _ rfl
      simpa [giF, z] using ih
    · rintro _ rfl _ rfl
      rw [nI_s]
      simpa [giF, z] using ih
section ZReads
variable {v : ModV} {σ : SS2} {d g h n : Nat} {P : Int32 → Prop}
theorem z_doorsOf (R : rZ v.1 σ) (hok : okL σ.1) (hh : h < 6) (hP : P (nI (pc (doors σ.1 h)))) : wp_X9_doorsOf v (nI h) P := by
  refine loop_f (fun k i s => wp_X9_doorsOf_L4 v (nI h) P k s i) 10 (fun i => nI (pcF (doors σ.1 h) i)) ?_ ?_
  · intro k; exact ⟨fun _ => hP, fun z => absurd (ge_self _) z⟩
  · intro k i hi ih
    rw [pcF_doors σ.1 h hi] at ih
    refine ⟨fun z => absurd z (ge_no hi (by decide)), fun _ => z_joins R hok hi hh ?_⟩
    cases hc : jn σ.1 i h <;> rw [hc] at ih
    · refine ⟨fun _ => ?_, fun y => absurd rfl y⟩
      rintro _ rfl _ rfl
      rw [nI_s, add0]; exact ih
    · refine ⟨fun y => absurd y one0, fun _ => ?_⟩
      rintro _ rfl _ rfl
      rw [nI_s, nI_s]; exact ih
theorem z_guestsIn (R : rZ v.1 σ) (hok : okS σ) (hh : h < 6) (hP : P (nI (giF σ.2.2.1.1 h 3))) : wp_X9_guestsIn v (nI h) P := by
  refine loop_f (fun k i s => wp_X9_guestsIn_L4 v (nI h) P k s i) 3 (fun i => nI (giF σ.2.2.1.1 h i)) ?_ ?_
  · intro k; exact ⟨fun _ => hP, fun z => absurd (ge_self _) z⟩
  · intro k i hi ih
    have := (hok.2.2.2 i hi).1
    refine ⟨fun z => absurd z (ge_no hi (by decide)), fun _ => z_ofGuest R hi 0 (by decide) ?_⟩
    show ((¬ nI (σ.2.2.1.1 i) = nI h) → _) ∧ ((nI (σ.2.2.1.1 i) = nI h) → _)
    rw [q_eq (by omega) (by omega)]
    refine ⟨fun z => ?_, fun z => ?_⟩
    · rintro _ rfl _ rfl
      rw [nI_s, add0]
      simpa [giF, z] using ih
    · rintro _ rfl _ rfl
      rw [nI_s, nI_s]
      simpa [giF, z] using ih
theorem bo_eq (L : LoS) (d : Nat) : 2 ^ L.2.2.1 d ||| 2 ^ L.2.2.2.1 d = bo L d := by
  unfold bo
  rcases Nat.le_total (L.2.2.1 d) (L.2.2.2.1 d) with z | z
  · rw [Nat.min_eq_left z, Nat.max_eq_right z]
  · rw [Nat.min_eq_right z, Nat.max_eq_left z, Nat.or_comm]
theorem or0 (x : Int32) : x ||| (0 : Int32) = x := Int32.or_zero
theorem z_hangs15 {r s : Nat} {K : Int32 → Int32 → Prop} (R : rZ v.1 σ) (hok : okL σ.1) (hr : r < 6) (hs : s < 64) (hK : K (nI (hrF σ.1 σ.2.1 s 10)) (nI (r + 1))) : ∃ k, wp_X9_hangs_L15 v (nI r) P K k (nI s) (0 : Int32) := by
  refine loop_f (fun k i s => wp_X9_hangs_L15 v (nI r) P K k s i) 10 (fun i => nI (hrF σ.1 σ.2.1 s i)) ?_ ?_
  · intro k
    refine ⟨fun _ => ?_, fun z => absurd (ge_self _) z⟩
    rintro _ rfl
    rw [nI_s]
    exact hK
  · intro k i hi ih
    have hk := hok.1 i hi
    refine ⟨fun z => absurd z (ge_no hi (by decide)), fun _ => z_of R hi 1 (by decide) (z_of R hi 2 (by decide) ?_)⟩
    rintro _ rfl
    show wp_X9_isOpen v (nI i) _
    rw [show zD σ i 1 = nI (σ.1.2.2.1 i) from rfl, show zD σ i 2 = nI (σ.1.2.2.2.1 i) from rfl, q_sh1 (by omega), q_sh1 (by omega), q_or, bo_eq]
    have e : hrF σ.1 σ.2.1 s (i + 1) = hst σ.1 σ.2.1 (hrF σ.1 σ.2.1 s i) i := rfl
    rw [e] at ih
    unfold hst at ih
    refine z_isOpen R hi ?_
    cases hc : σ.2.1.testBit i <;> rw [hc] at ih
    · refine ⟨fun _ => ?_, fun z => absurd rfl z⟩
      rintro _ rfl _ rfl
      rw [nI_s, or0]
      exact ih
    · have hb : bo σ.1 i < 64 := bo_lt hok hi
      refine ⟨fun z => absurd z one0, fun _ => ?_⟩
      rw [q_and, l0, q_eq (by have := @Nat.and_le_right (hrF σ.1 σ.2.1 s i) (bo σ.1 i); omega) (by decide)]
      refine ⟨fun z => ?_, fun z => ?_⟩
      · rintro _ rfl _ rfl
        rw [nI_s, ← l0, or0]
        simpa [z] using ih
      · rintro _ rfl _ rfl
        rw [nI_s, q_or]
        simpa [z] using ih
theorem z_hangs (R : rZ v.1 σ) (hok : okL σ.1) (hh : h < 6) (hP : P (nI (hf σ.1 σ.2.1 h))) : wp_X9_hangs v (nI h) P := by
  rintro _ rfl
  rw [q_sh1 (by omega)]
  refine loop_f (fun k i s => wp_X9_hangs_L6 v P k s i) 6 (fun i => nI (hfF σ.1 σ.2.1 h i)) ?_ ?_
  · intro k; exact ⟨fun _ => hP, fun z => absurd (ge_self _) z⟩
  · intro k i hi ih
    exact ⟨fun z => absurd z (ge_no hi (by decide)), fun _ => z_hangs15 R hok hi (hfF_lt hok hh i) ih⟩
theorem z_canOpen (R : rZ v.1 σ) (hok : okS σ) (hg : g < 3) (hP : P (nI (hmF σ g 10))) : wp_X9_canOpen v (nI g) P := by
  refine loop_f (fun k i s => wp_X9_canOpen_L4 v (nI g) P k s i) 10 (fun i => nI (hmF σ g i)) ?_ ?_
  · intro k; exact ⟨fun _ => hP, fun z => absurd (ge_self _) z⟩
  · intro k i hi ih
    refine ⟨fun z => absurd z (ge_no hi (by decide)), fun _ => z_isAt R hok hg hi ?_⟩
    unfold hmF rsnG at ih
    cases h1 : jn σ.1 i (σ.2.2.1.1 g) <;> rw [h1] at ih
    · refine ⟨fun _ => ?_, fun y => absurd rfl y⟩
      rintro _ rfl _ rfl
      rw [nI_s, add0]; exact ih
    · refine ⟨fun y => absurd y one0, fun _ => z_hasKey R hok hg hi ?_⟩
      cases h2 : (σ.2.2.1.2.1 g).testBit i <;> rw [h2] at ih
      · refine ⟨fun _ => ?_, fun y => absurd rfl y⟩
        rintro _ rfl _ rfl
        rw [nI_s, add0]; exact ih
      · refine ⟨fun y => absurd y one0, fun _ => z_reason R hok.1 hi ?_⟩
        have h7 := rsn_lt σ.1 σ.2.1 i
        rw [l0, q_eq (by omega) (by decide)]
        refine ⟨fun z => ?_, fun z => ?_⟩
        · rintro _ rfl _ rfl
          rw [nI_s, ← l0, add0]
          simpa [z] using ih
        · rintro _ rfl _ rfl
          rw [nI_s, nI_s]
          simpa [z] using ih
/-- sets of doors that can be, as the reference asks -/
def cpF (L : LoS) (n d : Nat) : Nat → Bool
  | 0 => true
  | e + 1 => cpF L n d e && !(n.testBit d && n.testBit e && (tg L d).testBit e)
def cdF (L : LoS) (n : Nat) : Nat → Bool
  | 0 => true
  | d + 1 => cdF L n d && cpF L n d 10
theorem cpF_iff (L : LoS) (n d : Nat) : ∀ k, cpF L n d k = true ↔ ∀ e, e < k → ¬ (n.testBit d = true ∧ n.testBit e = true ∧ (tg L d).testBit e = true)
  | 0 => by simp [cpF]
  | k + 1 => by
    unfold cpF
    rw [Bool.and_eq_true, cpF_iff L n d k]
    constructor
    · rintro ⟨h1, h2⟩ e he ⟨a, b, c⟩
      by_cases hek : e = k
      · subst hek; rw [a, b, c] at h2; cases h2
      · exact h1 e (by omega) ⟨a, b, c⟩
    · intro h
      refine ⟨fun e he => h e (by omega), ?_⟩
      have := h k (by omega)
      cases x : n.testBit d <;> cases y : n.testBit k <;> cases z : (tg L d).testBit k <;> simp_all
theorem cdF_iff (L : LoS) (n : Nat) : ∀ k, cdF L n k = true ↔ ∀ d, d < k → cpF L n d 10 = true
  | 0 => by simp [cdF]
  | k + 1 => by
    unfold cdF
    rw [Bool.and_eq_true, cdF_iff L n k]
    constructor
    · rintro ⟨h1, h2⟩ e he
      by_cases hek : e = k
      · subst hek; exact h2
      · exact h1 e (by omega)
    · intro h
      exact ⟨fun e he => h e (by omega), h k (by omega)⟩
theorem cdF_held (L : LoS) (n : Nat) : cdF L n 10 = decide (held L n &&& n = 0) := by
  rw [Bool.eq_iff_iff, decide_eq_true_eq, indep_iff, cdF_iff]
  constructor
  · intro h j e hj h1 h2
    cases h3 : n.testBit e with
    | false => rfl
    | true =>
      have he : e < 10 := by
        rw [tg_bit, Bool.and_eq_true] at h2
        exact of_decide_eq_true h2.2
      exact absurd ⟨h1, h3, h2⟩ ((cpF_iff L n j 10).mp (h j hj) e he)
  · intro h d hd
    refine (cpF_iff L n d 10).mpr ?_
    rintro e he ⟨h1, h2, h3⟩
    rw [h d e hd h1 h3] at h2
    cases h2
theorem bit2 {n d e : Nat} (hn : n < 2 ^ 31) (hd : d < 31) (he : e < 31) : (((nI n >>> (nI d &&& 31)) &&& (nI n >>> (nI e &&& 31))) &&& (1 : Int32) = 0) = ((n.testBit d && n.testBit e) = false) := by
  have hle : n / 2 ^ d ≤ n := Nat.div_le_self _ _
  have hle2 := @Nat.and_le_left (n / 2 ^ d) (n / 2 ^ e)
  rw [q_shr hn hd, q_shr hn he, q_and, l1, q_and, l0, q_eq (by have := @Nat.and_le_right (n / 2 ^ d &&& n / 2 ^ e) 1; omega) (by decide), Nat.and_one_is_mod]
  have h1 : (n / 2 ^ d &&& n / 2 ^ e).testBit 0 = (n.testBit d && n.testBit e) := by
    rw [Nat.testBit_and, Nat.testBit_div_two_pow, Nat.testBit_div_two_pow, Nat.zero_add, Nat.zero_add]
  rw [← h1, Nat.testBit_zero]
  apply propext
  rw [decide_eq_false_iff_not]
  omega
theorem z_canBe13 {K : Int32 → Int32 → Prop} (R : rZ v.1 σ) (hok : okL σ.1) (hn : n < 1024) (hd : d < 10) {b : Bool} (hK : K (if b && cpF σ.1 n d 10 then 1 else 0) (nI (d + 1))) : ∃ k, wp_X9_canBe_L13 v (nI n) (nI d) P K k (if b then 1 else 0) (0 : Int32) := by
  have h := loop_f (fun k i s => wp_X9_canBe_L13 v (nI n) (nI d) P K k s i) 10 (fun i => if b && cpF σ.1 n d i then (1 : Int32) else 0) ?_ ?_
  · have e : (if b && cpF σ.1 n d 0 then (1 : Int32) else 0) = if b then 1 else 0 := by rw [show cpF σ.1 n d 0 = true from rfl, Bool.and_true]
    rw [e] at h
    exact h
  · intro k
    refine ⟨fun _ => ?_, fun z => absurd (ge_self _) z⟩
    rintro _ rfl
    rw [nI_s]
    exact hK
  · intro k i hi ih
    have e : (b && cpF σ.1 n d (i + 1)) = ((b && cpF σ.1 n d i) && !(n.testBit d && n.testBit i && (tg σ.1 d).testBit i)) := by
      exact (Bool.and_assoc b (cpF σ.1 n d i) _).symm
    rw [e] at ih
    refine ⟨fun z => absurd z (ge_no hi (by decide)), fun _ => ?_⟩
    cases hx : (b && cpF σ.1 n d i) <;> rw [hx] at ih
    · refine ⟨fun _ => ?_, fun z => absurd rfl z⟩
      rintro _ rfl
      rw [nI_s]
      exact ih
    · refine ⟨fun z => absurd z one0, fun _ => ?_⟩
      rw [bit2 (by omega) (by omega) (by omega)]
      cases hy : (n.testBit d && n.testBit i) <;> rw [hy] at ih
      · refine ⟨fun _ => ?_, fun z => absurd rfl z⟩
        rintro _ rfl
        rw [nI_s]
        exact ih
      · refine ⟨fun z => absurd z (by decide), fun _ => z_goesTo R hok hd hi ?_⟩
        cases hz : (tg σ.1 d).testBit i <;> rw [hz] at ih
        · refine ⟨fun z => absurd rfl z, fun _ => ?_⟩
          rintro _ rfl
          rw [nI_s]
          exact ih
        · refine ⟨fun _ => ?_, fun z => absurd z one0⟩
          rintro _ rfl
          rw [nI_s]
          exact ih
theorem z_canBe79 {K : Int32 → Int32 → Prop} (R : rZ v.1 σ) (hok : okL σ.1) (hn : n < 1024) (hh : h < 6) {b : Bool} (hK : K (if b && !tooMany σ.1 h n then 1 else 0) (nI (h + 1))) : ∃ k, wp_X9_canBe_L79 v (nI n) (if b then 1 else 0) (nI h) P K k (0 : Int32) (0 : Int32) := by
  refine loop_f (fun k i s => wp_X9_canBe_L79 v (nI n) (if b then 1 else 0) (nI h) P K k s i) 10 (fun i => nI (pcF (doors σ.1 h &&& n) i)) ?_ ?_
  · intro k
    refine ⟨fun _ => ?_, fun z => absurd (ge_self _) z⟩
    cases b
    · refine ⟨fun _ => ?_, fun z => absurd rfl z⟩
      rintro _ rfl
      rw [nI_s]
      exact hK
    · refine ⟨fun z => absurd z one0, fun _ => ⟨in85 (k := 0) (by decide), ?_⟩⟩
      have e0 : v.1 (0 : Int32).toNatClampNeg = nI σ.1.2.2.2.2 := rZ_H R (i := 0) (by decide)
      have h1 := pc_le (doors σ.1 h &&& n)
      have h2 := hok.2.2
      have e1 : (nI σ.1.2.2.2.2 < nI (pcF (doors σ.1 h &&& n) 10)) = (σ.1.2.2.2.2 < pc (doors σ.1 h &&& n)) := q_lt (by omega) (by unfold pc at h1; omega)
      rw [e0, e1]
      unfold tooMany at hK
      refine ⟨fun z => ?_, fun z => ?_⟩
      · rintro _ rfl
        rw [nI_s]
        simpa [z] using hK
      · rintro _ rfl
        rw [nI_s]
        simpa [z] using hK
  · intro k i hi ih
    rw [pcF_and σ.1 h n hi] at ih
    refine ⟨fun z => absurd z (ge_no hi (by decide)), fun _ => ?_⟩
    rw [q_has1 (by omega) (by omega)]
    cases hb : n.testBit i <;> rw [hb] at ih
    · refine ⟨fun _ => ?_, fun z => absurd z (by decide)⟩
      rintro _ rfl _ rfl
      rw [nI_s, add0]
      exact ih
    · refine ⟨fun z => absurd rfl z, fun _ => z_joins R hok hi hh ?_⟩
      cases hc : jn σ.1 i h <;> rw [hc] at ih
      · refine ⟨fun _ => ?_, fun y => absurd rfl y⟩
        rintro _ rfl _ rfl
        rw [nI_s, add0]
        exact ih
      · refine ⟨fun y => absurd y one0, fun _ => ?_⟩
        rintro _ rfl _ rfl
        rw [nI_s, nI_s]
        exact ih
theorem nb01 (b : Bool) : narrow .boolean (.int (if b then (1 : Int32) else 0)) = .int (if b then (1 : Int32) else 0) := by cases b <;> rfl
theorem z_canBe (R : rZ v.1 σ) (hok : okL σ.1) (hn : n < 1024) (hP : P (if canB σ.1 n then 1 else 0)) : wp_X9_canBe v (nI n) P := by
  have part2 : ∀ b : Bool, P (if b && cbF σ.1 n 6 then 1 else 0) → ∃ k, wp_X9_canBe_L67 v (nI n) P k (if b then 1 else 0) (0 : Int32) := by
    intro b hb
    have h := loop_f (fun k i s => wp_X9_canBe_L67 v (nI n) P k s i) 6 (fun i => if b && cbF σ.1 n i then (1 : Int32) else 0) ?_ ?_
    · have e : (if b && cbF σ.1 n 0 then (1 : Int32) else 0) = if b then 1 else 0 := by rw [show cbF σ.1 n 0 = true from rfl, Bool.and_true]
      rw [e] at h
      exact h
    · intro k
      exact ⟨fun _ => ⟨nb01 _, hb⟩, fun z => absurd (ge_self _) z⟩
    · intro k i hi ih
      have e : (b && cbF σ.1 n (i + 1)) = ((b && cbF σ.1 n i) && !tooMany σ.1 i n) := by
        show (b && (cbF σ.1 n i && _)) = _
        rw [Bool.and_assoc]
      rw [e] at ih
      exact ⟨fun z => absurd z (ge_no hi (by decide)), fun _ => z_canBe79 R hok hn hi ih⟩
  refine loop_f (fun k i s => wp_X9_canBe_L4 v (nI n) P k s i) 10 (fun i => if cdF σ.1 n i then (1 : Int32) else 0) ?_ ?_
  · intro k
    refine ⟨fun _ => part2 _ ?_, fun z => absurd (ge_self _) z⟩
    rw [cdF_held]
    exact hP
  · intro k i hi ih
    exact ⟨fun z => absurd z (ge_no hi (by decide)), fun _ => z_canBe13 R hok hn hi ih⟩
end ZReads
