/-! PURE: count, tightness -/
theorem pc_tg {L : LoS} (hok : okL L) {d : Nat} (hd : d < 10) : pc (tg L d) = (if L.1 d = 10 then 0 else 1) + (if L.2.1 d = 10 then 0 else 1) := by
  have hk := hok.1 d hd
  have key : ∀ a, a < 11 → ∀ b, b < 11 → (a = b → a = 10) → pc ((2 ^ a ||| 2 ^ b) &&& 1023) = (if a = 10 then 0 else 1) + (if b = 10 then 0 else 1) := by decide +kernel
  exact key _ (by omega) _ (by omega) hk.2.2.2.2.1
theorem coF_le {L : LoS} (hok : okL L) (n : Nat) : ∀ k, k ≤ 10 → coF L n k ≤ 2 * k
  | 0, _ => Nat.zero_le _
  | k + 1, h => by
    have := coF_le hok n k (by omega)
    have h2 : pc (tg L k) ≤ 2 := by
      rw [pc_tg hok (by omega)]
      split <;> split <;> omega
    unfold coF
    split <;> omega
theorem cdv_4 {c : Nat} (hc : c ≤ 10) : (cdv c = (-4 : Int32)) = (c = 10) := by
  unfold cdv
  by_cases h : c = 10
  · rw [if_pos h]; simp [h]
  · rw [if_neg h]
    apply propext
    have hh : ∀ i, i < 10 → ¬ nI i = (-4 : Int32) := by decide
    exact ⟨fun z => absurd z (hh c (by omega)), fun z => absurd z h⟩
section Counts
variable {v : ModV} {σ : SS2} {P : Int32 → Prop}
theorem z_cords42 {i : Nat} {x acc : Int32} {t u n : Nat} {b : Bool} {K : Int32 → Int32 → Prop} (Z : rZ v.1 σ) (hi : i < 10) (hx : x = if b then 1 else 0) (hn : n.testBit i = (if b then σ.2.1.testBit i else !σ.2.1.testBit i)) (hK : K (if n.testBit i then acc + nI (t + u) else acc) (nI (i + 1))) : wp_X9_cords_B42 v x acc (nI i) (nI t) (nI u) P K := by
  rintro _ rfl
  refine z_isOpen Z hi ?_
  rw [nI_add, hx]
  cases b <;> cases hb : σ.2.1.testBit i <;> rw [hb] at hn <;> rw [hn] at hK
  · refine ⟨fun z => absurd rfl z, fun _ => ?_⟩
    rintro _ rfl _ rfl
    rw [nI_s]; exact hK
  · refine ⟨fun _ => ?_, fun z => absurd z one0⟩
    rintro _ rfl _ rfl
    rw [nI_s, add0]; exact hK
  · refine ⟨fun _ => ?_, fun z => absurd z (by decide)⟩
    rintro _ rfl _ rfl
    rw [nI_s, add0]; exact hK
  · refine ⟨fun z => absurd rfl z, fun _ => ?_⟩
    rintro _ rfl _ rfl
    rw [nI_s]; exact hK
theorem z_cordsN {x : Int32} {n : Nat} {b : Bool} (Z : rZ v.1 σ) (hok : okL σ.1) (hx : x = if b then 1 else 0) (hn : ∀ i, i < 10 → n.testBit i = (if b then σ.2.1.testBit i else !σ.2.1.testBit i)) (hP : P (nI (coF σ.1 n 10))) : wp_X9_cords v x P := by
  refine loop_f (fun k i s => wp_X9_cords_L4 v x P k s i) 10 (fun i => nI (coF σ.1 n i)) ?_ ?_
  · intro k; exact ⟨fun _ => hP, fun z => absurd (ge_self _) z⟩
  · intro k i hi ih
    have hk := hok.1 i hi
    have e : (if n.testBit i then nI (coF σ.1 n i) + nI (pc (tg σ.1 i)) else nI (coF σ.1 n i)) = nI (coF σ.1 n (i + 1)) := by
      show _ = nI (if n.testBit i then coF σ.1 n i + pc (tg σ.1 i) else coF σ.1 n i)
      cases n.testBit i
      · rfl
      · exact nI_add _ _
    rw [← e, pc_tg hok hi] at ih
    refine ⟨fun z => absurd z (ge_no hi (by decide)), fun _ => z_of Z hi 3 (by decide) ?_⟩
    show ((¬ cdv (σ.1.1 i) = (-4 : Int32)) → _) ∧ (cdv (σ.1.1 i) = (-4 : Int32) → _)
    rw [cdv_4 hk.1]
    refine ⟨fun z1 => z_of Z hi 4 (by decide) ?_, fun z1 => z_of Z hi 4 (by decide) ?_⟩
    · show ((¬ cdv (σ.1.2.1 i) = (-4 : Int32)) → _) ∧ (cdv (σ.1.2.1 i) = (-4 : Int32) → _)
      rw [cdv_4 hk.2.1]
      refine ⟨fun z2 => z_cords42 (t := 1) (u := 1) Z hi hx (hn i hi) ?_, fun z2 => z_cords42 (t := 1) (u := 0) Z hi hx (hn i hi) ?_⟩
      · rw [if_neg z1, if_neg z2] at ih; exact ih
      · rw [if_neg z1, if_pos z2] at ih; exact ih
    · show ((¬ cdv (σ.1.2.1 i) = (-4 : Int32)) → _) ∧ (cdv (σ.1.2.1 i) = (-4 : Int32) → _)
      rw [cdv_4 hk.2.1]
      refine ⟨fun z2 => z_cords42 (t := 0) (u := 1) Z hi hx (hn i hi) ?_, fun z2 => z_cords42 (t := 0) (u := 0) Z hi hx (hn i hi) ?_⟩
      · rw [if_pos z1, if_neg z2] at ih; exact ih
      · rw [if_pos z1, if_pos z2] at ih; exact ih
theorem z_cords1 (Z : rZ v.1 σ) (hok : okL σ.1) (hP : P (nI (coF σ.1 σ.2.1 10))) : wp_X9_cords v 1 P := z_cordsN (b := true) Z hok rfl (fun i hi => rfl) hP
theorem z_cords0 (Z : rZ v.1 σ) (hok : okL σ.1) (hP : P (nI (coF σ.1 (dif 1023 σ.2.1) 10))) : wp_X9_cords v 0 P := z_cordsN (b := false) Z hok rfl (fun i hi => by rw [dif_bit, b1023 hi]; rfl) hP
theorem z_held (Z : rZ v.1 σ) (hok : okL σ.1) (hP : P (nI (pc (held σ.1 σ.2.1)))) : wp_X9_held v P := by
  refine loop_f (fun k i s => wp_X9_held_L4 v P k s i) 10 (fun i => nI (pcF (held σ.1 σ.2.1) i)) ?_ ?_
  · intro k; exact ⟨fun _ => hP, fun z => absurd (ge_self _) z⟩
  · intro k i hi ih
    rw [pcF_step] at ih
    refine ⟨fun z => absurd z (ge_no hi (by decide)), fun _ => z_cordsTo Z hok hi ?_⟩
    rw [if_neg one0]
    have h1 := ctF_le σ.1 i σ.2.1 10
    have h2 := ctF_0 σ.1 i σ.2.1 10
    rw [l0, q_le (by omega) (by decide)]
    refine ⟨fun z => ?_, fun z => ?_⟩
    · have h3 : (held σ.1 σ.2.1).testBit i = false := h2.mp (by omega)
      rw [h3] at ih
      rintro _ rfl _ rfl
      rw [nI_s, ← l0, add0]
      exact ih
    · have h3 : (held σ.1 σ.2.1).testBit i = true := by
        cases y : (held σ.1 σ.2.1).testBit i with
        | true => rfl
        | false => exact absurd (h2.mpr y) (by omega)
      rw [h3] at ih
      rintro _ rfl _ rfl
      rw [nI_s, nI_s]
      exact ih
theorem z_pairsOfHalls (Z : rZ v.1 σ) (hok : okL σ.1) (hP : P (phF σ.1 σ.2.1 6 / (2 : Int32))) : wp_X9_pairsOfHalls v P := by
  refine loop_f (fun k i s => wp_X9_pairsOfHalls_L4 v P k s i) 6 (fun i => phF σ.1 σ.2.1 i) ?_ ?_
  · intro k; exact ⟨fun _ => hP, fun z => absurd (ge_self _) z⟩
  · intro k i hi ih
    have hfl : hf σ.1 σ.2.1 i < 64 := hfF_lt hok hi 6
    refine ⟨fun z => absurd z (ge_no hi (by decide)), fun _ => z_hangs Z hok hi (z_size (by omega) ?_)⟩
    rintro _ rfl _ rfl
    rw [nI_s]
    exact ih
def rowF (L : LoS) (d : Nat) : Nat → Nat
  | 0 => 0
  | j + 1 => rowF L d j + muP L j d
def qdF (L : LoS) : Nat → Nat
  | 0 => 0
  | d + 1 => qdF L d + rowF L d d
theorem qd_pd (L : LoS) : qdF L 10 = pdF L 10 := by
  simp only [qdF, rowF, pdF, sumFr, Nat.zero_add, Nat.reduceAdd, Nat.reduceSub]
  omega
theorem z_pairs12 {d : Nat} {K : Int32 → Int32 → Prop} (Z : rZ v.1 σ) (hok : okL σ.1) (hd : d < 10) (acc : Nat) (hK : K (nI (acc + rowF σ.1 d d)) (nI (d + 1))) : ∃ k, wp_X9_pairsOfDoors_L12 v (nI d) P K k (nI acc) (0 : Int32) := by
  refine loop_f (fun k i s => wp_X9_pairsOfDoors_L12 v (nI d) P K k s i) d (fun i => nI (acc + rowF σ.1 d i)) ?_ ?_
  · intro k
    refine ⟨fun _ => ?_, fun z => absurd (ge_self _) z⟩
    rintro _ rfl
    rw [nI_s]
    exact hK
  · intro k i hi ih
    have hi10 : i < 10 := by omega
    have e : acc + rowF σ.1 d (i + 1) = acc + rowF σ.1 d i + muP σ.1 i d := (Nat.add_assoc _ _ _).symm
    rw [e] at ih
    unfold muP at ih
    refine ⟨fun z => absurd z (ge_no hi (by omega)), fun _ => z_goesTo Z hok hd hi10 ?_⟩
    cases h1 : (tg σ.1 d).testBit i <;> rw [h1] at ih
    · refine ⟨fun _ => ?_, fun z => absurd rfl z⟩
      rintro _ rfl _ rfl
      rw [nI_s, add0]
      simpa using ih
    · refine ⟨fun z => absurd z one0, fun _ => z_goesTo Z hok hi10 hd ?_⟩
      cases h2 : (tg σ.1 i).testBit d <;> rw [h2] at ih
      · refine ⟨fun _ => ?_, fun z => absurd rfl z⟩
        rintro _ rfl _ rfl
        rw [nI_s, add0]
        simpa using ih
      · refine ⟨fun z => absurd z one0, fun _ => ?_⟩
        rintro _ rfl _ rfl
        rw [nI_s, nI_s]
        simpa using ih
theorem z_pairsOfDoors (Z : rZ v.1 σ) (hok : okL σ.1) (hP : P (nI (pdF σ.1 10))) : wp_X9_pairsOfDoors v P := by
  rw [← qd_pd] at hP
  refine loop_f (fun k i s => wp_X9_pairsOfDoors_L4 v P k s i) 10 (fun i => nI (qdF σ.1 i)) ?_ ?_
  · intro k; exact ⟨fun _ => hP, fun z => absurd (ge_self _) z⟩
  · intro k i hi ih
    exact ⟨fun z => absurd z (ge_no hi (by decide)), fun _ => z_pairs12 Z hok hi _ ih⟩
end Counts
theorem p_count {v : CDV} {w : ModV} {Q : Int32 → Prop} {i : Int32} (hR : RR v w) (hQ : ∀ r, (∀ K : Int32 → Prop, K r → wp_X9_count w i K) → Q r) : wp_X8_count v i Q := by
  obtain ⟨σ, R, Z, ⟨hs, k, H, hn, hp⟩, hkp, ⟨m, cs, hm1, hm2, hm, hcs⟩, hsp⟩ := hR
  have hok := R.1
  have hA := R.2.2.2.1.2
  refine ⟨?_, ?_, ?_, ?_, ?_, ?_, ?_, ?_, ?_, ?_, ?_, ?_, ?_, ?_, ?_, ?_⟩
  · rintro rfl
    rw [R.2.2.2.2]
    refine hQ _ (fun K hK => ⟨?_, ?_, ?_, ?_, ?_, ?_, ?_, ?_, ?_, ?_, ?_, ?_, ?_, ?_, ?_, ?_⟩)
    all_goals first | (intro z; exact absurd z (by decide)) | (intros; contradiction) | skip
    exact fun _ => z_openSet Z hok.2.1 hK
  · rintro rfl
    rw [R.2.2.2.2]
    refine s_bitCount hok.2.1 (hQ _ (fun K hK => ⟨?_, ?_, ?_, ?_, ?_, ?_, ?_, ?_, ?_, ?_, ?_, ?_, ?_, ?_, ?_, ?_⟩))
    all_goals first | (intro z; exact absurd z (by decide)) | (intros; contradiction) | skip
    exact fun _ => z_openSet Z hok.2.1 (z_size (by have := hok.2.1; omega) hK)
  · rintro rfl
    rw [R.2.2.2.2]
    refine s_cordsOf R.2.1 hok.2.1 (hQ _ (fun K hK => ⟨?_, ?_, ?_, ?_, ?_, ?_, ?_, ?_, ?_, ?_, ?_, ?_, ?_, ?_, ?_, ?_⟩))
    all_goals first | (intro z; exact absurd z (by decide)) | (intros; contradiction) | skip
    exact fun _ => ⟨fun z => absurd rfl z, fun _ => z_cords1 Z hok.1 hK⟩
  · rintro rfl
    refine s_shutDoors R (s_cordsOf R.2.1 (dif_lt (k := 10) (by decide)) (hQ _ (fun K hK => ⟨?_, ?_, ?_, ?_, ?_, ?_, ?_, ?_, ?_, ?_, ?_, ?_, ?_, ?_, ?_, ?_⟩)))
    all_goals first | (intro z; exact absurd z (by decide)) | (intros; contradiction) | skip
    exact fun _ => ⟨fun _ => z_cords0 Z hok.1 hK, fun z => absurd z (by decide)⟩
  · rintro rfl
    rw [R.2.2.2.2]
    refine s_heldBy R.2.1 hok.2.1 (s_bitCount (held_lt _ _) (hQ _ (fun K hK => ⟨?_, ?_, ?_, ?_, ?_, ?_, ?_, ?_, ?_, ?_, ?_, ?_, ?_, ?_, ?_, ?_⟩)))
    all_goals first | (intro z; exact absurd z (by decide)) | (intros; contradiction) | skip
    exact fun _ => z_held Z hok.1 hK
  · rintro rfl
    rw [R.2.2.2.2]
    refine s_pairsOfHalls R.2.1 hok.2.1 (hQ _ (fun K hK => ⟨?_, ?_, ?_, ?_, ?_, ?_, ?_, ?_, ?_, ?_, ?_, ?_, ?_, ?_, ?_, ?_⟩))
    all_goals first | (intro z; exact absurd z (by decide)) | (intros; contradiction) | skip
    exact fun _ => z_pairsOfHalls Z hok.1 hK
  · rintro rfl
    refine s_pairsOfDoors R.2.1 (hQ _ (fun K hK => ⟨?_, ?_, ?_, ?_, ?_, ?_, ?_, ?_, ?_, ?_, ?_, ?_, ?_, ?_, ?_, ?_⟩))
    all_goals first | (intro z; exact absurd z (by decide)) | (intros; contradiction) | skip
    exact fun _ => z_pairsOfDoors Z hok.1 hK
  · rintro rfl
    refine hQ _ (fun K hK => ⟨?_, ?_, ?_, ?_, ?_, ?_, ?_, ?_, ?_, ?_, ?_, ?_, ?_, ?_, ?_, ?_⟩)
    all_goals first | (intro z; exact absurd z (by decide)) | (intros; contradiction) | skip
    refine fun _ => ⟨in85 (k := 1) (by decide), ?_⟩
    have e : w.1 (((1 : Int32) + 7) - (7 : Int32)).toNatClampNeg = σ.2.2.2.2.2.1 := rZ_H Z (i := 1) (by decide)
    rw [e, ← hA]; exact hK
  · rintro rfl
    refine hQ _ (fun K hK => ⟨?_, ?_, ?_, ?_, ?_, ?_, ?_, ?_, ?_, ?_, ?_, ?_, ?_, ?_, ?_, ?_⟩)
    all_goals first | (intro z; exact absurd z (by decide)) | (intros; contradiction) | skip
    refine fun _ => ⟨in85 (k := 2) (by decide), ?_⟩
    have e : w.1 (((1 : Int32) + 8) - (7 : Int32)).toNatClampNeg = σ.2.2.2.2.2.2.1 := rZ_H Z (i := 2) (by decide)
    rw [e, ← hA]; exact hK
  · rintro rfl
    refine hQ _ (fun K hK => ⟨?_, ?_, ?_, ?_, ?_, ?_, ?_, ?_, ?_, ?_, ?_, ?_, ?_, ?_, ?_, ?_⟩)
    all_goals first | (intro z; exact absurd z (by decide)) | (intros; contradiction) | skip
    refine fun _ => ⟨in85 (k := 3) (by decide), ?_⟩
    have e : w.1 (((1 : Int32) + 9) - (7 : Int32)).toNatClampNeg = σ.2.2.2.2.2.2.2.1 := rZ_H Z (i := 3) (by decide)
    rw [e, ← hA]; exact hK
  · rintro rfl
    refine hQ _ (fun K hK => ⟨?_, ?_, ?_, ?_, ?_, ?_, ?_, ?_, ?_, ?_, ?_, ?_, ?_, ?_, ?_, ?_⟩)
    all_goals first | (intro z; exact absurd z (by decide)) | (intros; contradiction) | skip
    refine fun _ => ⟨in85 (k := 4) (by decide), ?_⟩
    have e : w.1 (((1 : Int32) + 10) - (7 : Int32)).toNatClampNeg = σ.2.2.2.2.2.2.2.2.1 := rZ_H Z (i := 4) (by decide)
    rw [e, ← hA]; exact hK
  · rintro rfl
    refine hQ _ (fun K hK => ⟨?_, ?_, ?_, ?_, ?_, ?_, ?_, ?_, ?_, ?_, ?_, ?_, ?_, ?_, ?_, ?_⟩)
    all_goals first | (intro z; exact absurd z (by decide)) | (intros; contradiction) | skip
    refine fun _ => ⟨in85 (k := 5) (by decide), ?_⟩
    have e : w.1 (((1 : Int32) + 11) - (7 : Int32)).toNatClampNeg = σ.2.2.2.2.2.2.2.2.2 := rZ_H Z (i := 5) (by decide)
    rw [e, ← hA]; exact hK
  · rintro rfl
    rw [R.2.1.2.2.2]
    refine hQ _ (fun K hK => ⟨?_, ?_, ?_, ?_, ?_, ?_, ?_, ?_, ?_, ?_, ?_, ?_, ?_, ?_, ?_, ?_⟩)
    all_goals first | (intro z; exact absurd z (by decide)) | (intros; contradiction) | skip
    refine fun _ => ⟨in85 (k := 0) (by decide), ?_⟩
    have e : w.1 (0 : Int32).toNatClampNeg = nI σ.1.2.2.2.2 := rZ_H Z (i := 0) (by decide)
    rw [e]; exact hK
  · rintro rfl
    rw [hm1]
    refine hQ _ (fun K hK => ⟨?_, ?_, ?_, ?_, ?_, ?_, ?_, ?_, ?_, ?_, ?_, ?_, ?_, ?_, ?_, ?_⟩)
    all_goals first | (intro z; exact absurd z (by decide)) | (intros; contradiction) | skip
    intro _
    rw [hm2]; exact hK
  · rintro rfl
    rw [H.2.1]
    refine hQ _ (fun K hK => ⟨?_, ?_, ?_, ?_, ?_, ?_, ?_, ?_, ?_, ?_, ?_, ?_, ?_, ?_, ?_, ?_⟩)
    all_goals first | (intro z; exact absurd z (by decide)) | (intros; contradiction) | skip
    intro _
    rw [hn]; exact hK
  · intro z0 z1 z2 z3 z4 z5 z6 z7 z8 z9 z10 z11 z12 z13 z14
    exact hQ _ (fun K hK => ⟨fun z => absurd z z0, fun z => absurd z z1, fun z => absurd z z2, fun z => absurd z z3, fun z => absurd z z4, fun z => absurd z z5, fun z => absurd z z6, fun z => absurd z z7, fun z => absurd z z8, fun z => absurd z z9, fun z => absurd z z10, fun z => absurd z z11, fun z => absurd z z12, fun z => absurd z z13, fun z => absurd z z14, fun _ _ _ _ _ _ _ _ _ _ _ _ _ _ _ => hK⟩)
theorem coF_split (L : LoS) (n : Nat) : ∀ k, k ≤ 10 → coF L 1023 k = coF L n k + coF L (dif 1023 n) k
  | 0, _ => rfl
  | k + 1, h => by
    have ih := coF_split L n k (by omega)
    unfold coF
    rw [dif_bit, b1023 (by omega)]
    cases n.testBit k
    · simp; omega
    · simp; omega
set_option maxRecDepth 100000 in
theorem fp_div : ∀ b, b < 21 → b ≠ 0 → ∀ a, a < 21 → vf_n64 (FP.ddiv (FP.i2d (nI a)) (FP.i2d (nI b))) := by unfold vf_n64; decide +kernel
theorem fp_0 : ∀ b, b < 21 → ((Op.cmpValue (FP.dcmp (FP.i2d (nI b)) FP.dconst0) CmpOp.l) = 0 ↔ b = 0) := by decide +kernel
theorem p_tight {v : CDV} {w : ModV} {Q : UInt64 → Prop} (hR : RR v w) (hQ : ∀ r, (∀ K : UInt64 → Prop, K r → wp_X9_tightness w K) → Q r) : wp_X8_tightness v Q := by
  obtain ⟨σ, R, Z, -⟩ := hR
  have hok := R.1
  have e := coF_split σ.1 σ.2.1 10 (Nat.le_refl _)
  have hle := coF_le hok.1 1023 10 (Nat.le_refl _)
  have h0 := fp_0 (coF σ.1 1023 10) (by omega)
  refine s_cordsOf (n := 1023) R.2.1 (by decide) ?_
  rw [l0, q_eq (by omega) (by decide)]
  refine ⟨fun z => ?_, fun z => ?_⟩
  · rw [R.2.2.2.2]
    refine s_cordsOf R.2.1 hok.2.1 ⟨fp_div _ (by omega) z _ (by omega), hQ _ (fun K hK => z_cords1 Z hok.1 ?_)⟩
    rintro _ rfl
    refine z_cords1 Z hok.1 (z_cords0 Z hok.1 ?_)
    rintro _ rfl
    rw [nI_add, ← e, h0]
    exact ⟨fun _ => ⟨fp_div _ (by omega) z _ (by omega), hK⟩, fun y => absurd y z⟩
  · refine hQ _ (fun K hK => z_cords1 Z hok.1 ?_)
    rintro _ rfl
    refine z_cords1 Z hok.1 (z_cords0 Z hok.1 ?_)
    rintro _ rfl
    rw [nI_add, ← e, h0]
    exact ⟨fun y => absurd z y, fun _ => hK⟩
