/-! PURE: what a state answers -/
def doorA (σ : SS2) (d : Nat) : Nat → Int32
  | 0 => if σ.2.1.testBit d then 1 else 0
  | 1 => nI (min (σ.1.2.2.1 d) (σ.1.2.2.2.1 d))
  | 2 => nI (max (σ.1.2.2.1 d) (σ.1.2.2.2.1 d))
  | 3 => cdv (σ.1.1 d)
  | 4 => cdv (σ.1.2.1 d)
  | 5 => if (held σ.1 σ.2.1).testBit d then 1 else 0
  | 6 => nI (ctF σ.1 d 1023 10)
  | 7 => nI (ctF σ.1 d σ.2.1 10)
  | 8 => σ.2.2.2.1 d
  | _ => σ.2.2.2.2.1 d
def countA (σ : SS2) : Nat → Int32
  | 0 => nI σ.2.1
  | 1 => nI (pc σ.2.1)
  | 2 => nI (coF σ.1 σ.2.1 10)
  | 3 => nI (coF σ.1 (dif 1023 σ.2.1) 10)
  | 4 => nI (pc (held σ.1 σ.2.1))
  | 5 => phF σ.1 σ.2.1 6 / (2 : Int32)
  | 6 => nI (pdF σ.1 10)
  | 7 => σ.2.2.2.2.2.1
  | 8 => σ.2.2.2.2.2.2.1
  | 9 => σ.2.2.2.2.2.2.2.1
  | 10 => σ.2.2.2.2.2.2.2.2.1
  | 11 => σ.2.2.2.2.2.2.2.2.2
  | _ => nI σ.1.2.2.2.2
def guestA (σ : SS2) (g : Nat) : Nat → Int32
  | 0 => nI (σ.2.2.1.1 g)
  | 1 => nI (σ.2.2.1.2.1 g)
  | 2 => nI (hmF σ g 10)
  | _ => σ.2.2.1.2.2 g
def hallA (σ : SS2) (h : Nat) : Nat → Int32
  | 0 => nI (pc (doors σ.1 h))
  | 1 => nI (pc (doors σ.1 h &&& σ.2.1))
  | 2 => nI (giF σ.2.2.1.1 h 3)
  | _ => nI (pc (hf σ.1 σ.2.1 h))
section Reads
variable {v : CDV} {σ : SS2} {Q : Int32 → Prop} {d g h w : Nat}
theorem t_dnf {c : Nat} (hc : c ≤ 10) (hQ : Q (cdv c)) : wp_X8_doorOrNotFound (nI c) Q := by
  unfold wp_X8_doorOrNotFound
  rw [l10, q_eq (by omega) (by decide)]
  refine ⟨fun z => ?_, fun z => ?_⟩
  · rw [show cdv c = nI c from if_neg z] at hQ
    exact hQ
  · rw [show cdv c = -4 from if_pos z] at hQ
    exact hQ
theorem t_door (R : rSt v.1 σ) (hd : d < 10) (hw : w < 10) (hQ : Q (doorA σ d w)) : wp_X8_door v (nI d) (nI w) Q := by
  have hok := R.1
  have hcd := hok.1.1 d hd
  have hA := R.2.2.2.1
  refine d8t hd ⟨fun _ => ?_, fun z => absurd z one0⟩
  match w, hw with
  | 0, _ =>
    refine ⟨fun _ => s_isOpen R (by omega) (b01 hQ), fun z => absurd z (by decide), fun z => absurd z (by decide), fun z => absurd z (by decide), fun z => absurd z (by decide), fun z => absurd z (by decide), fun z => absurd z (by decide), fun z => absurd z (by decide), fun z => absurd z (by decide), fun z => absurd z (by decide), fun z _ _ _ _ _ _ _ _ _ => absurd rfl z⟩
  | 1, _ =>
    refine ⟨fun z => absurd z (by decide), fun _ => s_lesserHall R.2.1 hd hQ, fun z => absurd z (by decide), fun z => absurd z (by decide), fun z => absurd z (by decide), fun z => absurd z (by decide), fun z => absurd z (by decide), fun z => absurd z (by decide), fun z => absurd z (by decide), fun z => absurd z (by decide), fun _ z _ _ _ _ _ _ _ _ => absurd rfl z⟩
  | 2, _ =>
    refine ⟨fun z => absurd z (by decide), fun z => absurd z (by decide), fun _ => s_greaterHall R.2.1 hd hQ, fun z => absurd z (by decide), fun z => absurd z (by decide), fun z => absurd z (by decide), fun z => absurd z (by decide), fun z => absurd z (by decide), fun z => absurd z (by decide), fun z => absurd z (by decide), fun _ _ z _ _ _ _ _ _ _ => absurd rfl z⟩
  | 3, _ =>
    refine ⟨fun z => absurd z (by decide), fun z => absurd z (by decide), fun z => absurd z (by decide), fun _ => s_cordOf R.2.1 hd (t_dnf hcd.1 hQ), fun z => absurd z (by decide), fun z => absurd z (by decide), fun z => absurd z (by decide), fun z => absurd z (by decide), fun z => absurd z (by decide), fun z => absurd z (by decide), fun _ _ _ z _ _ _ _ _ _ => absurd rfl z⟩
  | 4, _ =>
    refine ⟨fun z => absurd z (by decide), fun z => absurd z (by decide), fun z => absurd z (by decide), fun z => absurd z (by decide), fun _ => s_cordOf R.2.1 hd (t_dnf hcd.2.1 hQ), fun z => absurd z (by decide), fun z => absurd z (by decide), fun z => absurd z (by decide), fun z => absurd z (by decide), fun z => absurd z (by decide), fun _ _ _ _ z _ _ _ _ _ => absurd rfl z⟩
  | 5, _ =>
    refine ⟨fun z => absurd z (by decide), fun z => absurd z (by decide), fun z => absurd z (by decide), fun z => absurd z (by decide), fun z => absurd z (by decide), fun _ => ?_, fun z => absurd z (by decide), fun z => absurd z (by decide), fun z => absurd z (by decide), fun z => absurd z (by decide), fun _ _ _ _ _ z _ _ _ _ => absurd rfl z⟩
    rw [R.2.2.2.2]
    exact s_heldBy R.2.1 hok.2.1 (s_has (by have := held_lt σ.1 σ.2.1; omega) (by omega) (b01 hQ))
  | 6, _ =>
    refine ⟨fun z => absurd z (by decide), fun z => absurd z (by decide), fun z => absurd z (by decide), fun z => absurd z (by decide), fun z => absurd z (by decide), fun z => absurd z (by decide), fun _ => s_cordsTo (n := 1023) R.2.1 hd (by decide) hQ, fun z => absurd z (by decide), fun z => absurd z (by decide), fun z => absurd z (by decide), fun _ _ _ _ _ _ z _ _ _ => absurd rfl z⟩
  | 7, _ =>
    refine ⟨fun z => absurd z (by decide), fun z => absurd z (by decide), fun z => absurd z (by decide), fun z => absurd z (by decide), fun z => absurd z (by decide), fun z => absurd z (by decide), fun z => absurd z (by decide), fun _ => ?_, fun z => absurd z (by decide), fun z => absurd z (by decide), fun _ _ _ _ _ _ _ z _ _ => absurd rfl z⟩
    rw [R.2.2.2.2]
    exact s_cordsTo R.2.1 hd hok.2.1 hQ
  | 8, _ =>
    refine ⟨fun z => absurd z (by decide), fun z => absurd z (by decide), fun z => absurd z (by decide), fun z => absurd z (by decide), fun z => absurd z (by decide), fun z => absurd z (by decide), fun z => absurd z (by decide), fun z => absurd z (by decide), fun _ => ?_, fun z => absurd z (by decide), fun _ _ _ _ _ _ _ _ z _ => absurd rfl z⟩
    rw [q_in (by omega), nI_clamp (by omega), (hA.1 d hd).1]
    exact ⟨hd, hQ⟩
  | 9, _ =>
    refine ⟨fun z => absurd z (by decide), fun z => absurd z (by decide), fun z => absurd z (by decide), fun z => absurd z (by decide), fun z => absurd z (by decide), fun z => absurd z (by decide), fun z => absurd z (by decide), fun z => absurd z (by decide), fun z => absurd z (by decide), fun _ => ?_, fun _ _ _ _ _ _ _ _ _ z => absurd rfl z⟩
    rw [q_in (by omega), nI_clamp (by omega), (hA.1 d hd).2]
    exact ⟨hd, hQ⟩
  | w + 10, hw => exact absurd hw (by omega)
theorem t_count (R : rSt v.1 σ) (hw : w < 13) (hQ : Q (countA σ w)) : wp_X8_count v (nI w) Q := by
  have hok := R.1
  have hA := R.2.2.2.1.2
  match w, hw with
  | 0, _ =>
    refine ⟨fun _ => ?_, fun z => absurd z (by decide), fun z => absurd z (by decide), fun z => absurd z (by decide), fun z => absurd z (by decide), fun z => absurd z (by decide), fun z => absurd z (by decide), fun z => absurd z (by decide), fun z => absurd z (by decide), fun z => absurd z (by decide), fun z => absurd z (by decide), fun z => absurd z (by decide), fun z => absurd z (by decide), fun z => absurd z (by decide), fun z => absurd z (by decide), fun z _ _ _ _ _ _ _ _ _ _ _ _ _ _ => absurd rfl z⟩
    rw [R.2.2.2.2]
    exact hQ
  | 1, _ =>
    refine ⟨fun z => absurd z (by decide), fun _ => ?_, fun z => absurd z (by decide), fun z => absurd z (by decide), fun z => absurd z (by decide), fun z => absurd z (by decide), fun z => absurd z (by decide), fun z => absurd z (by decide), fun z => absurd z (by decide), fun z => absurd z (by decide), fun z => absurd z (by decide), fun z => absurd z (by decide), fun z => absurd z (by decide), fun z => absurd z (by decide), fun z => absurd z (by decide), fun _ z _ _ _ _ _ _ _ _ _ _ _ _ _ => absurd rfl z⟩
    rw [R.2.2.2.2]
    exact s_bitCount hok.2.1 hQ
  | 2, _ =>
    refine ⟨fun z => absurd z (by decide), fun z => absurd z (by decide), fun _ => ?_, fun z => absurd z (by decide), fun z => absurd z (by decide), fun z => absurd z (by decide), fun z => absurd z (by decide), fun z => absurd z (by decide), fun z => absurd z (by decide), fun z => absurd z (by decide), fun z => absurd z (by decide), fun z => absurd z (by decide), fun z => absurd z (by decide), fun z => absurd z (by decide), fun z => absurd z (by decide), fun _ _ z _ _ _ _ _ _ _ _ _ _ _ _ => absurd rfl z⟩
    rw [R.2.2.2.2]
    exact s_cordsOf R.2.1 hok.2.1 hQ
  | 3, _ =>
    refine ⟨fun z => absurd z (by decide), fun z => absurd z (by decide), fun z => absurd z (by decide), fun _ => s_shutDoors R (s_cordsOf R.2.1 (dif_lt (k := 10) (by decide)) hQ), fun z => absurd z (by decide), fun z => absurd z (by decide), fun z => absurd z (by decide), fun z => absurd z (by decide), fun z => absurd z (by decide), fun z => absurd z (by decide), fun z => absurd z (by decide), fun z => absurd z (by decide), fun z => absurd z (by decide), fun z => absurd z (by decide), fun z => absurd z (by decide), fun _ _ _ z _ _ _ _ _ _ _ _ _ _ _ => absurd rfl z⟩
  | 4, _ =>
    refine ⟨fun z => absurd z (by decide), fun z => absurd z (by decide), fun z => absurd z (by decide), fun z => absurd z (by decide), fun _ => ?_, fun z => absurd z (by decide), fun z => absurd z (by decide), fun z => absurd z (by decide), fun z => absurd z (by decide), fun z => absurd z (by decide), fun z => absurd z (by decide), fun z => absurd z (by decide), fun z => absurd z (by decide), fun z => absurd z (by decide), fun z => absurd z (by decide), fun _ _ _ _ z _ _ _ _ _ _ _ _ _ _ => absurd rfl z⟩
    rw [R.2.2.2.2]
    exact s_heldBy R.2.1 hok.2.1 (s_bitCount (held_lt _ _) hQ)
  | 5, _ =>
    refine ⟨fun z => absurd z (by decide), fun z => absurd z (by decide), fun z => absurd z (by decide), fun z => absurd z (by decide), fun z => absurd z (by decide), fun _ => ?_, fun z => absurd z (by decide), fun z => absurd z (by decide), fun z => absurd z (by decide), fun z => absurd z (by decide), fun z => absurd z (by decide), fun z => absurd z (by decide), fun z => absurd z (by decide), fun z => absurd z (by decide), fun z => absurd z (by decide), fun _ _ _ _ _ z _ _ _ _ _ _ _ _ _ => absurd rfl z⟩
    rw [R.2.2.2.2]
    exact s_pairsOfHalls R.2.1 hok.2.1 hQ
  | 6, _ =>
    refine ⟨fun z => absurd z (by decide), fun z => absurd z (by decide), fun z => absurd z (by decide), fun z => absurd z (by decide), fun z => absurd z (by decide), fun z => absurd z (by decide), fun _ => s_pairsOfDoors R.2.1 hQ, fun z => absurd z (by decide), fun z => absurd z (by decide), fun z => absurd z (by decide), fun z => absurd z (by decide), fun z => absurd z (by decide), fun z => absurd z (by decide), fun z => absurd z (by decide), fun z => absurd z (by decide), fun _ _ _ _ _ _ z _ _ _ _ _ _ _ _ => absurd rfl z⟩
  | 7, _ =>
    refine ⟨fun z => absurd z (by decide), fun z => absurd z (by decide), fun z => absurd z (by decide), fun z => absurd z (by decide), fun z => absurd z (by decide), fun z => absurd z (by decide), fun z => absurd z (by decide), fun _ => ?_, fun z => absurd z (by decide), fun z => absurd z (by decide), fun z => absurd z (by decide), fun z => absurd z (by decide), fun z => absurd z (by decide), fun z => absurd z (by decide), fun z => absurd z (by decide), fun _ _ _ _ _ _ _ z _ _ _ _ _ _ _ => absurd rfl z⟩
    rw [hA]
    exact hQ
  | 8, _ =>
    refine ⟨fun z => absurd z (by decide), fun z => absurd z (by decide), fun z => absurd z (by decide), fun z => absurd z (by decide), fun z => absurd z (by decide), fun z => absurd z (by decide), fun z => absurd z (by decide), fun z => absurd z (by decide), fun _ => ?_, fun z => absurd z (by decide), fun z => absurd z (by decide), fun z => absurd z (by decide), fun z => absurd z (by decide), fun z => absurd z (by decide), fun z => absurd z (by decide), fun _ _ _ _ _ _ _ _ z _ _ _ _ _ _ => absurd rfl z⟩
    rw [hA]
    exact hQ
  | 9, _ =>
    refine ⟨fun z => absurd z (by decide), fun z => absurd z (by decide), fun z => absurd z (by decide), fun z => absurd z (by decide), fun z => absurd z (by decide), fun z => absurd z (by decide), fun z => absurd z (by decide), fun z => absurd z (by decide), fun z => absurd z (by decide), fun _ => ?_, fun z => absurd z (by decide), fun z => absurd z (by decide), fun z => absurd z (by decide), fun z => absurd z (by decide), fun z => absurd z (by decide), fun _ _ _ _ _ _ _ _ _ z _ _ _ _ _ => absurd rfl z⟩
    rw [hA]
    exact hQ
  | 10, _ =>
    refine ⟨fun z => absurd z (by decide), fun z => absurd z (by decide), fun z => absurd z (by decide), fun z => absurd z (by decide), fun z => absurd z (by decide), fun z => absurd z (by decide), fun z => absurd z (by decide), fun z => absurd z (by decide), fun z => absurd z (by decide), fun z => absurd z (by decide), fun _ => ?_, fun z => absurd z (by decide), fun z => absurd z (by decide), fun z => absurd z (by decide), fun z => absurd z (by decide), fun _ _ _ _ _ _ _ _ _ _ z _ _ _ _ => absurd rfl z⟩
    rw [hA]
    exact hQ
  | 11, _ =>
    refine ⟨fun z => absurd z (by decide), fun z => absurd z (by decide), fun z => absurd z (by decide), fun z => absurd z (by decide), fun z => absurd z (by decide), fun z => absurd z (by decide), fun z => absurd z (by decide), fun z => absurd z (by decide), fun z => absurd z (by decide), fun z => absurd z (by decide), fun z => absurd z (by decide), fun _ => ?_, fun z => absurd z (by decide), fun z => absurd z (by decide), fun z => absurd z (by decide), fun _ _ _ _ _ _ _ _ _ _ _ z _ _ _ => absurd rfl z⟩
    rw [hA]
    exact hQ
  | 12, _ =>
    refine ⟨fun z => absurd z (by decide), fun z => absurd z (by decide), fun z => absurd z (by decide), fun z => absurd z (by decide), fun z => absurd z (by decide), fun z => absurd z (by decide), fun z => absurd z (by decide), fun z => absurd z (by decide), fun z => absurd z (by decide), fun z => absurd z (by decide), fun z => absurd z (by decide), fun z => absurd z (by decide), fun _ => ?_, fun z => absurd z (by decide), fun z => absurd z (by decide), fun _ _ _ _ _ _ _ _ _ _ _ _ z _ _ => absurd rfl z⟩
    rw [R.2.1.2.2.2]
    exact hQ
  | w + 13, hw => exact absurd hw (by omega)
theorem t_count14 {hs : Nat → SS2} {k : Nat} (H : rHist v.2.1 hs k) (hQ : Q (nI k)) : wp_X8_count v (nI 14) Q := by
  refine ⟨fun z => absurd z (by decide), fun z => absurd z (by decide), fun z => absurd z (by decide), fun z => absurd z (by decide), fun z => absurd z (by decide), fun z => absurd z (by decide), fun z => absurd z (by decide), fun z => absurd z (by decide), fun z => absurd z (by decide), fun z => absurd z (by decide), fun z => absurd z (by decide), fun z => absurd z (by decide), fun z => absurd z (by decide), fun z => absurd z (by decide), fun _ => ?_, fun _ _ _ _ _ _ _ _ _ _ _ _ _ _ z => absurd rfl z⟩
  rw [H.2.1]
  exact hQ
theorem t_guest (R : rSt v.1 σ) (hg : g < 3) (hw : w < 4) (hQ : Q (guestA σ g w)) : wp_X8_guest v (nI g) (nI w) Q := by
  have hok := R.1
  obtain ⟨g1, g2, g3⟩ := R.2.2.1 g hg
  refine g8t hg ⟨fun _ => ?_, fun z => absurd z one0⟩
  match w, hw with
  | 0, _ =>
    refine ⟨fun _ => ?_, fun z => absurd z (by decide), fun z => absurd z (by decide), fun z => absurd z (by decide), fun z _ _ _ => absurd rfl z⟩
    rw [q_in (by omega), nI_clamp (by omega), g1]
    exact ⟨hg, hQ⟩
  | 1, _ =>
    refine ⟨fun z => absurd z (by decide), fun _ => ?_, fun z => absurd z (by decide), fun z => absurd z (by decide), fun _ z _ _ => absurd rfl z⟩
    rw [q_in (by omega), nI_clamp (by omega), g2]
    exact ⟨hg, hQ⟩
  | 2, _ =>
    refine ⟨fun z => absurd z (by decide), fun z => absurd z (by decide), fun _ => s_howManyCouldOpen R hg hQ, fun z => absurd z (by decide), fun _ _ z _ => absurd rfl z⟩
  | 3, _ =>
    refine ⟨fun z => absurd z (by decide), fun z => absurd z (by decide), fun z => absurd z (by decide), fun _ => ?_, fun _ _ _ z => absurd rfl z⟩
    rw [q_in (by omega), nI_clamp (by omega), g3]
    exact ⟨hg, hQ⟩
  | w + 4, hw => exact absurd hw (by omega)
theorem t_hall (R : rSt v.1 σ) (hh : h < 6) (hw : w < 4) (hQ : Q (hallA σ h w)) : wp_X8_hall v (nI h) (nI w) Q := by
  have hok := R.1
  have hdl := doors_lt σ.1 h
  have hfl : hf σ.1 σ.2.1 h < 64 := hfF_lt hok.1 hh 6
  refine h8t hh ⟨fun _ => ?_, fun z => absurd z one0⟩
  match w, hw with
  | 0, _ =>
    refine ⟨fun _ => s_doorsOf R.2.1 hh (s_bitCount hdl hQ), fun z => absurd z (by decide), fun z => absurd z (by decide), fun z => absurd z (by decide), fun z _ _ _ => absurd rfl z⟩
  | 1, _ =>
    refine ⟨fun z => absurd z (by decide), fun _ => ?_, fun z => absurd z (by decide), fun z => absurd z (by decide), fun _ z _ _ => absurd rfl z⟩
    rw [R.2.2.2.2]
    refine s_doorsOf R.2.1 hh ?_
    rw [q_and]
    exact s_bitCount (and_lt (k := 10) hdl) hQ
  | 2, _ =>
    refine ⟨fun z => absurd z (by decide), fun z => absurd z (by decide), fun _ => s_howManyIn R.2.2.1 hok.2.2.2 hh hQ, fun z => absurd z (by decide), fun _ _ z _ => absurd rfl z⟩
  | 3, _ =>
    refine ⟨fun z => absurd z (by decide), fun z => absurd z (by decide), fun z => absurd z (by decide), fun _ => ?_, fun _ _ _ z => absurd rfl z⟩
    rw [R.2.2.2.2]
    exact s_hallsFrom R.2.1 hok.2.1 hh (s_bitCount (by omega) hQ)
  | w + 4, hw => exact absurd hw (by omega)
theorem t_whyNot (R : rSt v.1 σ) (hd : d < 10) (hQ : Q (nI (rsn σ.1 σ.2.1 d))) : wp_X8_whyNot v (nI d) Q :=
  d8t hd ⟨fun z => absurd z one0, fun _ => s_reasonNotToOpen R hd hQ⟩
theorem t_ifOpened (R : rSt v.1 σ) (hd : d < 10) (hQ : Q (nI (if rsn σ.1 σ.2.1 d = 0 then afterO σ.1 σ.2.1 d else σ.2.1))) : wp_X8_ifOpened v (nI d) (0 : Int32) Q := by
  have hok := R.1
  have hC := afterC_lt σ.1 hok.2.1 hd
  have h7 := rsn_lt σ.1 σ.2.1 d
  refine d8t hd ⟨fun _ => ?_, fun z => absurd z one0⟩
  rintro _ rfl
  rw [R.2.2.2.2]
  refine s_reasonNotToOpen R hd ?_
  rw [l0, q_eq (by omega) (by decide)]
  refine ⟨fun z0 => ?_, fun z0 => ?_⟩
  · rw [if_pos z0] at hQ
    exact ⟨fun _ => s_afterCords R.2.1 hd ⟨fun _ => s_afterDrafts R.2.1 hd hC ⟨fun _ => hQ, fun z => absurd z (by decide), fun z => absurd z (by decide), fun z => absurd rfl z⟩, fun z => absurd rfl z⟩, fun z => absurd rfl z⟩
  · rw [if_neg z0] at hQ
    exact ⟨fun z => absurd z one0, fun _ => ⟨fun z => absurd z one0, fun _ => ⟨fun _ => hQ, fun z => absurd z (by decide), fun z => absurd z (by decide), fun z => absurd rfl z⟩⟩⟩
def tiA (σ : SS2) : UInt64 := if coF σ.1 1023 10 = 0 then FP.dconst0 else FP.ddiv (FP.i2d (nI (coF σ.1 σ.2.1 10))) (FP.i2d (nI (coF σ.1 1023 10)))
theorem t_tight {P : UInt64 → Prop} (R : rSt v.1 σ) (hP : P (tiA σ)) : wp_X8_tightness v P := by
  have hok := R.1
  have e := coF_split σ.1 σ.2.1 10 (Nat.le_refl _)
  have hle := coF_le hok.1 1023 10 (Nat.le_refl _)
  refine s_cordsOf (n := 1023) R.2.1 (by decide) ?_
  rw [l0, q_eq (by omega) (by decide)]
  unfold tiA at hP
  refine ⟨fun z => ?_, fun z => ?_⟩
  · rw [R.2.2.2.2]
    rw [if_neg z] at hP
    exact s_cordsOf R.2.1 hok.2.1 ⟨fp_div _ (by omega) z _ (by omega), hP⟩
  · rw [if_pos z] at hP
    exact hP
theorem t_can0 (R : rSt v.1 σ) (hQ : Q 1) : wp_X8_can v (0 : Int32) Q := by
  refine t8t (d := 0) (by decide) ⟨fun _ => s_canBeOpen (n := 0) R.2.1 (by decide) ?_, fun z => absurd z one0⟩
  rw [canB_0]
  exact ⟨fun z => absurd z one0, fun _ => hQ⟩
theorem t_deeds0 {P : Int32 → CDV → Prop} (R : rSt v.1 σ) (hg : g < 3) (hh : h < 6) (hP : ∀ r u, AnW σ.1 (σ.2.2.1.2.1 g) h (σ.2.1, σ.2.2.1.1 g) r → P r (v.1, v.2.1, v.2.2.1, v.2.2.2.1, v.2.2.2.2.1, v.2.2.2.2.2.1, u)) : wp_X8_deeds v (nI g) (nI h) (0 : Int32) P := by
  have hok := R.1
  have hst : okP σ.1 (σ.2.1, σ.2.2.1.1 g) := ⟨hok.2.1, (hok.2.2.2 g hg).1, (indep_iff _ _).mp hok.2.2.1⟩
  have hks := (hok.2.2.2 g hg).2
  obtain ⟨g1, g2, g3⟩ := R.2.2.1 g hg
  refine g8t hg ⟨fun y => absurd y one0, fun _ => h8t hh ⟨fun _ => ?_, fun y => absurd y one0⟩⟩
  rw [q_in (by omega), nI_clamp (by omega), R.2.2.2.2, g1, g2]
  refine ⟨hg, s_spot ⟨hg, ?_⟩⟩
  rintro _ rfl
  exact ⟨fun _ => s_fromNowOn R.2.1 hks hst hh (fun r u hr => hP r u (AnS_W hr)), fun z => absurd z (by decide), fun z => absurd rfl z⟩
theorem t_deeds1 {P : Int32 → CDV → Prop} (R : rSt v.1 σ) (hg : g < 3) (hh : h < 6) (hP : ∀ r u, AnW σ.1 (σ.2.2.1.2.1 g) h (σ.2.1, σ.2.2.1.1 g) r → P r (v.1, v.2.1, v.2.2.1, v.2.2.2.1, v.2.2.2.2.1, v.2.2.2.2.2.1, u)) : wp_X8_deeds v (nI g) (nI h) (1 : Int32) P := by
  have hok := R.1
  have hst : okP σ.1 (σ.2.1, σ.2.2.1.1 g) := ⟨hok.2.1, (hok.2.2.2 g hg).1, (indep_iff _ _).mp hok.2.2.1⟩
  have hks := (hok.2.2.2 g hg).2
  obtain ⟨g1, g2, g3⟩ := R.2.2.1 g hg
  refine g8t hg ⟨fun y => absurd y one0, fun _ => h8t hh ⟨fun _ => ?_, fun y => absurd y one0⟩⟩
  rw [q_in (by omega), nI_clamp (by omega), R.2.2.2.2, g1, g2]
  refine ⟨hg, s_spot ⟨hg, ?_⟩⟩
  rintro _ rfl
  exact ⟨fun z => absurd z (by decide), fun _ => s_fromHallBack R.2.1 hks hh hst hP, fun _ z => absurd rfl z⟩
end Reads
