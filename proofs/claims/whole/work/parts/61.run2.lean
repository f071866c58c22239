/-! PURE: a text of deeds runs -/
section Deed
variable {cs : Nat → Nat} {m p : Nat}
theorem GD_in (G : GD cs m p) : p < m ∧ lp cs p < m ∧ lp cs p + 1 < m := by
  have := lp_ge cs p
  have := G.1
  omega
theorem s_isG {P : PadV} {Q : Int32 → Prop} (RP : rPad P cs m) (G : GD cs m p) (hQ : Q (if cs p = 103 then 1 else 0)) : wp_X4_isGuestsDeed P (nI p) Q := by
  obtain ⟨g1, g2, g3⟩ := GD_in G
  have hm := RP.2.1
  refine s_codeAt RP (by omega) ?_
  rw [show caN cs m p = cs p from if_pos g1, show (nI (cs p) = (103 : Int32)) = (cs p = 103) from q_c (RP.2.2 p g1).2 (by decide)]
  refine ⟨fun z => ?_, fun z => ?_⟩
  · rw [if_neg z] at hQ; exact hQ
  · rw [if_pos z] at hQ; exact hQ
theorem s_place {P : PadV} {Q : Int32 → Prop} (RP : rPad P cs m) (G : GD cs m p) (hQ : Q (nI (lp cs p))) : wp_X4_placeOfLetter P (nI p) Q := by
  refine s_isG RP G ?_
  unfold lp at hQ
  by_cases h : cs p = 103
  · rw [if_pos h] at hQ ⊢
    refine ⟨fun z => absurd z one0, fun _ => ?_⟩
    rw [nI_a2]; exact hQ
  · rw [if_neg h] at hQ ⊢
    exact ⟨fun _ => hQ, fun z => absurd rfl z⟩
theorem s_next {P : PadV} {Q : Int32 → Prop} (RP : rPad P cs m) (G : GD cs m p) (hQ : Q (nI (lp cs p + 3))) : wp_X4_placeOfNextDeed P (nI p) Q := by
  refine s_place RP G ?_
  rw [nI_a3]; exact hQ
theorem s_letter {P : PadV} {Q : Int32 → Prop} (RP : rPad P cs m) (G : GD cs m p) (hQ : Q (nI (cs (lp cs p)))) : wp_X4_letterOfDeed P (nI p) Q := by
  obtain ⟨g1, g2, g3⟩ := GD_in G
  have hm := RP.2.1
  refine s_place RP G (s_codeAt RP (by omega) ?_)
  rw [show caN cs m (lp cs p) = cs (lp cs p) from if_pos g2]
  exact hQ
theorem s_doorOf {P : PadV} {Q : Int32 → Prop} (RP : rPad P cs m) (G : GD cs m p) (hQ : Q (nI (cs (lp cs p + 1) - 48))) : wp_X4_doorOfDeed P (nI p) Q := by
  obtain ⟨g1, g2, g3⟩ := GD_in G
  have hm := RP.2.1
  refine s_place RP G ?_
  rw [nI_s]
  refine s_codeAt RP (by omega) ?_
  rw [show caN cs m (lp cs p + 1) = cs (lp cs p + 1) from if_pos g3, sub48 G.2.2.2.1]
  exact hQ
theorem s_guestOf {P : PadV} {Q : Int32 → Prop} (RP : rPad P cs m) (G : GD cs m p) (h : cs p = 103) (hQ : Q (nI (cs (p + 1) - 48))) : wp_X4_guestOfDeed P (nI p) Q := by
  obtain ⟨g1, g2, g3⟩ := GD_in G
  have hm := RP.2.1
  have elp : lp cs p = p + 2 := if_pos h
  unfold wp_X4_guestOfDeed
  rw [nI_s]
  refine s_codeAt RP (by omega) ?_
  rw [show caN cs m (p + 1) = cs (p + 1) from if_pos (by omega), sub48 (G.2.1 h).1]
  exact hQ
theorem oA_ok (σ : SS2) (r d : Nat) (hr : r < 7) : oA σ r d < 100 ∧ oA σ r d ≠ 0 := by
  unfold oA opA
  split
  · have := pc_le (dif σ.2.1 (afterC σ.1 σ.2.1 d) ||| dif (afterC σ.1 σ.2.1 d) (afterO σ.1 σ.2.1 d)); omega
  · omega
theorem sA_ok (r : Nat) (hr : r < 7) : sA r < 100 ∧ sA r ≠ 0 := by
  unfold sA
  split <;> omega
theorem wA_ok {σ : SS2} {g d : Nat} (hok : okS σ) (hd : d < 10) : wA σ g d < 100 ∧ wA σ g d ≠ 0 := by
  have h1 := acr_lt hok.1 hd (σ.2.2.1.1 g)
  have h2 := rsnU_lt σ g d
  unfold wA
  split <;> omega
theorem p_deed {v : CDV} {σ : SS2} {j : Nat} {Q : Int32 → CDV → Prop} (R : rSt v.1 σ) (RP : rPad v.2.2.2.2.1 cs m) (G : GD cs m p) (hj : j ≤ 21)
    (hQ : ∀ a σ' v1', a < 100 → a ≠ 0 → rSt v1' σ' → (∀ (w : ModV), DT cs w.2.2.2.2.2.2.2.2.2.2.2.2.1 j p → ∀ z, rZ z σ → ∀ K : Int32 → ModV → Prop, (∀ z', rZ z' σ' → K (nI a) (z', w.2)) → wp_X9_doDeed (z, w.2) (nI j) K) → Q (nI a) (v1', v.2)) : wp_X8_runDeedAt v (nI p) Q := by
  have hok := R.1
  obtain ⟨hl, hgu, hle, hd1, hd2⟩ := id G
  obtain ⟨g1, g2, g3⟩ := GD_in G
  have hl127 := (RP.2.2 _ g2).2
  have hd : cs (lp cs p + 1) - 48 < 10 := by omega
  have q119 : (nI (cs (lp cs p)) = (119 : Int32)) = (cs (lp cs p) = 119) := q_c hl127 (by decide)
  have q111 : (nI (cs (lp cs p)) = (111 : Int32)) = (cs (lp cs p) = 111) := q_c hl127 (by decide)
  have q99 : (nI (cs (lp cs p)) = (99 : Int32)) = (cs (lp cs p) = 99) := q_c hl127 (by decide)
  have body : ∀ (w : ModV), DT cs w.2.2.2.2.2.2.2.2.2.2.2.2.1 j p → ∀ (z : Nat → Int32) (K : Int32 → ModV → Prop), (let g : Int32 := if cs p = 103 then nI (cs (p + 1) - 48) else -4
      (cs (lp cs p) = 99 → ((¬ g = -4) → wp_X9_guestShutsNow (z, w.2) g (nI (cs (lp cs p + 1) - 48)) K) ∧ ((g = -4) → wp_X9_shutNow (z, w.2) (nI (cs (lp cs p + 1) - 48)) K)) ∧ (cs (lp cs p) = 111 → ((¬ g = -4) → wp_X9_guestOpensNow (z, w.2) g (nI (cs (lp cs p + 1) - 48)) K) ∧ ((g = -4) → wp_X9_openNow (z, w.2) (nI (cs (lp cs p + 1) - 48)) K)) ∧ (¬ cs (lp cs p) = 99 → ¬ cs (lp cs p) = 111 → wp_X9_walkNow (z, w.2) g (nI (cs (lp cs p + 1) - 48)) K)) → wp_X9_doDeed (z, w.2) (nI j) K := by
    rintro w ⟨t0, t1, t2, t3⟩ z K h
    unfold wp_X9_doDeed
    rw [l4m, nI_a2, nI_a3, nI_s, q_in (by omega), q_in (by omega), q_in (by omega), nI_clamp (by omega), nI_clamp (by omega), nI_clamp (by omega)]
    refine ⟨by omega, ?_⟩
    rintro _ rfl
    refine ⟨by omega, ?_⟩
    rintro _ rfl
    refine ⟨by omega, ?_⟩
    rintro _ rfl
    show ((w.2.2.2.2.2.2.2.2.2.2.2.2.1 (4 * j + 1) = (99 : Int32)) → ((¬ w.2.2.2.2.2.2.2.2.2.2.2.2.1 (4 * j + 2) = -4) → wp_X9_guestShutsNow (z, w.2) (w.2.2.2.2.2.2.2.2.2.2.2.2.1 (4 * j + 2)) (w.2.2.2.2.2.2.2.2.2.2.2.2.1 (4 * j + 3)) K) ∧ ((w.2.2.2.2.2.2.2.2.2.2.2.2.1 (4 * j + 2) = -4) → wp_X9_shutNow (z, w.2) (w.2.2.2.2.2.2.2.2.2.2.2.2.1 (4 * j + 3)) K)) ∧ ((w.2.2.2.2.2.2.2.2.2.2.2.2.1 (4 * j + 1) = (111 : Int32)) → ((¬ w.2.2.2.2.2.2.2.2.2.2.2.2.1 (4 * j + 2) = -4) → wp_X9_guestOpensNow (z, w.2) (w.2.2.2.2.2.2.2.2.2.2.2.2.1 (4 * j + 2)) (w.2.2.2.2.2.2.2.2.2.2.2.2.1 (4 * j + 3)) K) ∧ ((w.2.2.2.2.2.2.2.2.2.2.2.2.1 (4 * j + 2) = -4) → wp_X9_openNow (z, w.2) (w.2.2.2.2.2.2.2.2.2.2.2.2.1 (4 * j + 3)) K)) ∧ ((¬ w.2.2.2.2.2.2.2.2.2.2.2.2.1 (4 * j + 1) = (99 : Int32)) → (¬ w.2.2.2.2.2.2.2.2.2.2.2.2.1 (4 * j + 1) = (111 : Int32)) → wp_X9_walkNow (z, w.2) (w.2.2.2.2.2.2.2.2.2.2.2.2.1 (4 * j + 2)) (w.2.2.2.2.2.2.2.2.2.2.2.2.1 (4 * j + 3)) K)
    rw [t1, t2, t3, q99, q111]
    exact h
  have h4 : ∀ c, c < 127 → ¬ nI c = (-4 : Int32) := by decide
  refine s_doorOf RP G (s_letter RP G (s_isG RP G ?_))
  rw [q119, q111]
  by_cases hg : cs p = 103
  · have hgg := hgu hg
    have hg3 : cs (p + 1) - 48 < 3 := by omega
    have no4 : ¬ nI (cs (p + 1) - 48) = (-4 : Int32) := h4 _ (by omega)
    rw [if_pos hg]
    refine ⟨fun _ => s_guestOf RP G hg ⟨fun z1 => ⟨fun z2 => ?_, fun z2 => ?_⟩, fun z1 => ?_⟩, fun z => absurd z one0⟩
    · obtain ⟨a1, a2⟩ := sA_ok (rsnU σ (cs (p + 1) - 48) (cs (lp cs p + 1) - 48)) (rsnU_lt _ _ _)
      refine s_shutsAsGuest R hg3 hd (fun v' hv' => hQ _ _ v' a1 a2 hv' (fun w D z Z K hK => body w D z K ?_))
      rw [if_pos hg]
      have z99 : cs (lp cs p) = 99 := by rcases hle with h | h | h <;> omega
      exact ⟨fun _ => ⟨fun _ => z_guestShutsNow (v := (z, w.2)) Z hok hg3 hd hK, fun y => absurd y no4⟩, fun y => absurd y z2, fun y => absurd z99 y⟩
    · obtain ⟨a1, a2⟩ := oA_ok σ (rsnG σ (cs (p + 1) - 48) (cs (lp cs p + 1) - 48)) (cs (lp cs p + 1) - 48) (rsnG_lt _ _ _)
      refine s_opensAsGuest R hg3 hd (fun v' hv' => hQ _ _ v' a1 a2 hv' (fun w D z Z K hK => body w D z K ?_))
      rw [if_pos hg]
      exact ⟨fun y => absurd y (by omega), fun _ => ⟨fun _ => z_guestOpensNow (v := (z, w.2)) Z hok hg3 hd hK, fun y => absurd y no4⟩, fun _ y => absurd z2 y⟩
    · obtain ⟨a1, a2⟩ := wA_ok (g := cs (p + 1) - 48) hok hd
      refine s_walksThrough R hg3 hd (fun v' hv' => hQ _ _ v' a1 a2 hv' (fun w D z Z K hK => body w D z K ?_))
      rw [if_pos hg]
      exact ⟨fun y => absurd y (by omega), fun y => absurd y (by omega), fun _ _ => z_walkNow (v := (z, w.2)) Z hok hg3 hd hK⟩
  · rw [if_neg hg]
    refine ⟨fun z => absurd rfl z, fun _ => ⟨fun z2 => ?_, fun z2 => ?_⟩⟩
    · obtain ⟨a1, a2⟩ := sA_ok (if σ.2.1.testBit (cs (lp cs p + 1) - 48) then 0 else 3) (by split <;> omega)
      refine s_servantShuts R hd (fun v' hv' => hQ _ _ v' a1 a2 hv' (fun w D z Z K hK => body w D z K ?_))
      rw [if_neg hg]
      have z99 : cs (lp cs p) = 99 := by
        rcases hle with h | h | h
        · omega
        · exact h
        · exact absurd h.1 hg
      exact ⟨fun _ => ⟨fun y => absurd rfl y, fun _ => z_shutNow (v := (z, w.2)) Z hd hK⟩, fun y => absurd y z2, fun y => absurd z99 y⟩
    · obtain ⟨a1, a2⟩ := oA_ok σ (rsn σ.1 σ.2.1 (cs (lp cs p + 1) - 48)) (cs (lp cs p + 1) - 48) (rsn_lt _ _ _)
      refine s_servantOpens R hd (fun v' hv' => hQ _ _ v' a1 a2 hv' (fun w D z Z K hK => body w D z K ?_))
      rw [if_neg hg]
      exact ⟨fun y => absurd y (by omega), fun _ => ⟨fun y => absurd rfl y, fun _ => z_openNow (v := (z, w.2)) Z hok.1 hok.2.1 hd hK⟩, fun _ y => absurd z2 y⟩
end Deed
def WOK (cs : Nat → Nat) (m K : Nat) (Hs : HistV) (Sn : StV) (Tk : Int32) (w : ModV) : Prop := AllD cs m w.2.2.2.2.2.2.2.2.2.2.2.2.1 K ∧ w.2.2.2.2.2.2.2.2.2.2.2.2.2.1 = nI K ∧ rHP Hs w.2.2.1 w.2.2.2.1 ∧ rKp Sn Tk w.2.2.2.2.1 w.2.2.2.2.2.1 ∧ w.2.2.2.2.2.2.2.1 = 0 ∧ w.2.2.2.2.2.2.2.2.1 = -4 ∧ w.2.2.2.2.2.2.2.2.2.1 = -4 ∧ w.2.2.2.2.2.2.2.2.2.2.1 = -4
theorem p_runloop {P : PadV} {cs : Nat → Nat} {m K : Nat} {Hs : HistV} {Sn : StV} {Tk : Int32} {Ws : WaysV} (RP : rPad P cs m) (hK : K ≤ 21) (hend : m < pl cs K) (hend2 : pl cs K ≤ 61) (hG : ∀ j, j < K → GD cs m (pl cs j)) :
    ∀ i j (v1 : StV) (σ : SS2) (st : StopV), j + i = K → rSt v1 σ → st.1 = 0 → ∀ Q : Int32 → CDV → Prop, (∀ r v', (∀ w, WOK cs m K Hs Sn Tk w → ∀ z, rZ z σ → ∀ K9 : Int32 → ModV → Prop, (∀ w', RR v' w' → K9 r w') → wp_X9_run_L39 K9 (i + 1) (nI j) (z, w.2)) → Q r v') → wp_X8_run_L39 Q (i + 2) (nI (pl cs j)) (nI j) (nI j) (v1, Hs, Sn, Tk, P, st, Ws) := by
  have pd0 : ∀ w, WOK cs m K Hs Sn Tk w → rPd (P.1, 0) w.2.2.2.2.2.2.1 w.2.2.2.2.2.2.2.1 := fun w hw => ⟨0, cs, rfl, hw.2.2.2.2.1, by omega, fun i hi => absurd hi (Nat.not_lt_zero i)⟩
  intro i
  induction i with
  | zero =>
    intro j v1 σ st hj R hst Q hQ
    have hj : j = K := by omega
    subst hj
    have fin : Q (nI j) (v1, Hs, Sn, Tk, (P.1, 0), st, Ws) := by
      refine hQ _ _ (fun w hw z Z K9 hK9 => ?_)
      obtain ⟨hA, hmany, hhp, hkp, hty, h1, h2, h3⟩ := id hw
      show ((w.2.2.2.2.2.2.2.2.2.2.2.2.2.1 ≤ nI j) → K9 w.2.2.2.2.2.2.2.2.2.2.2.2.2.1 (z, w.2)) ∧ (¬ (w.2.2.2.2.2.2.2.2.2.2.2.2.2.1 ≤ nI j) → _)
      rw [hmany]
      exact ⟨fun _ => hK9 _ ⟨σ, R, Z, hhp, hkp, pd0 w hw, Or.inl ⟨hst, h1, h2, h3⟩⟩, fun y => absurd (ge_self _) y⟩
    refine ⟨fun y => absurd y (ge_no (N := 60) (by omega) (by decide)), fun _ => ?_⟩
    show ((P.2 ≤ nI (pl cs j)) → _) ∧ (¬ (P.2 ≤ nI (pl cs j)) → _)
    rw [RP.1, q_le (by have := RP.2.1; omega) (by omega)]
    refine ⟨fun _ => ?_, fun y => absurd (by omega) y⟩
    rintro _ rfl
    exact fin
  | succ i ih =>
    intro j v1 σ st hj R hst Q hQ
    have G := hG j (by omega)
    obtain ⟨g1, g2, g3⟩ := GD_in G
    have hm := RP.2.1
    refine ⟨fun y => absurd y (ge_no (N := 60) (by omega) (by decide)), fun _ => ?_⟩
    show ((P.2 ≤ nI (pl cs j)) → _) ∧ (¬ (P.2 ≤ nI (pl cs j)) → _)
    rw [RP.1, q_le (by omega) (by omega)]
    refine ⟨fun y => absurd y (by omega), fun _ => ⟨fun _ => ⟨fun y => absurd rfl y, fun _ => ?_⟩, fun y => absurd hst y⟩⟩
    refine p_deed (v := (v1, Hs, Sn, Tk, P, st, Ws)) R RP G (j := j) (by omega) (fun a σ' v1' ha ha0 hv' h9 => ?_)
    rw [l10, q_le (by decide) (by omega)]
    refine ⟨fun y => ?_, fun y => ?_⟩
    · rintro _ rfl
      rw [nI_s]
      refine s_next RP G ?_
      rintro _ rfl
      refine ih (j + 1) v1' σ' st (by omega) hv' hst Q (fun r v' hh => hQ r v' (fun w hw z Z K9 hK9 => ?_))
      obtain ⟨hA, hmany, hhp, hkp, hty, h1, h2, h3⟩ := id hw
      show ((w.2.2.2.2.2.2.2.2.2.2.2.2.2.1 ≤ nI j) → _) ∧ (¬ (w.2.2.2.2.2.2.2.2.2.2.2.2.2.1 ≤ nI j) → _)
      rw [hmany, q_le (by omega) (by omega)]
      refine ⟨fun x => absurd x (by omega), fun _ => h9 w (hA j (by omega)).2 z Z _ (fun z' Z' => ?_)⟩
      rw [l10, q_le (by decide) (by omega)]
      refine ⟨fun _ => ?_, fun x => absurd y x⟩
      rintro _ rfl
      rw [nI_s]
      exact hh w hw z' Z' K9 hK9
    · have fin : Q (nI j) (v1', Hs, Sn, Tk, (P.1, 0), (nI a, nI j, nI (pl cs j)), Ws) := by
        refine hQ _ _ (fun w hw z Z K9 hK9 => ?_)
        obtain ⟨hA, hmany, hhp, hkp, hty, h1, h2, h3⟩ := id hw
        have D := (hA j (by omega)).2
        show ((w.2.2.2.2.2.2.2.2.2.2.2.2.2.1 ≤ nI j) → _) ∧ (¬ (w.2.2.2.2.2.2.2.2.2.2.2.2.2.1 ≤ nI j) → _)
        rw [hmany, q_le (by omega) (by omega)]
        refine ⟨fun x => absurd x (by omega), fun _ => h9 w D z Z _ (fun z' Z' => ?_)⟩
        rw [l10, q_le (by decide) (by omega)]
        refine ⟨fun x => absurd x y, fun _ => ?_⟩
        rw [l4m, q_in (by omega), nI_clamp (by omega)]
        refine ⟨by omega, ?_⟩
        rintro _ rfl
        refine hK9 _ ⟨σ', hv', Z', hhp, hkp, pd0 w hw, Or.inr ⟨nI_ne0 (by omega) (by omega), rfl, rfl, ?_⟩⟩
        exact D.1.symm
      show ∀ z : Int32, z = nI j + 1 → wp_X8_run_L39 Q (i + 2) (nI (pl cs j)) (nI j) z (v1', Hs, Sn, Tk, P, (nI a, nI j, nI (pl cs j)), Ws)
      rintro _ rfl
      rw [nI_s]
      refine ⟨fun _ => ?_, fun _ => ⟨fun _ => ?_, fun _ => ⟨fun x => absurd x (nI_ne0 (by omega) (by omega)), fun _ => ⟨fun _ => ?_, fun x => absurd x one0⟩⟩⟩⟩
      · rintro _ rfl; exact fin
      · rintro _ rfl; exact fin
      · rintro _ rfl; exact fin
theorem af_inv {cs : Nat → Nat} {m e p : Nat} (h : af cs (m - p) e p = none) (he : e ≠ 4) : p < m ∧ nx e (cs p) ≠ 5 ∧ af cs (m - (p + 1)) (nx e (cs p)) (p + 1) = none := by
  by_cases hp : p < m
  · refine ⟨hp, ?_⟩
    by_cases h5 : nx e (cs p) = 5
    · rw [af_stop hp h5] at h; cases h
    · rw [af_go _ hp rfl h5] at h
      exact ⟨h5, h⟩
  · rw [af_end (by omega) he] at h; cases h
theorem gd_tail {cs : Nat → Nat} {m q : Nat} (h : af cs (m - q) 3 q = none) : q < m ∧ 48 ≤ cs q ∧ cs q ≤ 57 ∧ af cs (m - (q + 1)) 4 (q + 1) = none := by
  obtain ⟨h1, h2, h3⟩ := af_inv h (by decide)
  by_cases hc : 48 ≤ cs q ∧ cs q ≤ 57
  · have e : nx 3 (cs q) = 4 := by unfold nx; simp [hc]
    rw [e] at h3
    exact ⟨h1, hc.1, hc.2, h3⟩
  · have e : nx 3 (cs q) = 5 := by unfold nx; simp [hc]
    exact absurd e h2
theorem gd_of {cs : Nat → Nat} {m p : Nat} (h : af cs (m - p) 0 p = none) : GD cs m p ∧ af cs (m - (lp cs p + 2)) 4 (lp cs p + 2) = none := by
  obtain ⟨h1, h2, h3⟩ := af_inv h (by decide)
  by_cases hg : cs p = 103
  · have e : nx 0 (cs p) = 1 := by unfold nx; simp [hg]
    rw [e] at h3
    have elp : lp cs p = p + 2 := if_pos hg
    obtain ⟨a1, a2, a3⟩ := af_inv h3 (by decide)
    by_cases hc : 48 ≤ cs (p + 1) ∧ cs (p + 1) ≤ 50
    · have e : nx 1 (cs (p + 1)) = 2 := by unfold nx; simp [hc]
      rw [e] at a3
      obtain ⟨b1, b2, b3⟩ := af_inv a3 (by decide)
      have hl : cs (p + 2) = 111 ∨ cs (p + 2) = 99 ∨ cs (p + 2) = 119 := by
        by_cases x1 : cs (p + 2) = 111
        · exact Or.inl x1
        · by_cases x2 : cs (p + 2) = 99
          · exact Or.inr (Or.inl x2)
          · by_cases x3 : cs (p + 2) = 119
            · exact Or.inr (Or.inr x3)
            · have e : nx 2 (cs (p + 2)) = 5 := by unfold nx; simp [x1, x2, x3]
              exact absurd e b2
      have e : nx 2 (cs (p + 2)) = 3 := by
        rcases hl with x | x | x <;> (unfold nx; simp [x])
      rw [show p + 1 + 1 = p + 2 from rfl, e] at b3
      obtain ⟨c1, c2, c3, c4⟩ := gd_tail b3
      refine ⟨⟨?_, fun _ => hc, ?_, ?_, ?_⟩, ?_⟩
      · rw [elp]; omega
      · rw [elp]
        rcases hl with x | x | x
        · exact Or.inl x
        · exact Or.inr (Or.inl x)
        · exact Or.inr (Or.inr ⟨hg, x⟩)
      · rw [elp]; exact c2
      · rw [elp]; exact c3
      · rw [elp]; exact c4
    · have e : nx 1 (cs (p + 1)) = 5 := by unfold nx; simp [hc]
      exact absurd e a2
  · have elp : lp cs p = p := if_neg hg
    have hl : cs p = 111 ∨ cs p = 99 := by
      by_cases x1 : cs p = 111
      · exact Or.inl x1
      · by_cases x2 : cs p = 99
        · exact Or.inr x2
        · have e : nx 0 (cs p) = 5 := by unfold nx; simp [x1, x2, hg]
          exact absurd e h2
    have e : nx 0 (cs p) = 3 := by
      rcases hl with x | x <;> (unfold nx; simp [x])
    rw [e] at h3
    obtain ⟨c1, c2, c3, c4⟩ := gd_tail h3
    refine ⟨⟨?_, fun x => absurd x hg, ?_, ?_, ?_⟩, ?_⟩
    · rw [elp]; omega
    · rw [elp]
      rcases hl with x | x
      · exact Or.inl x
      · exact Or.inr (Or.inl x)
    · rw [elp]; exact c2
    · rw [elp]; exact c3
    · rw [elp]; exact c4
theorem gd_all {cs : Nat → Nat} {m : Nat} (hm : m ≤ 60) : ∀ j k, m ≤ pl cs k + j → af cs (m - pl cs k) 0 (pl cs k) = none → ∃ K, K ≤ 21 ∧ (∀ i, k ≤ i → i < K → GD cs m (pl cs i)) ∧ m < pl cs K ∧ pl cs K ≤ 61 := by
  intro j
  induction j with
  | zero =>
    intro k hj h
    have := (af_inv h (by decide)).1
    omega
  | succ j ih =>
    intro k hj h
    obtain ⟨G, h4⟩ := gd_of h
    have e : pl cs (k + 1) = lp cs (pl cs k) + 2 + 1 := rfl
    have hge := pl_ge cs k
    have hlp := lp_ge cs (pl cs k)
    by_cases hq : lp cs (pl cs k) + 2 < m
    · have h5 : nx 4 (cs (lp cs (pl cs k) + 2)) ≠ 5 := by
        intro h5
        rw [af_stop hq h5] at h4; cases h4
      have h59 : cs (lp cs (pl cs k) + 2) = 59 := by
        by_cases x : cs (lp cs (pl cs k) + 2) = 59
        · exact x
        · exact absurd (by unfold nx; simp [x]) h5
      rw [af_go 0 hq (by unfold nx; simp [h59]) (by decide)] at h4
      rw [← e] at h4
      obtain ⟨K, k1, k2, k3, k4⟩ := ih (k + 1) (by omega) h4
      refine ⟨K, k1, fun i hi1 hi2 => ?_, k3, k4⟩
      by_cases hik : i = k
      · subst hik; exact G
      · exact k2 i (by omega) hi2
    · have := G.1
      refine ⟨k + 1, by omega, fun i hi1 hi2 => ?_, by omega, by omega⟩
      rw [show i = k by omega]
      exact G
theorem p_run {v : CDV} {w : ModV} {Q : Int32 → CDV → Prop} (hR : RR v w) (hQ : ∀ r v', (∀ K : Int32 → ModV → Prop, (∀ w', RR v' w' → K r w') → wp_X9_run w K) → Q r v') : wp_X8_run v Q := by
  obtain ⟨σ, R, Z, ⟨hs, k, H, hn, hp⟩, hkp, hpd, hsp⟩ := hR
  obtain ⟨m, cs, RP, e1, e2⟩ := pad_two hpd
  have W : zPd w cs m := ⟨e1, RP.2.1, e2⟩
  refine s_fault RP ?_
  cases ha : af cs m 0 0 with
  | some f =>
    refine ⟨fun z => ?_, fun _ => hQ _ _ (fun K hK => z_readPad W (fun f' t' n' _ => ?_) (fun s t' n h _ _ _ _ => ?_))⟩
    · have hf : ∀ k e p f, af cs k e p = some f → f ≤ p + k := by
        intro k
        induction k with
        | zero =>
          intro e p f h
          unfold af at h
          split at h
          · cases h
          · cases h; omega
        | succ k ih =>
          intro e p f h
          unfold af at h
          split at h
          · cases h; omega
          · have := ih _ _ _ h; omega
      have h61 : f < 127 := by have := hf m 0 0 f ha; have := RP.2.1; omega
      have h4 : ∀ c, c < 127 → ¬ nI c = (-4 : Int32) := by decide
      exact absurd z (h4 f h61)
    · exact ⟨fun x => absurd rfl x, fun _ => hK _ ⟨σ, R, Z, ⟨hs, k, H, hn, hp⟩, hkp, hpd, hsp⟩⟩
    · rw [ha] at h; cases h
  | none =>
    refine ⟨fun _ => s_record R H (fun u hu => ?_), fun z => absurd rfl z⟩
    obtain ⟨K, k1, k2, k3, k4⟩ := gd_all RP.2.1 m 0 (by show m ≤ 0 + m; omega) ha
    have hG : ∀ j, j < K → GD cs m (pl cs j) := fun j hj => k2 j (Nat.zero_le _) hj
    refine ⟨K + 2, p_runloop RP k1 k3 k4 hG K 0 v.1 σ _ (by omega) R rfl _ (fun r v' hh => hQ r v' (fun K9 hK9 => ?_))⟩
    refine z_readPad W (fun f' t' n' h => ?_) (fun s t' K' h b1 b2 b3 b4 => ?_)
    · rw [ha] at h; cases h
    · have eK : K' = K := by
        rcases Nat.lt_trichotomy K' K with x | x | x
        · have := (GD_in (hG K' x)).1; omega
        · exact x
        · have := (GD_in (b2 K x).1).1; omega
      subst eK
      refine ⟨fun _ => ?_, fun z => absurd z one0⟩
      refine z_record (w := setR w s t' (nI K')) Z H.1 hn hp (fun p hp' => ⟨K' + 1, ?_⟩)
      exact hh (w.1, w.2.1, p, nI (pushK k), w.2.2.2.2.1, w.2.2.2.2.2.1, w.2.2.2.2.2.2.1, 0, -4, -4, -4, s, t', nI K', w.2.2.2.2.2.2.2.2.2.2.2.2.2.2) ⟨b2, rfl, ⟨_, _, hu, rfl, hp'⟩, hkp, rfl, rfl, rfl, rfl⟩ w.1 Z K9 hK9
