/-! PURE: doors that can be together, told in two ways -/
theorem canB_mono {L : LoS} {n m : Nat} (h : canB L m = true) (hs : ∀ i, n.testBit i = true → m.testBit i = true) : canB L n = true := by
  unfold canB at h ⊢
  rw [Bool.and_eq_true, decide_eq_true_eq] at h ⊢
  obtain ⟨h1, h2⟩ := h
  refine ⟨(indep_iff L n).mpr (indep_sub ((indep_iff L m).mp h1) hs), ?_⟩
  have key : ∀ k, cbF L m k = true → cbF L n k = true := by
    intro k
    induction k with
    | zero => exact fun _ => rfl
    | succ k ih =>
      intro hk
      unfold cbF at hk ⊢
      rw [Bool.and_eq_true] at hk ⊢
      refine ⟨ih hk.1, ?_⟩
      have h3 : pc (doors L k &&& n) ≤ pc (doors L k &&& m) := by
        refine pcF_mono (fun i hi => ?_) 10
        rw [Nat.testBit_and, Bool.and_eq_true] at hi ⊢
        exact ⟨hi.1, hs i hi.2⟩
      have h4 := hk.2
      unfold tooMany at h4 ⊢
      simp only [Bool.not_eq_true', decide_eq_false_iff_not] at h4 ⊢
      omega
  exact key 6 h2
theorem canB_0 (L : LoS) : canB L 0 = true := by
  unfold canB
  rw [Bool.and_eq_true, decide_eq_true_eq]
  refine ⟨Nat.and_zero _, ?_⟩
  have key : ∀ k, cbF L 0 k = true := by
    intro k
    induction k with
    | zero => rfl
    | succ k ih =>
      unfold cbF
      rw [ih]
      unfold tooMany
      rw [Nat.and_zero, pc_0]
      simp
  exact key 6
def mxF (L : LoS) : Nat → Nat
  | 0 => 0
  | s + 1 => if canB L s then max (mxF L s) (pc s) else mxF L s
theorem mxF_le (L : LoS) : ∀ k, mxF L k ≤ 10
  | 0 => Nat.zero_le _
  | k + 1 => by
    have := mxF_le L k
    have := pc_le k
    unfold mxF
    split <;> omega
theorem mxF_bd (L : LoS) : ∀ k s, s < k → canB L s = true → pc s ≤ mxF L k
  | 0, s, h, _ => absurd h (Nat.not_lt_zero s)
  | k + 1, s, h, hc => by
    unfold mxF
    by_cases hk : s = k
    · subst hk
      rw [if_pos hc]
      omega
    · have := mxF_bd L k s (by omega) hc
      split <;> omega
theorem mxF_at (L : LoS) : ∀ k, k ≤ 1024 → ∃ s, s < 1024 ∧ canB L s = true ∧ pc s = mxF L k
  | 0, _ => ⟨0, by decide, canB_0 L, pc_0⟩
  | k + 1, h => by
    obtain ⟨s, h1, h2, h3⟩ := mxF_at L k (by omega)
    unfold mxF
    by_cases hc : canB L k = true
    · rw [if_pos hc]
      by_cases hm : mxF L k ≤ pc k
      · exact ⟨k, by omega, hc, by omega⟩
      · exact ⟨s, h1, h2, by omega⟩
    · rw [if_neg hc]
      exact ⟨s, h1, h2, h3⟩
theorem s_most {v : CDV} {L : LoS} {Q : Int32 → Prop} (R : rLoom v.1.1 L) (hQ : Q (nI (mxF L 1024))) : wp_X8_mostOfAllSets v Q := by
  refine loop_f (fun k i s => wp_X8_mostOfAllSets_L4 v Q k s i) 1024 (fun i => nI (mxF L i)) ?_ ?_
  · intro k; exact ⟨fun _ => hQ, fun z => absurd (show (1023 : Int32) < nI 1024 by decide) z⟩
  · intro k i hi ih
    refine ⟨fun z => absurd z (nI_nlt (a := 1023) (b := i) (by omega) (by decide)), fun _ => s_canBeOpen R hi ?_⟩
    unfold mxF at ih
    cases hc : canB L i <;> rw [hc] at ih
    · refine ⟨fun _ => ?_, fun z => absurd rfl z⟩
      rintro _ rfl
      rw [nI_s]
      exact ih
    · refine ⟨fun z => absurd z one0, fun _ => s_bitCount hi ?_⟩
      have h1 := mxF_le L i
      have h2 := pc_le i
      rintro _ rfl _ rfl
      rw [nI_s, q_max (by omega) (by omega)]
      exact ih
theorem s_mdd {v : LoomV} {L : LoS} (R : rLoom v L) : ∀ k d t (Q : Int32 → Prop), d + k = 10 → t < 2 ^ d → canB L t = true → (∀ m, (∃ s, s < 1024 ∧ canB L s = true ∧ pc s = m) → (∀ s, s < 1024 → canB L s = true → (∀ i, i < d → s.testBit i = t.testBit i) → pc s ≤ m) → Q (nI m)) → wp_X8_mostDoorByDoor (k + 1) v (nI d) (nI t) Q := by
  intro k
  induction k with
  | zero =>
    intro d t Q hd ht hc hQ
    have hd : d = 10 := by omega
    subst hd
    refine ⟨fun z => absurd z (by decide), fun _ => s_bitCount ht (hQ _ ⟨t, ht, hc, rfl⟩ (fun s hs _ h => ?_))⟩
    exact Nat.le_of_eq (pcF_cong 10 h)
  | succ k ih =>
    intro d t Q hd ht hc hQ
    have hd10 : d < 10 := by omega
    have hp : 2 ^ d < 2 ^ (d + 1) := Nat.pow_lt_pow_right (by decide) (by omega)
    have hp10 : 2 ^ (d + 1) ≤ 2 ^ 10 := Nat.pow_le_pow_right (by decide) (by omega)
    have htd : t.testBit d = false := Nat.testBit_lt_two_pow ht
    have hw : t ||| 2 ^ d < 2 ^ (d + 1) := or_lt (by omega) hp
    refine ⟨fun _ => ?_, fun z => absurd (nI_lt hd10 (by decide)) z⟩
    rw [nI_s]
    refine ih (d + 1) t _ (by omega) (by omega) hc (fun m1 hm1 hb1 => ?_)
    rintro _ rfl
    rw [q_sh1 (by omega), q_or]
    refine s_canBeOpen R (by omega) ?_
    have away : ∀ s m, (∀ s, s < 1024 → canB L s = true → (∀ i, i < d + 1 → s.testBit i = t.testBit i) → pc s ≤ m) → s < 1024 → canB L s = true → (∀ i, i < d → s.testBit i = t.testBit i) → s.testBit d = false → pc s ≤ m := by
      intro s m hm hs hcs ha hsd
      refine hm s hs hcs (fun i hi => ?_)
      by_cases hid : i = d
      · rw [hid, hsd, htd]
      · exact ha i (by omega)
    cases hcw : canB L (t ||| 2 ^ d)
    · refine ⟨fun z => absurd rfl z, fun _ => hQ m1 hm1 (fun s hs hcs ha => ?_)⟩
      cases hsd : s.testBit d
      · exact away s m1 hb1 hs hcs ha hsd
      · have : canB L (t ||| 2 ^ d) = true := by
          refine canB_mono hcs (fun i hi => ?_)
          rw [Nat.testBit_or, p2_bit, Bool.or_eq_true, decide_eq_true_eq] at hi
          rcases hi with h1 | h1
          · rcases Nat.lt_or_ge i d with q | q
            · rw [ha i q]; exact h1
            · have : t.testBit i = false := Nat.testBit_lt_two_pow (Nat.lt_of_lt_of_le ht (Nat.pow_le_pow_right (by decide) q))
              rw [this] at h1; cases h1
          · rw [← h1]; exact hsd
        rw [this] at hcw; cases hcw
    · refine ⟨fun _ => ih (d + 1) (t ||| 2 ^ d) _ (by omega) hw hcw (fun m2 hm2 hb2 => ?_), fun z => absurd z one0⟩
      have h1 : m1 ≤ 10 := by obtain ⟨s, _, _, rfl⟩ := hm1; exact pc_le s
      have h2 : m2 ≤ 10 := by obtain ⟨s, _, _, rfl⟩ := hm2; exact pc_le s
      rw [q_max (by omega) (by omega)]
      refine hQ _ ?_ (fun s hs hcs ha => ?_)
      · rcases Nat.le_total m1 m2 with q | q
        · rw [Nat.max_eq_right q]; exact hm2
        · rw [Nat.max_eq_left q]; exact hm1
      · cases hsd : s.testBit d
        · have := away s m1 hb1 hs hcs ha hsd
          omega
        · have := hb2 s hs hcs (fun i hi => by
            rw [Nat.testBit_or, p2_bit]
            by_cases hid : i = d
            · subst hid; rw [hsd]; simp
            · have : ¬ d = i := fun y => hid y.symm
              rw [ha i (by omega)]; simp [this])
          omega
theorem z_together {v : ModV} {σ : SS2} {P : Int32 → Prop} (Z : rZ v.1 σ) (hok : okL σ.1) (hP : P (nI (mxF σ.1 1024))) : ∃ k, wp_X9_together_L15 v P k (0 : Int32) (0 : Int32) := by
  refine loop_f (fun k i s => wp_X9_together_L15 v P k s i) 1024 (fun i => nI (mxF σ.1 i)) ?_ ?_
  · intro k; exact ⟨fun _ => hP, fun z => absurd (ge_self _) z⟩
  · intro k i hi ih
    refine ⟨fun z => absurd z (ge_no hi (by decide)), fun _ => z_size (by omega) ?_⟩
    have h1 := mxF_le σ.1 i
    have h2 := pc_le i
    unfold mxF at ih
    rw [q_le (by omega) (by omega)]
    refine ⟨fun z => ?_, fun z => z_canBe Z hok hi ?_⟩
    · rintro _ rfl
      rw [nI_s]
      have e : (if canB σ.1 i = true then max (mxF σ.1 i) (pc i) else mxF σ.1 i) = mxF σ.1 i := by
        split
        · exact Nat.max_eq_left z
        · rfl
      rw [e] at ih
      exact ih
    · cases hc : canB σ.1 i <;> rw [hc] at ih
      · refine ⟨fun _ => ?_, fun y => absurd rfl y⟩
        rintro _ rfl
        rw [nI_s]
        exact ih
      · refine ⟨fun y => absurd y one0, fun _ => z_size (by omega) ?_⟩
        rintro _ rfl
        rw [nI_s]
        have e : (if true = true then max (mxF σ.1 i) (pc i) else mxF σ.1 i) = pc i := by
          rw [if_pos rfl]; omega
        rw [e] at ih
        exact ih
theorem p_together {v : CDV} {w : ModV} {Q : Int32 → Prop} {i : Int32} (hR : RR v w) (hQ : ∀ r, (∀ K : Int32 → Prop, K r → wp_X9_together w i K) → Q r) : wp_X8_together v i Q := by
  obtain ⟨σ, R, Z, -⟩ := hR
  refine ⟨?_, ?_, fun z0 z1 => hQ _ (fun K hK => ?_)⟩
  · rintro rfl
    exact s_most R.2.1 (hQ _ (fun K hK => in9t (d := 0) (a := 0) (b := 1) (by omega) (by omega) (by decide) ⟨fun _ => z_together Z R.1.1 hK, fun z => absurd z one0⟩))
  · rintro rfl
    refine s_mdd R.2.1 10 0 0 _ rfl (by decide) (canB_0 _) (fun m hm hb => ?_)
    have e : m = mxF σ.1 1024 := by
      obtain ⟨s, h1, h2, rfl⟩ := hm
      obtain ⟨s2, h3, h4, h5⟩ := mxF_at σ.1 1024 (Nat.le_refl _)
      have := mxF_bd σ.1 1024 s h1 h2
      have := hb s2 h3 h4 (fun i hi => absurd hi (Nat.not_lt_zero i))
      omega
    rw [e]
    exact hQ _ (fun K hK => in9t (d := 1) (a := 0) (b := 1) (by omega) (by omega) (by decide) ⟨fun _ => z_together Z R.1.1 hK, fun z => absurd z one0⟩)
  · refine in9f ?_ ⟨fun z => absurd rfl z, fun _ => hK⟩
    rcases rng i (N := 2) (by decide) with ⟨d, hd, rfl⟩ | h
    · rw [l0, q_eq (by omega) (by decide)] at z0
      rw [l1, q_eq (by omega) (by decide)] at z1
      omega
    · exact h.imp id (gt_of_ge (N := 1) (by decide))
