/-! PURE: the reference opens a door -/
theorem pcF_cong {a b : Nat} : ∀ k, (∀ i, i < k → a.testBit i = b.testBit i) → pcF a k = pcF b k
  | 0, _ => rfl
  | k + 1, h => by unfold pcF; rw [pcF_cong k (fun i hi => h i (by omega)), h k (by omega)]
theorem pcF_or {a b : Nat} (h : ∀ i, ¬ (a.testBit i = true ∧ b.testBit i = true)) : ∀ k, pcF (a ||| b) k = pcF a k + pcF b k
  | 0 => rfl
  | k + 1 => by
    unfold pcF
    rw [pcF_or h k, Nat.testBit_or]
    have := h k
    cases h1 : a.testBit k <;> cases h2 : b.testBit k
    · simp
    · simp; omega
    · simp; omega
    · exact absurd ⟨h1, h2⟩ this
theorem pc_or {a b : Nat} (h : ∀ i, ¬ (a.testBit i = true ∧ b.testBit i = true)) : pc (a ||| b) = pc a + pc b := pcF_or h 10
theorem pcF_mono {a b : Nat} (h : ∀ i, a.testBit i = true → b.testBit i = true) : ∀ k, pcF a k ≤ pcF b k
  | 0 => Nat.le_refl 0
  | k + 1 => by
    unfold pcF
    have := pcF_mono h k
    cases h1 : a.testBit k
    · simp; omega
    · rw [h k h1]; simp; omega
theorem pc_2 : ∀ j, j < 10 → pc (2 ^ j) = 1 := by decide
theorem p2_bit (d i : Nat) : (2 ^ d).testBit i = decide (d = i) := Nat.testBit_two_pow
theorem bit_ge {n i : Nat} (hn : n < 1024) (hi : 10 ≤ i) : n.testBit i = false := by
  apply Nat.testBit_lt_two_pow
  exact Nat.lt_of_lt_of_le hn (show 2 ^ 10 ≤ 2 ^ i from Nat.pow_le_pow_right (by decide) hi)
theorem bit_lt10 {n i : Nat} (hn : n < 1024) (h : n.testBit i = true) : i < 10 := by
  rcases Nat.lt_or_ge i 10 with q | q
  · exact q
  · rw [bit_ge hn q] at h; cases h
theorem bits_eq {a b : Nat} (h : ∀ i, a.testBit i = b.testBit i) : a = b := Nat.eq_of_testBit_eq h
theorem lowF_spec (m : Nat) : ∀ k, (lowF m k = 0 ∧ ∀ i, i < k → m.testBit i = false) ∨ ∃ j, j < k ∧ lowF m k = 2 ^ j ∧ m.testBit j = true ∧ ∀ i, i < j → m.testBit i = false
  | 0 => Or.inl ⟨rfl, fun i hi => absurd hi (Nat.not_lt_zero i)⟩
  | k + 1 => by
    unfold lowF
    rcases lowF_spec m k with ⟨h1, h2⟩ | ⟨j, h1, h2, h3, h4⟩
    · rw [if_pos h1]
      cases hb : m.testBit k with
      | true => exact Or.inr ⟨k, by omega, by simp, hb, h2⟩
      | false =>
        refine Or.inl ⟨by simp, fun i hi => ?_⟩
        by_cases hik : i = k
        · rw [hik]; exact hb
        · exact h2 i (by omega)
    · have hp : 2 ^ j ≠ 0 := Nat.ne_of_gt (Nat.two_pow_pos j)
      rw [h2, if_neg hp]
      exact Or.inr ⟨j, by omega, rfl, h3, h4⟩
theorem low_ex {m : Nat} (hm : m < 1024) (h0 : m ≠ 0) : ∃ j, j < 10 ∧ lowb m = 2 ^ j ∧ m.testBit j = true ∧ ∀ i, i < j → m.testBit i = false := by
  rcases lowF_spec m 10 with ⟨h1, h2⟩ | h
  · refine absurd (bits_eq (fun i => ?_)) h0
    rw [Nat.zero_testBit]
    rcases Nat.lt_or_ge i 10 with q | q
    · exact h2 i q
    · exact bit_ge hm q
  · exact h
/-- the row after a door shut -/
def szS (σ : SS2) (d k : Nat) : SS2 := (σ.1, dif σ.2.1 (2 ^ d), σ.2.2.1, (σ.2.2.2.1, upd σ.2.2.2.2.1 d (σ.2.2.2.2.1 d + 1), σ.2.2.2.2.2.1, (if k = 2 then σ.2.2.2.2.2.2.1 + 1 else σ.2.2.2.2.2.2.1), (if k = 3 then σ.2.2.2.2.2.2.2.1 + 1 else σ.2.2.2.2.2.2.2.1), (if k = 4 then σ.2.2.2.2.2.2.2.2.1 + 1 else σ.2.2.2.2.2.2.2.2.1), σ.2.2.2.2.2.2.2.2.2))
theorem i6 {P : Nat → Prop} (h0 : P 0) (h1 : P 1) (h2 : P 2) (h3 : P 3) (h4 : P 4) (h5 : P 5) : ∀ i, i < 6 → P i := by
  intro i hi
  match i, hi with
  | 0, _ => exact h0
  | 1, _ => exact h1
  | 2, _ => exact h2
  | 3, _ => exact h3
  | 4, _ => exact h4
  | 5, _ => exact h5
theorem i7 {P : Nat → Prop} (h0 : P 0) (h1 : P 1) (h2 : P 2) (h3 : P 3) (h4 : P 4) (h5 : P 5) (h6 : P 6) : ∀ i, i < 7 → P i := by
  intro i hi
  match i, hi with
  | 0, _ => exact h0
  | 1, _ => exact h1
  | 2, _ => exact h2
  | 3, _ => exact h3
  | 4, _ => exact h4
  | 5, _ => exact h5
  | 6, _ => exact h6
theorem i3 {P : Nat → Prop} (h0 : P 0) (h1 : P 1) (h2 : P 2) : ∀ i, i < 3 → P i := by
  intro i hi
  match i, hi with
  | 0, _ => exact h0
  | 1, _ => exact h1
  | 2, _ => exact h2
section ZOpens
variable {v : ModV} {σ : SS2} {d h : Nat}
theorem z_shuts {Q : ModV → Prop} {k : Nat} (R : rZ v.1 σ) (hd : d < 10) (hk : k = 2 ∨ k = 3 ∨ k = 4) (hQ : ∀ z', rZ z' (szS σ d k) → Q (z', v.2)) : wp_X9_shuts v (nI d) (nI k) Q := by
  unfold wp_X9_shuts
  refine z_lay hd 0 (by decide) ?_
  obtain ⟨σ1, e1⟩ : ∃ σ1 : SS2, σ1 = (σ.1, dif σ.2.1 (2 ^ d), σ.2.2) := ⟨_, rfl⟩
  have R1 : rZ (upd v.1 (6 + 7 * d + 0) 0) σ1 := by
    refine rZ_updD R hd (by decide) (fun i hi => by rw [e1]; rfl) (fun e u he hu => ?_) (fun g u hg hu => by rw [e1]; rfl)
    rw [e1]
    revert u
    refine i7 ?_ ?_ ?_ ?_ ?_ ?_ ?_
    · show (if (dif σ.2.1 (2 ^ d)).testBit e then (1 : Int32) else 0) = if e = d ∧ 0 = 0 then 0 else if σ.2.1.testBit e then 1 else 0
      rw [dif_bit, p2_bit]
      by_cases hed : e = d
      · subst hed; simp
      · have : ¬ d = e := fun z => hed z.symm
        simp [hed, this]
    all_goals (rw [if_neg (by omega)]; rfl)
  refine z_of (v := (upd v.1 (6 + 7 * d + 0) 0, v.2)) R1 hd 6 (by decide) ?_
  refine z_lay (v := (upd v.1 (6 + 7 * d + 0) 0, v.2)) hd 6 (by decide) ?_
  obtain ⟨σ2, e2⟩ : ∃ σ2 : SS2, σ2 = (σ.1, dif σ.2.1 (2 ^ d), σ.2.2.1, (σ.2.2.2.1, upd σ.2.2.2.2.1 d (σ.2.2.2.2.1 d + 1), σ.2.2.2.2.2)) := ⟨_, rfl⟩
  have R2 : rZ (upd (upd v.1 (6 + 7 * d + 0) 0) (6 + 7 * d + 6) (zD σ1 d 6 + 1)) σ2 := by
    refine rZ_updD R1 hd (by decide) (fun i hi => by rw [e1, e2]; rfl) (fun e u he hu => ?_) (fun g u hg hu => by rw [e1, e2]; rfl)
    rw [e1, e2]
    revert u
    refine i7 ?_ ?_ ?_ ?_ ?_ ?_ ?_
    all_goals try (rw [if_neg (by omega)]; rfl)
    show upd σ.2.2.2.2.1 d (σ.2.2.2.2.1 d + 1) e = if e = d ∧ 6 = 6 then σ.2.2.2.2.1 d + 1 else σ.2.2.2.2.1 e
    unfold upd
    by_cases hed : e = d <;> simp [hed]
  have hk6 : k < 6 := by omega
  show vp_in (nI k) 85 ∧ (vp_in (nI k) 85 ∧ _)
  rw [q_in (by omega), nI_clamp (by omega)]
  refine ⟨by omega, by omega, ?_⟩
  rintro _ rfl
  refine hQ _ (rZ_updH R2 hk6 (fun i hi => ?_) (fun e u he hu => ?_) (fun g u hg hu => ?_))
  · have hz : (upd (upd v.1 (6 + 7 * d + 0) 0) (6 + 7 * d + 6) (zD σ1 d 6 + 1)) k = zH σ2 k := rZ_H R2 hk6
    show zH (szS σ d k) i = if i = k then (upd (upd v.1 (6 + 7 * d + 0) 0) (6 + 7 * d + 6) (zD σ1 d 6 + 1)) k + 1 else zH σ2 i
    rw [hz, e2]
    rcases hk with rfl | rfl | rfl
    · revert i; exact i6 rfl rfl rfl rfl rfl rfl
    · revert i; exact i6 rfl rfl rfl rfl rfl rfl
    · revert i; exact i6 rfl rfl rfl rfl rfl rfl
  · rw [e2]; rfl
  · rw [e2]; rfl
theorem z_lowestIn {Q : Int32 → Prop} {bt j : Nat} (R : rZ v.1 σ) (hok : okL σ.1) (hh : h < 6) (hb : bt < 10) (hj : j < 10) (h1 : (dif (σ.2.1 &&& doors σ.1 h) (2 ^ bt)).testBit j = true) (h2 : ∀ i, i < j → (dif (σ.2.1 &&& doors σ.1 h) (2 ^ bt)).testBit i = false) (hQ : Q (nI j)) : wp_X9_lowestIn v (nI h) (nI bt) Q := by
  have key : ∀ k (x : Int32), k ≤ 10 → (k ≤ j → x = nI j) → wp_X9_lowestIn_L7 v (nI h) (nI bt) Q (k + 1) x (nI k + (-1 : Int32)) := by
    intro k
    induction k with
    | zero =>
      intro x _ hx
      rw [hx (Nat.zero_le j)]
      exact ⟨fun _ => hQ, fun z => absurd (by decide) z⟩
    | succ k ih =>
      intro x hk hx
      have hk10 : k < 10 := by omega
      have hbit : (dif (σ.2.1 &&& doors σ.1 h) (2 ^ bt)).testBit k = (σ.2.1.testBit k && jn σ.1 k h && !decide (bt = k)) := by
        rw [dif_bit, Nat.testBit_and, doors_bit, p2_bit]
        simp [hk10]
      rw [pk_m1]
      refine ⟨fun z => absurd z (nI_pos (by omega)), fun _ => ⟨fun z => ?_, fun z => ?_⟩⟩
      · rintro _ rfl
        rw [q_eq (by omega) (by omega)] at z
        have hf : (dif (σ.2.1 &&& doors σ.1 h) (2 ^ bt)).testBit k = false := by rw [hbit]; simp [z]
        refine ih x (by omega) (fun y => hx ?_)
        by_cases hkj : k = j
        · rw [← hkj, hf] at h1; cases h1
        · omega
      · rw [q_eq (by omega) (by omega)] at z
        refine z_isOpen R hk10 ?_
        cases hc : σ.2.1.testBit k
        · refine ⟨fun _ => ?_, fun y => absurd rfl y⟩
          rintro _ rfl
          have hf : (dif (σ.2.1 &&& doors σ.1 h) (2 ^ bt)).testBit k = false := by rw [hbit, hc]; rfl
          refine ih x (by omega) (fun y => hx ?_)
          by_cases hkj : k = j
          · rw [← hkj, hf] at h1; cases h1
          · omega
        · refine ⟨fun y => absurd y (by decide), fun _ => z_joins R hok hk10 hh ?_⟩
          cases hc2 : jn σ.1 k h
          · refine ⟨fun _ => ?_, fun y => absurd rfl y⟩
            rintro _ rfl
            have hf : (dif (σ.2.1 &&& doors σ.1 h) (2 ^ bt)).testBit k = false := by rw [hbit, hc, hc2]; rfl
            refine ih x (by omega) (fun y => hx ?_)
            by_cases hkj : k = j
            · rw [← hkj, hf] at h1; cases h1
            · omega
          · refine ⟨fun y => absurd y (by decide), fun _ => ?_⟩
            rintro _ rfl
            have hz2 : ¬ bt = k := fun y => z y.symm
            have ht : (dif (σ.2.1 &&& doors σ.1 h) (2 ^ bt)).testBit k = true := by rw [hbit, hc, hc2]; simp [hz2]
            refine ih (nI k) (by omega) (fun y => ?_)
            by_cases hkj : k = j
            · rw [hkj]
            · have := h2 k (by omega); rw [ht] at this; cases this
  exact ⟨11, key 10 (-4) (Nat.le_refl _) (fun y => absurd y (by omega))⟩
/-- doors gone by cords (k = 3) or drafts (k = 4) since σ -/
def gone (σ : SS2) (k n : Nat) : SS2 := (σ.1, n, σ.2.2.1, (σ.2.2.2.1, (fun e => if (dif σ.2.1 n).testBit e then σ.2.2.2.2.1 e + 1 else σ.2.2.2.2.1 e), σ.2.2.2.2.2.1, σ.2.2.2.2.2.2.1, (if k = 3 then σ.2.2.2.2.2.2.2.1 + nI (pc (dif σ.2.1 n)) else σ.2.2.2.2.2.2.2.1), (if k = 4 then σ.2.2.2.2.2.2.2.2.1 + nI (pc (dif σ.2.1 n)) else σ.2.2.2.2.2.2.2.2.1), σ.2.2.2.2.2.2.2.2.2))
theorem dif_self (n : Nat) : dif n n = 0 := bits_eq (fun i => by rw [dif_bit, Nat.zero_testBit]; cases n.testBit i <;> rfl)
theorem pc_0 : pc 0 = 0 := by decide
theorem dif_step {m n j : Nat} (hs : ∀ i, n.testBit i = true → m.testBit i = true) (hj : n.testBit j = true) : dif m (dif n (2 ^ j)) = dif m n ||| 2 ^ j := by
  refine bits_eq (fun i => ?_)
  rw [Nat.testBit_or, dif_bit, dif_bit, dif_bit, p2_bit]
  by_cases hij : j = i
  · subst hij
    simp [hs j hj]
  · simp [hij]
theorem pc_step {m n j : Nat} (hs : ∀ i, n.testBit i = true → m.testBit i = true) (hj : n.testBit j = true) (hj10 : j < 10) : pc (dif m (dif n (2 ^ j))) = pc (dif m n) + 1 := by
  rw [dif_step hs hj, pc_or (fun i => ?_), pc_2 j hj10]
  rw [dif_bit, p2_bit]
  rintro ⟨h1, h2⟩
  simp at h2
  subst h2
  simp [hj] at h1
theorem rZ_gone {z : Nat → Int32} {σ : SS2} {k n j : Nat} (hk : k = 3 ∨ k = 4) (hs : ∀ i, n.testBit i = true → σ.2.1.testBit i = true) (hj : n.testBit j = true) (hj10 : j < 10) (R : rZ z (szS (gone σ k n) j k)) : rZ z (gone σ k (dif n (2 ^ j))) := by
  have hp := pc_step hs hj hj10
  refine rZ_of (fun i hi => ?_) (fun e u he hu => ?_) (fun g u hg hu => ?_)
  · rw [rZ_H R hi]
    rcases hk with rfl | rfl
    · revert i
      refine i6 rfl rfl rfl ?_ rfl rfl
      show σ.2.2.2.2.2.2.2.1 + nI (pc (dif σ.2.1 n)) + 1 = σ.2.2.2.2.2.2.2.1 + nI (pc (dif σ.2.1 (dif n (2 ^ j))))
      rw [hp, ← nI_s, Int32.add_assoc]
    · revert i
      refine i6 rfl rfl rfl rfl ?_ rfl
      show σ.2.2.2.2.2.2.2.2.1 + nI (pc (dif σ.2.1 n)) + 1 = σ.2.2.2.2.2.2.2.2.1 + nI (pc (dif σ.2.1 (dif n (2 ^ j))))
      rw [hp, ← nI_s, Int32.add_assoc]
  · rw [rZ_D R he hu]
    revert u
    refine i7 rfl rfl rfl rfl rfl rfl ?_
    show upd (fun e => if (dif σ.2.1 n).testBit e then σ.2.2.2.2.1 e + 1 else σ.2.2.2.2.1 e) j ((if (dif σ.2.1 n).testBit j then σ.2.2.2.2.1 j + 1 else σ.2.2.2.2.1 j) + 1) e = if (dif σ.2.1 (dif n (2 ^ j))).testBit e then σ.2.2.2.2.1 e + 1 else σ.2.2.2.2.1 e
    rw [dif_step hs hj, Nat.testBit_or, p2_bit]
    have hjf : (dif σ.2.1 n).testBit j = false := by rw [dif_bit, hj]; simp
    by_cases hej : e = j
    · subst hej
      rw [updS, hjf]
      simp
    · rw [updO hej]
      have : ¬ j = e := fun y => hej y.symm
      simp [this]
  · rw [rZ_G R hg hu]; rfl
end ZOpens
