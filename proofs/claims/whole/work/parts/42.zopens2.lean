/-! PURE: the reference opens a door, second part -/
theorem pc_trans {a b c : Nat} (h1 : ∀ i, b.testBit i = true → a.testBit i = true) (h2 : ∀ i, c.testBit i = true → b.testBit i = true) : pc (dif a c) = pc (dif a b) + pc (dif b c) := by
  rw [← pc_or]
  · congr 1
    refine bits_eq (fun i => ?_)
    rw [Nat.testBit_or, dif_bit, dif_bit, dif_bit]
    have a1 := h1 i
    have a2 := h2 i
    cases x : a.testBit i <;> cases y : b.testBit i <;> cases z : c.testBit i <;> simp_all
  · intro i
    rw [dif_bit, dif_bit]
    cases x : a.testBit i <;> cases y : b.testBit i <;> cases z : c.testBit i <;> simp_all
theorem many_ex {L : LoS} {d h n : Nat} (hok : okL L) (hd : d < 10) (ht : tooMany L h n = true) : dif (n &&& doors L h) (2 ^ d) ≠ 0 := by
  intro h0
  unfold tooMany at ht
  have hdr := hok.2.1
  have h1 : pc (doors L h &&& n) ≤ pc (2 ^ d) := by
    refine pcF_mono (fun i hi => ?_) 10
    have h2 : (dif (n &&& doors L h) (2 ^ d)).testBit i = false := by rw [h0]; simp
    rw [dif_bit, Nat.and_comm n, hi] at h2
    simpa using h2
  rw [pc_2 d hd] at h1
  have := of_decide_eq_true ht
  omega
theorem pc_less {L : LoS} {h n j : Nat} (hj10 : j < 10) (hj : (doors L h &&& n).testBit j = true) : pc (doors L h &&& dif n (2 ^ j)) + 1 = pc (doors L h &&& n) := by
  rw [← pc_2 j hj10, ← pc_or]
  · congr 1
    refine bits_eq (fun i => ?_)
    rw [Nat.testBit_or, Nat.testBit_and, Nat.testBit_and, dif_bit, p2_bit]
    rw [Nat.testBit_and] at hj
    by_cases hij : j = i
    · subst hij; rw [hj]; simp
    · simp [hij]
  · intro i
    rw [Nat.testBit_and, dif_bit, p2_bit]
    rintro ⟨h1, h2⟩
    simp at h2
    subst h2
    simp at h1
theorem in85 {k : Nat} (h : k < 85) : vp_in (nI k) 85 := vp_in_nI h (by decide)
theorem z_slam {σ : SS2} {d h : Nat} {Q : Int32 → ModV → Prop} {K : Int32 → Int32 → ModV → Prop} (hok : okL σ.1) (hd : d < 10) (hh : h < 6) : ∀ k n c (v : ModV), n < 1024 → (∀ i, n.testBit i = true → σ.2.1.testBit i = true) → pc (doors σ.1 h &&& n) ≤ k → rZ v.1 (gone σ 4 n) → (∀ z', rZ z' (gone σ 4 (slam σ.1 d h k n)) → K (nI (c + pc (dif n (slam σ.1 d h k n)))) (nI (h + 1)) (z', v.2)) → wp_X9_opens_L81 (nI d) (nI h) Q K (k + 1) (nI c) v := by
  intro k
  induction k with
  | zero =>
    intro n c v hn hs hp R hK
    refine z_openIn R hok hh ?_
    have hdr := hok.2
    refine ⟨in85 (k := 0) (by decide), ?_⟩
    have hz : v.1 (0 : Int32).toNatClampNeg = nI σ.1.2.2.2.2 := (show v.1 0 = zH (gone σ 4 n) 0 from rZ_H R (by decide))
    rw [hz]
    show ((nI (pc (doors σ.1 h &&& n)) ≤ nI σ.1.2.2.2.2) → _) ∧ ((¬ nI (pc (doors σ.1 h &&& n)) ≤ nI σ.1.2.2.2.2) → _)
    rw [q_le (by omega) (by omega)]
    refine ⟨fun _ => ?_, fun z => absurd (show pc (doors σ.1 h &&& n) ≤ σ.1.2.2.2.2 by omega) z⟩
    rintro _ rfl
    rw [nI_s]
    have := hK v.1 R
    rw [show slam σ.1 d h 0 n = n from rfl, dif_self, pc_0, Nat.add_zero] at this
    exact this
  | succ k ih =>
    intro n c v hn hs hp R hK
    refine z_openIn R hok hh ?_
    have hdr := hok.2
    have hpc := pc_le (doors σ.1 h &&& n)
    refine ⟨in85 (k := 0) (by decide), ?_⟩
    have hz : v.1 (0 : Int32).toNatClampNeg = nI σ.1.2.2.2.2 := (show v.1 0 = zH (gone σ 4 n) 0 from rZ_H R (by decide))
    rw [hz]
    show ((nI (pc (doors σ.1 h &&& n)) ≤ nI σ.1.2.2.2.2) → _) ∧ ((¬ nI (pc (doors σ.1 h &&& n)) ≤ nI σ.1.2.2.2.2) → _)
    rw [q_le (by omega) (by omega)]
    refine ⟨fun y => ?_, fun y => ?_⟩
    · have ht : tooMany σ.1 h n = false := decide_eq_false (by omega)
      rintro _ rfl
      rw [nI_s]
      have e : slam σ.1 d h (k + 1) n = n := by
        show (if tooMany σ.1 h n then slam σ.1 d h k (dif n (lowb (dif (n &&& doors σ.1 h) (2 ^ d)))) else n) = _
        rw [ht]; rfl
      have := hK v.1 (by rw [e]; exact R)
      rw [e, dif_self, pc_0, Nat.add_zero] at this
      exact this
    · have ht : tooMany σ.1 h n = true := decide_eq_true (by omega)
      have hlt : dif (n &&& doors σ.1 h) (2 ^ d) < 1024 := dif_lt (k := 10) (and_lt (k := 10) hn)
      obtain ⟨j, hj10, hlow, hj, hmin⟩ := low_ex hlt (many_ex hok hd ht)
      have hj2 : n.testBit j = true ∧ (doors σ.1 h).testBit j = true := by
        rw [dif_bit, Nat.testBit_and] at hj
        simp only [Bool.and_eq_true] at hj
        exact hj.1
      refine z_lowestIn R hok hh hd hj10 hj hmin (z_shuts R hj10 (Or.inr (Or.inr rfl)) (fun z' R' => ?_))
      rintro _ rfl
      rw [nI_s]
      have e : slam σ.1 d h (k + 1) n = slam σ.1 d h k (dif n (2 ^ j)) := by
        show (if tooMany σ.1 h n then slam σ.1 d h k (dif n (lowb (dif (n &&& doors σ.1 h) (2 ^ d)))) else n) = _
        rw [ht, hlow]; rfl
      have hsub : ∀ i, (dif n (2 ^ j)).testBit i = true → n.testBit i = true := fun i y2 => by rw [dif_bit, Bool.and_eq_true] at y2; exact y2.1
      have hpl := pc_less (L := σ.1) (h := h) (n := n) hj10 (by rw [Nat.testBit_and, hj2.1, hj2.2]; rfl)
      refine ih (dif n (2 ^ j)) (c + 1) (z', v.2) (dif_lt (k := 10) hn) (fun i y2 => hs i (hsub i y2)) (by omega) (rZ_gone (Or.inr rfl) hs hj2.1 hj10 R') (fun z2 R2 => ?_)
      have h3 := hK z2 (by rw [e]; exact R2)
      rw [e] at h3
      have h4 : pc (dif n (slam σ.1 d h k (dif n (2 ^ j)))) = 1 + pc (dif (dif n (2 ^ j)) (slam σ.1 d h k (dif n (2 ^ j)))) := by
        rw [pc_trans hsub (fun i y2 => slam_sub σ.1 d h k _ i y2)]
        have := pc_step (m := n) (fun _ y2 => y2) hj2.1 hj10
        rw [dif_self, pc_0] at this
        omega
      rw [h4, ← Nat.add_assoc] at h3
      exact h3
theorem z_drafts {σ : SS2} {d : Nat} {Q : Int32 → ModV → Prop} (hok : okL σ.1) (hd : d < 10) (hop : σ.2.1 < 1024) (c : Nat) : ∀ k h (v : ModV), h + k = 6 → rZ v.1 (gone σ 4 (drF σ.1 d σ.2.1 h)) → (∀ z', rZ z' (gone σ 4 (drF σ.1 d σ.2.1 6)) → Q (nI (c + pc (dif σ.2.1 (drF σ.1 d σ.2.1 6)))) (z', v.2)) → wp_X9_opens_L75 (nI d) Q (k + 1) (nI (c + pc (dif σ.2.1 (drF σ.1 d σ.2.1 h)))) (nI h) v := by
  intro k
  induction k with
  | zero =>
    intro h v hk R hQ
    have hk : h = 6 := by omega
    subst hk
    exact ⟨fun _ => hQ v.1 R, fun z => absurd (ge_self _) z⟩
  | succ k ih =>
    intro h v hk R hQ
    have hh : h < 6 := by omega
    refine ⟨fun z => absurd z (ge_no hh (by decide)), fun _ => ⟨11, ?_⟩⟩
    refine z_slam hok hd hh 10 (drF σ.1 d σ.2.1 h) _ v (drF_lt σ.1 d hop h) (fun i y => drF_sub σ.1 d _ h i y) (pc_le _) R (fun z' R' => ?_)
    have e : slam σ.1 d h 10 (drF σ.1 d σ.2.1 h) = drF σ.1 d σ.2.1 (h + 1) := rfl
    rw [e] at R' ⊢
    have hp := pc_trans (a := σ.2.1) (b := drF σ.1 d σ.2.1 h) (c := drF σ.1 d σ.2.1 (h + 1)) (fun i y => drF_sub σ.1 d _ h i y) (fun i y => slam_sub σ.1 d h 10 _ i y)
    rw [Nat.add_assoc, ← hp]
    exact ih (h + 1) (z', v.2) (by omega) R' hQ
/-- doors left when the first i of a set have gone -/
def cnF (n t : Nat) : Nat → Nat
  | 0 => n
  | i + 1 => if t.testBit i && (cnF n t i).testBit i then dif (cnF n t i) (2 ^ i) else cnF n t i
theorem cnF_bit (n t e : Nat) : ∀ i, (cnF n t i).testBit e = (n.testBit e && !(t.testBit e && decide (e < i)))
  | 0 => by simp [cnF]
  | i + 1 => by
    have ih := cnF_bit n t e i
    unfold cnF
    by_cases hc : (t.testBit i && (cnF n t i).testBit i) = true
    · rw [if_pos hc, dif_bit, p2_bit, ih]
      rw [Bool.and_eq_true] at hc
      by_cases hei : i = e
      · subst hei
        rw [hc.1]; simp
      · have : decide (e < i + 1) = decide (e < i) := decide_eq_decide.mpr (by omega)
        simp [hei, this]
    · rw [if_neg hc, ih]
      by_cases hei : e = i
      · subst hei
        have h2 := cnF_bit n t e e
        rw [h2] at hc
        simp at hc
        cases hn : n.testBit e with
        | false => rfl
        | true =>
          cases ht : t.testBit e with
          | false => simp
          | true => exact absurd hn (by simpa using hc ht)
      · have : decide (e < i + 1) = decide (e < i) := decide_eq_decide.mpr (by omega)
        rw [this]
theorem cnF_sub {n t : Nat} (i : Nat) : ∀ e, (cnF n t i).testBit e = true → n.testBit e = true := by
  intro e h
  rw [cnF_bit, Bool.and_eq_true] at h
  exact h.1
theorem z_cords {σ : SS2} {d : Nat} {Q : Int32 → ModV → Prop} (hok : okL σ.1) (hd : d < 10) : ∀ k i (v : ModV), i + k = 10 → rZ v.1 (gone σ 3 (cnF σ.2.1 (tg σ.1 d) i)) → (∀ z', rZ z' (gone σ 3 (cnF σ.2.1 (tg σ.1 d) 10)) → ∃ m, wp_X9_opens_L75 (nI d) Q m (nI (pc (dif σ.2.1 (cnF σ.2.1 (tg σ.1 d) 10)))) (0 : Int32) (z', v.2)) → wp_X9_opens_L35 (nI d) Q (k + 1) (nI (pc (dif σ.2.1 (cnF σ.2.1 (tg σ.1 d) i)))) (nI i) v := by
  intro k
  induction k with
  | zero =>
    intro i v hi R hQ
    have hi : i = 10 := by omega
    subst hi
    exact ⟨fun _ => hQ v.1 R, fun z => absurd (ge_self _) z⟩
  | succ k ih =>
    intro i v hi R hQ
    have hi10 : i < 10 := by omega
    refine ⟨fun z => absurd z (ge_no hi10 (by decide)), fun _ => z_goesTo R hok hd hi10 ?_⟩
    show (((if (tg σ.1 d).testBit i then (1 : Int32) else 0) = 0) → _) ∧ _
    cases hb : (tg σ.1 d).testBit i
    · refine ⟨fun _ => ?_, fun z => absurd (show (if (tg σ.1 d).testBit i then (1 : Int32) else 0) = 0 by rw [hb]; rfl) z⟩
      rintro _ rfl
      rw [nI_s]
      have e : cnF σ.2.1 (tg σ.1 d) (i + 1) = cnF σ.2.1 (tg σ.1 d) i := by
        show (if _ then _ else _) = _
        rw [hb]; rfl
      have := ih (i + 1) v (by omega) (by rw [e]; exact R) hQ
      rw [e] at this
      exact this
    · refine ⟨fun z => absurd z (by decide), fun _ => z_isOpen R hi10 ?_⟩
      show (((if (cnF σ.2.1 (tg σ.1 d) i).testBit i then (1 : Int32) else 0) = 0) → _) ∧ _
      cases hc : (cnF σ.2.1 (tg σ.1 d) i).testBit i
      · refine ⟨fun _ => ?_, fun z => absurd (show (if (cnF σ.2.1 (tg σ.1 d) i).testBit i then (1 : Int32) else 0) = 0 by rw [hc]; rfl) z⟩
        rintro _ rfl
        rw [nI_s]
        have e : cnF σ.2.1 (tg σ.1 d) (i + 1) = cnF σ.2.1 (tg σ.1 d) i := by
          show (if _ then _ else _) = _
          rw [hb, hc]; rfl
        have := ih (i + 1) v (by omega) (by rw [e]; exact R) hQ
        rw [e] at this
        exact this
      · refine ⟨fun z => absurd z (by decide), fun _ => z_shuts R hi10 (Or.inr (Or.inl rfl)) (fun z' R' => ?_)⟩
        rintro _ rfl _ rfl
        rw [nI_s, nI_s]
        have e : cnF σ.2.1 (tg σ.1 d) (i + 1) = dif (cnF σ.2.1 (tg σ.1 d) i) (2 ^ i) := by
          show (if _ then _ else _) = _
          rw [hb, hc]; rfl
        have := ih (i + 1) (z', v.2) (by omega) (by rw [e]; exact rZ_gone (Or.inl rfl) (cnF_sub i) hc hi10 R') hQ
        rw [e, pc_step (cnF_sub i) hc hi10] at this
        exact this
theorem rZ_gone0 {z : Nat → Int32} {σ : SS2} {k : Nat} (R : rZ z σ) : rZ z (gone σ k σ.2.1) := by
  have h0 : dif σ.2.1 σ.2.1 = 0 := dif_self _
  refine rZ_of (fun i hi => ?_) (fun e u he hu => ?_) (fun g u hg hu => ?_)
  · rw [rZ_H R hi]
    revert i
    refine i6 rfl rfl rfl ?_ ?_ rfl
    · show σ.2.2.2.2.2.2.2.1 = if k = 3 then σ.2.2.2.2.2.2.2.1 + nI (pc (dif σ.2.1 σ.2.1)) else σ.2.2.2.2.2.2.2.1
      rw [h0, pc_0]
      split
      · exact (Int32.add_zero _).symm
      · rfl
    · show σ.2.2.2.2.2.2.2.2.1 = if k = 4 then σ.2.2.2.2.2.2.2.2.1 + nI (pc (dif σ.2.1 σ.2.1)) else σ.2.2.2.2.2.2.2.2.1
      rw [h0, pc_0]
      split
      · exact (Int32.add_zero _).symm
      · rfl
  · rw [rZ_D R he hu]
    revert u
    refine i7 rfl rfl rfl rfl rfl rfl ?_
    show σ.2.2.2.2.1 e = if (dif σ.2.1 σ.2.1).testBit e then σ.2.2.2.2.1 e + 1 else σ.2.2.2.2.1 e
    rw [h0]; simp
  · rw [rZ_G R hg hu]; rfl
/-- a door just opened -/
def opn (σ : SS2) (d : Nat) : SS2 := (σ.1, σ.2.1 ||| 2 ^ d, σ.2.2.1, acOpened σ.2.2.2 d)
theorem z_opens {v : ModV} {σ : SS2} {d : Nat} {Q : Int32 → ModV → Prop} (R : rZ v.1 σ) (hok : okL σ.1) (hop : σ.2.1 < 1024) (hd : d < 10) (hQ : ∀ z', rZ z' (opS σ d) → Q (nI (pc (dif σ.2.1 (afterC σ.1 σ.2.1 d) ||| dif (afterC σ.1 σ.2.1 d) (afterO σ.1 σ.2.1 d)))) (z', v.2)) : wp_X9_opens v (nI d) Q := by
  have hk := hok.1 d hd
  unfold wp_X9_opens
  refine z_lay hd 0 (by decide) ?_
  obtain ⟨σ1, e1⟩ : ∃ σ1 : SS2, σ1 = (σ.1, σ.2.1 ||| 2 ^ d, σ.2.2) := ⟨_, rfl⟩
  have R1 : rZ (upd v.1 (6 + 7 * d + 0) 1) σ1 := by
    refine rZ_updD R hd (by decide) (fun i hi => by rw [e1]; rfl) (fun e u he hu => ?_) (fun g u hg hu => by rw [e1]; rfl)
    rw [e1]
    revert u
    refine i7 ?_ ?_ ?_ ?_ ?_ ?_ ?_
    · show (if (σ.2.1 ||| 2 ^ d).testBit e then (1 : Int32) else 0) = if e = d ∧ 0 = 0 then 1 else if σ.2.1.testBit e then 1 else 0
      rw [Nat.testBit_or, p2_bit]
      by_cases hed : e = d
      · subst hed; simp
      · have : ¬ d = e := fun z => hed z.symm
        simp [hed, this]
    all_goals (rw [if_neg (by omega)]; rfl)
  refine z_of (v := (upd v.1 (6 + 7 * d + 0) 1, v.2)) R1 hd 5 (by decide) ?_
  refine z_lay (v := (upd v.1 (6 + 7 * d + 0) 1, v.2)) hd 5 (by decide) ?_
  obtain ⟨σ2, e2⟩ : ∃ σ2 : SS2, σ2 = (σ.1, σ.2.1 ||| 2 ^ d, σ.2.2.1, (upd σ.2.2.2.1 d (σ.2.2.2.1 d + 1), σ.2.2.2.2)) := ⟨_, rfl⟩
  have R2 : rZ (upd (upd v.1 (6 + 7 * d + 0) 1) (6 + 7 * d + 5) (zD σ1 d 5 + 1)) σ2 := by
    refine rZ_updD R1 hd (by decide) (fun i hi => by rw [e1, e2]; rfl) (fun e u he hu => ?_) (fun g u hg hu => by rw [e1, e2]; rfl)
    rw [e1, e2]
    revert u
    refine i7 ?_ ?_ ?_ ?_ ?_ ?_ ?_
    all_goals try (rw [if_neg (by omega)]; rfl)
    show upd σ.2.2.2.1 d (σ.2.2.2.1 d + 1) e = if e = d ∧ 5 = 5 then σ.2.2.2.1 d + 1 else σ.2.2.2.1 e
    unfold upd
    by_cases hed : e = d <;> simp [hed]
  refine ⟨in85 (k := 1) (by decide), in85 (k := 1) (by decide), ?_⟩
  rintro _ rfl
  have R3 : rZ (upd (upd (upd v.1 (6 + 7 * d + 0) 1) (6 + 7 * d + 5) (zD σ1 d 5 + 1)) 1 ((upd (upd v.1 (6 + 7 * d + 0) 1) (6 + 7 * d + 5) (zD σ1 d 5 + 1)) 1 + 1)) (opn σ d) := by
    refine rZ_updH R2 (by decide) (fun i hi => ?_) (fun e u he hu => by rw [e2]; rfl) (fun g u hg hu => by rw [e2]; rfl)
    rw [rZ_H R2 (by decide), e2]
    revert i
    exact i6 rfl rfl rfl rfl rfl rfl
  have hn1 : σ.2.1 ||| 2 ^ d < 1024 := or_lt (k := 10) hop (p2_lt hd)
  have hcn : cnF (σ.2.1 ||| 2 ^ d) (tg σ.1 d) 10 = afterC σ.1 σ.2.1 d := by
    refine bits_eq (fun e => ?_)
    rw [cnF_bit, afterC_bit, Nat.testBit_or, p2_bit]
    cases ht : (tg σ.1 d).testBit e with
    | false => rfl
    | true => simp [bit_lt10 (tg_lt _ _) ht]
  have hdC : (afterC σ.1 σ.2.1 d).testBit d = true := by
    rw [afterC_bit, tg_bit]
    have a1 : (σ.1.1 d == d) = false := by simpa using hk.2.2.1
    have a2 : (σ.1.2.1 d == d) = false := by simpa using hk.2.2.2.1
    simp [a1, a2]
  have hdif : dif (σ.2.1 ||| 2 ^ d) (afterC σ.1 σ.2.1 d) = dif σ.2.1 (afterC σ.1 σ.2.1 d) := by
    refine bits_eq (fun e => ?_)
    rw [dif_bit, dif_bit, Nat.testBit_or, p2_bit]
    by_cases hed : d = e
    · subst hed; rw [hdC]; simp
    · simp [hed]
  have hC := afterC_lt σ.1 hop hd
  refine ⟨11, ?_⟩
  have h0 : pc (dif (opn σ d).2.1 (cnF (opn σ d).2.1 (tg σ.1 d) 0)) = 0 := by
    show pc (dif (σ.2.1 ||| 2 ^ d) (σ.2.1 ||| 2 ^ d)) = 0
    rw [dif_self, pc_0]
  have := z_cords (σ := opn σ d) (d := d) (Q := Q) hok hd 10 0 (upd (upd (upd v.1 (6 + 7 * d + 0) 1) (6 + 7 * d + 5) (zD σ1 d 5 + 1)) 1 ((upd (upd v.1 (6 + 7 * d + 0) 1) (6 + 7 * d + 5) (zD σ1 d 5 + 1)) 1 + 1), v.2) (by omega) (rZ_gone0 R3) (fun z' R' => ?_)
  · rw [show (opn σ d).1 = σ.1 from rfl, h0] at this
    exact this
  · have R' : rZ z' (gone (opn σ d) 3 (cnF (σ.2.1 ||| 2 ^ d) (tg σ.1 d) 10)) := R'
    show ∃ m, wp_X9_opens_L75 (nI d) Q m (nI (pc (dif (σ.2.1 ||| 2 ^ d) (cnF (σ.2.1 ||| 2 ^ d) (tg σ.1 d) 10)))) (0 : Int32) (z', v.2)
    rw [hcn] at R' ⊢
    refine ⟨7, ?_⟩
    have := z_drafts (σ := gone (opn σ d) 3 (afterC σ.1 σ.2.1 d)) (d := d) (Q := Q) hok hd hC (pc (dif (σ.2.1 ||| 2 ^ d) (afterC σ.1 σ.2.1 d))) 6 0 (z', v.2) (by omega) (rZ_gone0 R') (fun z2 R2 => ?_)
    · rw [show drF (gone (opn σ d) 3 (afterC σ.1 σ.2.1 d)).1 d (gone (opn σ d) 3 (afterC σ.1 σ.2.1 d)).2.1 0 = (gone (opn σ d) 3 (afterC σ.1 σ.2.1 d)).2.1 from rfl, dif_self, pc_0, Nat.add_zero] at this
      exact this
    · have R2 : rZ z2 (gone (gone (opn σ d) 3 (afterC σ.1 σ.2.1 d)) 4 (afterO σ.1 σ.2.1 d)) := R2
      show Q (nI (pc (dif (σ.2.1 ||| 2 ^ d) (afterC σ.1 σ.2.1 d)) + pc (dif (afterC σ.1 σ.2.1 d) (afterO σ.1 σ.2.1 d)))) (z2, v.2)
      have hdis : ∀ i, ¬ ((dif σ.2.1 (afterC σ.1 σ.2.1 d)).testBit i = true ∧ (dif (afterC σ.1 σ.2.1 d) (afterO σ.1 σ.2.1 d)).testBit i = true) := by
        intro i
        rw [dif_bit, dif_bit]
        cases (afterC σ.1 σ.2.1 d).testBit i <;> simp
      rw [hdif, ← pc_or hdis]
      refine hQ z2 (rZ_of (fun i hi => ?_) (fun e u he hu => ?_) (fun g u hg hu => ?_))
      · rw [rZ_H R2 hi]
        revert i
        refine i6 rfl rfl rfl ?_ rfl rfl
        show σ.2.2.2.2.2.2.2.1 + nI (pc (dif (σ.2.1 ||| 2 ^ d) (afterC σ.1 σ.2.1 d))) = σ.2.2.2.2.2.2.2.1 + nI (pc (dif σ.2.1 (afterC σ.1 σ.2.1 d)))
        rw [hdif]
      · rw [rZ_D R2 he hu]
        revert u
        refine i7 rfl rfl rfl rfl rfl rfl ?_
        show (if (dif (afterC σ.1 σ.2.1 d) (afterO σ.1 σ.2.1 d)).testBit e then (if (dif (σ.2.1 ||| 2 ^ d) (afterC σ.1 σ.2.1 d)).testBit e then σ.2.2.2.2.1 e + 1 else σ.2.2.2.2.1 e) + 1 else (if (dif (σ.2.1 ||| 2 ^ d) (afterC σ.1 σ.2.1 d)).testBit e then σ.2.2.2.2.1 e + 1 else σ.2.2.2.2.1 e)) = if (dif σ.2.1 (afterC σ.1 σ.2.1 d) ||| dif (afterC σ.1 σ.2.1 d) (afterO σ.1 σ.2.1 d)).testBit e then σ.2.2.2.2.1 e + 1 else σ.2.2.2.2.1 e
        rw [hdif, Nat.testBit_or]
        have := hdis e
        cases h1 : (dif σ.2.1 (afterC σ.1 σ.2.1 d)).testBit e <;> cases h2 : (dif (afterC σ.1 σ.2.1 d) (afterO σ.1 σ.2.1 d)).testBit e
        · rfl
        · rfl
        · rfl
        · exact absurd ⟨h1, h2⟩ this
      · rw [rZ_G R2 hg hu]; rfl
