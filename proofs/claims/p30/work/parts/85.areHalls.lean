/-! PURE: halls that hang together; the law's look at halls -/
theorem bo_bit {L : LoS} {d x : Nat} : (bo L d).testBit x = jn L d x := by
  unfold bo
  rw [Nat.testBit_or, Nat.testBit_two_pow, Nat.testBit_two_pow]
  have h : jn L d x = true ↔ (min (L.2.2.1 d) (L.2.2.2.1 d) = x ∨ max (L.2.2.1 d) (L.2.2.2.1 d) = x) := by
    unfold jn
    rw [Bool.or_eq_true, beq_iff_eq, beq_iff_eq]
    omega
  cases hj : jn L d x with
  | true =>
    rw [Bool.or_eq_true, decide_eq_true_eq, decide_eq_true_eq]
    exact h.mp hj
  | false =>
    rw [Bool.or_eq_false_iff, decide_eq_false_iff_not, decide_eq_false_iff_not]
    refine ⟨fun z => ?_, fun z => ?_⟩
    · have := h.mpr (Or.inl z); rw [hj] at this; cases this
    · have := h.mpr (Or.inr z); rw [hj] at this; cases this
theorem and_ne {a b x : Nat} (h1 : a.testBit x = true) (h2 : b.testBit x = true) : a &&& b ≠ 0 := by
  intro h
  have : (a &&& b).testBit x = true := by rw [Nat.testBit_and, h1, h2]; rfl
  rw [h, Nat.zero_testBit] at this
  cases this
theorem and_ex {a b : Nat} (h : a &&& b ≠ 0) : ∃ x, a.testBit x = true ∧ b.testBit x = true := by
  refine Classical.byContradiction (fun hn => h (bits_eq (fun x => ?_)))
  rw [Nat.testBit_and, Nat.zero_testBit]
  cases h1 : a.testBit x with
  | false => rfl
  | true =>
    cases h2 : b.testBit x with
    | false => rfl
    | true => exact absurd ⟨x, h1, h2⟩ hn
theorem hst_sub {L : LoS} {n s d x : Nat} (h : s.testBit x = true) : (hst L n s d).testBit x = true := by
  unfold hst
  split
  · split
    · exact h
    · rw [Nat.testBit_or, h]; rfl
  · exact h
theorem hrF_sub {L : LoS} {n s x : Nat} (h : s.testBit x = true) : ∀ k, (hrF L n s k).testBit x = true
  | 0 => h
  | k + 1 => hst_sub (hrF_sub h k)
theorem hrF_le {L : LoS} {n s x k : Nat} (h : (hrF L n s k).testBit x = true) : ∀ j, (hrF L n s (k + j)).testBit x = true
  | 0 => h
  | j + 1 => hst_sub (hrF_le h j)
/-- a round that changes nothing: a set that is closed -/
theorem fix_closed {L : LoS} {n s : Nat} (hf : hrF L n s 10 = s) {d a b : Nat} (hd : d < 10) (hn : n.testBit d = true) (ha : jn L d a = true) (hb : jn L d b = true) (hs : s.testBit a = true) : s.testBit b = true := by
  have h1 : ∀ k, k ≤ 10 → hrF L n s k = s := by
    intro k hk
    refine bits_eq (fun x => ?_)
    cases hx : s.testBit x with
    | true => exact hrF_sub hx k
    | false =>
      cases hy : (hrF L n s k).testBit x with
      | false => rfl
      | true =>
        have := hrF_le hy (10 - k)
        rw [show k + (10 - k) = 10 by omega, hf, hx] at this
        cases this
  have h2 : hst L n s d = s := by
    have := h1 (d + 1) (by omega)
    unfold hrF at this
    rw [h1 d (by omega)] at this
    exact this
  unfold hst at h2
  rw [if_pos hn, if_neg (and_ne hs (by rw [bo_bit]; exact ha))] at h2
  rw [← h2, Nat.testBit_or, bo_bit, hb, Bool.or_true]
theorem pc_pos {m : Nat} (hm : m < 1024) (h : m ≠ 0) : 1 ≤ pc m := by
  have := (low_clr m hm h).2.1
  omega
theorem pc_more {a b : Nat} (hb : b < 1024) (hs : ∀ x, a.testBit x = true → b.testBit x = true) (hne : a ≠ b) : pc a + 1 ≤ pc b := by
  have e : b = a ||| dif b a := bits_eq (fun x => by
    rw [Nat.testBit_or, dif_bit]
    have := hs x
    cases h1 : a.testBit x <;> cases h2 : b.testBit x <;> simp_all)
  have h1 : pc (a ||| dif b a) = pc a + pc (dif b a) := pc_or (fun i => by
    rw [dif_bit]
    cases a.testBit i <;> simp)
  have h2 : dif b a ≠ 0 := by
    intro z
    rw [z] at e
    exact hne (by rw [e]; simp)
  have h3 := pc_pos (dif_lt (k := 10) (b := a) hb) h2
  rw [← e] at h1
  omega
theorem pc6 : ∀ x, x < 64 → pc x ≤ 6 ∧ pc x = sumN (fun i => bN (x.testBit i)) 6 := by decide +kernel
theorem pc_2h : ∀ h, h < 6 → pc (2 ^ h) = 1 := by decide
theorem hf_fix {L : LoS} {n h : Nat} (hok : okL L) (hh : h < 6) : hrF L n (hf L n h) 10 = hf L n h := by
  have key : ∀ r, hrF L n (hfF L n h r) 10 = hfF L n h r ∨ r + 1 ≤ pc (hfF L n h r) := by
    intro r
    induction r with
    | zero => exact Or.inr (by rw [show hfF L n h 0 = 2 ^ h from rfl, pc_2h h hh]; exact Nat.le_refl _)
    | succ r ih =>
      have e : hfF L n h (r + 1) = hrF L n (hfF L n h r) 10 := rfl
      by_cases hx : hrF L n (hfF L n h r) 10 = hfF L n h r
      · left
        rw [e, hx]
        exact hx
      · right
        have h1 := ih.resolve_left hx
        have h2 := hfF_lt hok (n := n) hh (r + 1)
        have h3 : pc (hfF L n h r) + 1 ≤ pc (hrF L n (hfF L n h r) 10) := pc_more (by rw [← e]; omega) (fun x hx => hrF_sub hx 10) (fun z => hx z.symm)
        rw [e]
        omega
  rcases key 6 with h1 | h1
  · exact h1
  · have h2 := (pc6 _ (hfF_lt hok (n := n) hh 6)).1
    omega
theorem hf_closed {L : LoS} {n h : Nat} (hok : okL L) (hh : h < 6) {d a b : Nat} (hd : d < 10) (hn : n.testBit d = true) (ha : jn L d a = true) (hb : jn L d b = true) (hs : (hf L n h).testBit a = true) : (hf L n h).testBit b = true := fix_closed (hf_fix hok hh) hd hn ha hb hs
theorem hrF_P {L : LoS} {n : Nat} {P : Nat → Prop} (hP : ∀ d a b, d < 10 → n.testBit d = true → jn L d a = true → jn L d b = true → P a → P b) {s : Nat} (hs : ∀ x, s.testBit x = true → P x) : ∀ k, k ≤ 10 → ∀ x, (hrF L n s k).testBit x = true → P x
  | 0, _ => hs
  | k + 1, hk => by
    intro x hx
    have ih := hrF_P hP hs k (by omega)
    unfold hrF hst at hx
    split at hx
    · rename_i hn
      split at hx
      · exact ih x hx
      · rename_i hne
        rw [Nat.testBit_or, Bool.or_eq_true] at hx
        rcases hx with hx | hx
        · exact ih x hx
        · obtain ⟨y, y1, y2⟩ := and_ex hne
          rw [bo_bit] at y2 hx
          exact hP k y x (by omega) hn y2 hx (ih y y1)
    · exact ih x hx
theorem hf_P {L : LoS} {n h : Nat} {P : Nat → Prop} (h0 : P h) (hP : ∀ d a b, d < 10 → n.testBit d = true → jn L d a = true → jn L d b = true → P a → P b) : ∀ x, (hf L n h).testBit x = true → P x := by
  have key : ∀ r x, (hfF L n h r).testBit x = true → P x := by
    intro r
    induction r with
    | zero =>
      intro x hx
      have hx : (2 ^ h).testBit x = true := hx
      rw [Nat.testBit_two_pow, decide_eq_true_eq] at hx
      rw [← hx]; exact h0
    | succ r ih => exact hrF_P hP ih 10 (Nat.le_refl _)
  exact key 6
theorem hf_self (L : LoS) (n h : Nat) : (hf L n h).testBit h = true := by
  have key : ∀ r, (hfF L n h r).testBit h = true := by
    intro r
    induction r with
    | zero =>
      show (2 ^ h).testBit h = true
      rw [Nat.testBit_two_pow]; simp
    | succ r ih => exact hrF_sub ih 10
  exact key 6
theorem hf_sub {L : LoS} {n a b : Nat} (hok : okL L) (hb : b < 6) (h : (hf L n b).testBit a = true) {x : Nat} (hx : (hf L n a).testBit x = true) : (hf L n b).testBit x = true :=
  hf_P (P := fun x => (hf L n b).testBit x = true) h (fun d a' b' hd hn h1 h2 h3 => hf_closed hok hb hd hn h1 h2 h3) x hx
theorem jn_lt6 {L : LoS} {d x : Nat} (hok : okL L) (hd : d < 10) (h : jn L d x = true) : x < 6 := by
  have hk := hok.1 d hd
  unfold jn at h
  rw [Bool.or_eq_true, beq_iff_eq, beq_iff_eq] at h
  omega
theorem hf_sym {L : LoS} {n h x : Nat} (hok : okL L) (hh : h < 6) (hx : (hf L n h).testBit x = true) : (hf L n x).testBit h = true :=
  hf_P (P := fun x => (hf L n x).testBit h = true) (hf_self L n h) (fun d a b hd hn h1 h2 h3 => hf_sub hok (jn_lt6 hok hd h2) (hf_closed hok (jn_lt6 hok hd h2) hd hn h2 h1 (hf_self L n b)) h3) x hx
def triN (f : Nat → Nat → Nat) : Nat → Nat
  | 0 => 0
  | d + 1 => triN f d + sumN (fun i => f i d) d
theorem sq_tri {f : Nat → Nat → Nat} : ∀ k, (∀ i j, i < k → j < k → f i j = f j i) → sumN (fun i => sumN (fun j => f i j) k) k = 2 * triN f k + sumN (fun i => f i i) k
  | 0, _ => rfl
  | k + 1, hs => by
    have h := sq_tri k (fun i j hi hj => hs i j (by omega) (by omega))
    have e1 : sumN (fun i => sumN (fun j => f i j) k + f i k) k = sumN (fun i => sumN (fun j => f i j) k) k + sumN (fun i => f i k) k := sumN_add _ _ k
    have e2 : sumN (fun j => f k j) k = sumN (fun i => f i k) k := sumN_ext k (fun i hi => hs k i (by omega) (by omega))
    simp only [sumN, triN] at *
    omega
theorem near_even {L : LoS} {n : Nat} (hok : okL L) : ∃ T, sumN (fun h => pc (hf L n h)) 6 = 2 * T + 6 := by
  refine ⟨triN (fun h x => bN ((hf L n h).testBit x)) 6, ?_⟩
  have h1 : sumN (fun h => pc (hf L n h)) 6 = sumN (fun h => sumN (fun x => bN ((hf L n h).testBit x)) 6) 6 := sumN_ext 6 (fun h hh => (pc6 _ (hfF_lt hok (n := n) hh 6)).2)
  have h2 := sq_tri (f := fun h x => bN ((hf L n h).testBit x)) 6 (fun i j hi hj => by
    have a1 := @hf_sym L n i j hok hi
    have a2 := @hf_sym L n j i hok hj
    show bN ((hf L n i).testBit j) = bN ((hf L n j).testBit i)
    cases h1 : (hf L n i).testBit j with
    | true => rw [a1 h1]
    | false =>
      cases h2 : (hf L n j).testBit i with
      | false => rfl
      | true => rw [a2 h2] at h1; cases h1)
  have h3 : sumN (fun h => bN ((hf L n h).testBit h)) 6 = sumN (fun _ => 1) 6 := sumN_ext 6 (fun h _ => by rw [hf_self]; rfl)
  rw [h1, h2, h3, sumN_const]
theorem hf_ge {L : LoS} {n h : Nat} (hok : okL L) (hh : h < 6) : 1 ≤ pc (hf L n h) ∧ pc (hf L n h) ≤ 6 := by
  have h1 := hfF_lt hok (n := n) hh 6
  refine ⟨pc_pos (m := hf L n h) (by have : hf L n h < 64 := h1; omega) (fun z => ?_), (pc6 _ h1).1⟩
  have := hf_self L n h
  rw [z, Nat.zero_testBit] at this
  cases this
theorem phF_eq {L : LoS} {n : Nat} (hok : okL L) : ∀ k, k ≤ 6 → ∃ S, phF L n k = nI S ∧ S + k = sumN (fun h => pc (hf L n h)) k
  | 0, _ => ⟨0, rfl, rfl⟩
  | k + 1, hk => by
    obtain ⟨S, h1, h2⟩ := phF_eq (n := n) hok k (by omega)
    obtain ⟨g1, g2⟩ := hf_ge (n := n) (h := k) hok (by omega)
    refine ⟨S + (pc (hf L n k) - 1), ?_, ?_⟩
    · unfold phF
      rw [h1]
      obtain ⟨p, hp⟩ : ∃ p, pc (hf L n k) = p + 1 := ⟨pc (hf L n k) - 1, by omega⟩
      rw [hp, show nI (p + 1) - 1 = nI p from nI_pred p, nI_add, show p + 1 - 1 = p by omega]
    · simp only [sumN]
      omega
theorem hf_two {L : LoS} {n h : Nat} (hok : okL L) (hh : h < 6) : 1 < pc (hf L n h) ↔ 0 < pc (doors L h &&& n) := by
  have hl := hfF_lt hok (n := n) hh 6
  have hd := doors_lt L h
  constructor
  · intro hp
    refine Classical.byContradiction (fun hz => ?_)
    have h0 : doors L h &&& n = 0 := by
      refine Classical.byContradiction (fun y => hz ?_)
      exact pc_pos (and_lt (k := 10) hd) y
    have hall : ∀ x, (hf L n h).testBit x = true → x = h := hf_P (P := fun x => x = h) rfl (fun d a b hd10 hn h1 h2 h3 => by
      have h3 : a = h := h3
      subst h3
      have : (doors L a &&& n).testBit d = true := by rw [Nat.testBit_and, doors_bit, h1, hn]; simp [hd10]
      rw [h0, Nat.zero_testBit] at this
      cases this)
    have e : hf L n h = 2 ^ h := bits_eq (fun x => by
      rw [Nat.testBit_two_pow]
      cases hx : (hf L n h).testBit x with
      | true => have := hall x hx; simp [this]
      | false =>
        have : ¬ h = x := by
          rintro rfl
          rw [hf_self] at hx; cases hx
        simp [this])
    rw [e, pc_2h h hh] at hp
    omega
  · intro hp
    have hne : doors L h &&& n ≠ 0 := by
      intro z
      rw [z, pc_0] at hp
      omega
    obtain ⟨d, d1, d2⟩ := and_ex hne
    rw [doors_bit, Bool.and_eq_true, decide_eq_true_eq] at d1
    obtain ⟨hd10, hj⟩ := d1
    have hk := hok.1 d hd10
    have hj2 : ∃ b, b < 6 ∧ b ≠ h ∧ jn L d b = true := by
      have hj' := hj
      unfold jn at hj'
      rw [Bool.or_eq_true, beq_iff_eq, beq_iff_eq] at hj'
      rcases hj' with x | x
      · exact ⟨L.2.2.2.1 d, by omega, by omega, by unfold jn; simp⟩
      · exact ⟨L.2.2.1 d, by omega, by omega, by unfold jn; simp⟩
    obtain ⟨b, hb6, hbh, hjb⟩ := hj2
    have h1 : (hf L n h).testBit b = true := hf_closed hok hh hd10 d2 hj hjb (hf_self L n h)
    have h2 := pc_more (a := 2 ^ h) (b := hf L n h) (by have : hf L n h < 64 := hl; omega) (fun x hx => by
      rw [Nat.testBit_two_pow, decide_eq_true_eq] at hx
      rw [← hx]; exact hf_self L n h) (fun z => by
      rw [← z, Nat.testBit_two_pow, decide_eq_true_eq] at h1
      exact hbh h1.symm)
    rw [pc_2h h hh] at h2
    omega
theorem jn_two : ∀ a, a < 6 → ∀ b, b < 6 → a ≠ b → sumN (fun h => bN (a == h || b == h)) 6 = 2 := by decide +kernel
theorem dn_sum {L : LoS} (hok : okL L) (n : Nat) : sumN (fun h => pc (doors L h &&& n)) 6 = 2 * pc (1023 &&& n) := by
  have h1 : sumN (fun h => pc (doors L h &&& n)) 6 = sumN (fun h => sumN (fun d => bN (n.testBit d && jn L d h)) 10) 6 := sumN_ext 6 (fun h _ => by
    refine (pcF_sum _ 10).trans (sumN_ext 10 (fun d hd => ?_))
    rw [Nat.testBit_and, doors_bit, Bool.and_comm]
    simp [hd])
  have h2 : pc (1023 &&& n) = sumN (fun d => bN (n.testBit d)) 10 := (pcF_sum _ 10).trans (sumN_ext 10 (fun d hd => by rw [Nat.testBit_and, b1023 hd, Bool.true_and]))
  rw [h1, sumN_swap, h2]
  have h3 : sumN (fun d => sumN (fun h => bN (n.testBit d && jn L d h)) 6) 10 = sumN (fun d => bN (n.testBit d) + bN (n.testBit d)) 10 := sumN_ext 10 (fun d hd => by
    have hk := hok.1 d hd
    cases n.testBit d
    · rfl
    · simp only [Bool.true_and]
      exact jn_two _ hk.2.2.2.2.2.1 _ hk.2.2.2.2.2.2.1 hk.2.2.2.2.2.2.2)
  rw [h3, sumN_add]
  omega
theorem and1023 {n : Nat} (hn : n < 1024) : 1023 &&& n = n := bits_eq (fun i => by
  rw [Nat.testBit_and]
  by_cases hi : i < 10
  · rw [b1023 hi, Bool.true_and]
  · rw [bit_ge hn (by omega), Bool.and_false])
theorem d_and (L : LoS) (h : Nat) : doors L h &&& 1023 = doors L h := by
  rw [Nat.and_comm]
  exact and1023 (doors_lt L h)
theorem gi_sum : ∀ a, a < 6 → ∀ b, b < 6 → ∀ c, c < 6 → sumN (fun h => giF (fun i => match i with | 0 => a | 1 => b | _ => c) h 3) 6 = 3 := by decide +kernel
theorem gi_ext {g g' : Nat → Nat} (h : Nat) : ∀ k, (∀ i, i < k → g i = g' i) → giF g h k = giF g' h k
  | 0, _ => rfl
  | k + 1, hg => by
    have ih := gi_ext h k (fun i hi => hg i (by omega))
    unfold giF
    rw [ih, hg k (by omega)]
theorem gi_three {g : Nat → Nat} (hg : ∀ i, i < 3 → g i < 6) : sumN (fun h => giF g h 3) 6 = 3 := by
  refine Eq.trans ?_ (gi_sum (g 0) (hg 0 (by decide)) (g 1) (hg 1 (by decide)) (g 2) (hg 2 (by decide)))
  refine sumN_ext 6 (fun h _ => gi_ext h 3 (fun i hi => ?_))
  match i, hi with
  | 0, _ => rfl
  | 1, _ => rfl
  | 2, _ => rfl
  | i + 3, hi => exact absurd hi (by omega)
theorem hm_keys (σ : SS2) (g : Nat) : ∀ k, k ≤ 10 → hmF σ g k ≤ pcF (σ.2.2.1.2.1 g) k ∧ hmF σ g k ≤ pcF (doors σ.1 (σ.2.2.1.1 g)) k
  | 0, _ => ⟨Nat.le_refl _, Nat.le_refl _⟩
  | k + 1, hk => by
    obtain ⟨h1, h2⟩ := hm_keys σ g k (by omega)
    unfold hmF pcF
    split
    · rename_i hr
      unfold rsnG at hr
      cases hj : jn σ.1 k (σ.2.2.1.1 g) <;> rw [hj] at hr
      · exact absurd hr (by simp)
      · rw [if_pos rfl] at hr
        cases hb : (σ.2.2.1.2.1 g).testBit k <;> rw [hb] at hr
        · exact absurd hr (by simp)
        · rw [doors_bit, hj, if_pos rfl, show (decide (k < 10) && true) = true by simp; omega, if_pos rfl]
          omega
    · omega
theorem i_ge {k : Nat} (hk : k < 2 ^ 31) : ¬ nI k < 0 := nI_pos hk
section AreH
variable {v : CDV} {σ : SS2} {n : Nat} {Q : Int32 → Prop}
theorem ah274 {W : Nat} (R : rSt v.1 σ) (hW : W < 2 ^ 31) (hQ : Q 1) : wp_L_areHalls_B274 v 20 (nI (2 * pc σ.2.1)) 3 (phF σ.1 σ.2.1 6) 1 (nI W) Q := by
  refine ⟨fun z => absurd z one0, fun _ => ⟨fun z => absurd rfl z, fun _ => t_count (w := 1) R (by decide) ⟨fun z => absurd ?_ z, fun _ => ⟨fun z => absurd rfl z, fun _ => t_count (w := 5) R (by decide) ⟨fun z => absurd ?_ z, fun _ => ⟨fun z => absurd z (nI_pos hW), fun _ => hQ⟩⟩⟩⟩⟩⟩
  · show nI (2 * pc σ.2.1) = 2 * nI (pc σ.2.1)
    rw [l2, q_mul]
  · show phF σ.1 σ.2.1 6 = 2 * (phF σ.1 σ.2.1 6 / (2 : Int32))
    obtain ⟨S, h1, h2⟩ := phF_eq (n := σ.2.1) R.1.1 6 (Nat.le_refl _)
    obtain ⟨T, h3⟩ := near_even (n := σ.2.1) R.1.1
    have hS : S = 2 * T := by omega
    have hT : S ≤ 36 := by
      have : sumN (fun h => pc (hf σ.1 σ.2.1 h)) 6 ≤ sumN (fun _ => 6) 6 := sumN_le 6 (fun h hh => (hf_ge R.1.1 hh).2)
      rw [sumN_const] at this
      omega
    rw [h1, hS, show nI (2 * T) / (2 : Int32) = nI (2 * T / 2) from pk_div (d := 2) (by omega) (by decide) (by decide), l2, q_mul, show 2 * (2 * T / 2) = 2 * T by omega]
theorem ah163 (R : rSt v.1 σ) (G : GI σ n) (hn : n < 1000) (hQ : Q 1) : ∃ k, wp_L_areHalls_L163 v 20 (nI (2 * pc σ.2.1)) 3 (phF σ.1 σ.2.1 6) Q k 1 0 0 := by
  have hok := R.1
  have key : ∀ k i W, i + k = 3 → W ≤ n * i → wp_L_areHalls_L163 v 20 (nI (2 * pc σ.2.1)) 3 (phF σ.1 σ.2.1 6) Q (k + 1) 1 (nI W) (nI i) := by
    intro k
    induction k with
    | zero =>
      intro i W hi hW
      have hi : i = 3 := by omega
      subst hi
      exact ⟨fun _ => ah274 R (by omega) hQ, fun z => absurd (ge_self _) z⟩
    | succ k ih =>
      intro i W hi hW
      have hi3 : i < 3 := by omega
      obtain ⟨g6, k10⟩ := hok.2.2.2 i hi3
      obtain ⟨w, w1, w2⟩ := G.2.2.2 i hi3
      obtain ⟨m1, m2⟩ := hm_keys σ i 10 (Nat.le_refl _)
      have m1 : hmF σ i 10 ≤ pc (σ.2.2.1.2.1 i) := m1
      have m2 : hmF σ i 10 ≤ pc (doors σ.1 (σ.2.2.1.1 i)) := m2
      have p1 := pc_le (σ.2.2.1.2.1 i)
      have p2 := pc_le (doors σ.1 (σ.2.2.1.1 i))
      refine ⟨fun z => absurd z (ge_no hi3 (by decide)), fun _ => ⟨fun z => absurd z one0, fun _ => t_guest (w := 0) R hi3 (by decide) (t_guest (w := 1) R hi3 (by decide) (t_guest (w := 3) R hi3 (by decide) ?_))⟩⟩
      have e3 : guestA σ i 3 = nI w := w2
      rw [e3, nI_add]
      rintro _ rfl
      refine ⟨fun z => absurd z (nI_pos (n := σ.2.2.1.1 i) (by omega)), fun _ => ⟨fun z => absurd z (ge_no (i := σ.2.2.1.1 i) g6 (by decide)), fun _ => ⟨fun z => absurd z (nI_pos (n := σ.2.2.1.2.1 i) (by omega)), fun _ => ⟨fun z => absurd z (ge_no (i := σ.2.2.1.2.1 i) k10 (by decide)), fun _ => t_guest (w := 2) R hi3 (by decide) (t_size k10 ⟨fun z => ?_, fun _ => t_guest (w := 2) R hi3 (by decide) (t_hall (w := 0) R g6 (by decide) ⟨fun z => ?_, fun _ => ?_⟩)⟩)⟩⟩⟩⟩
      · have z : nI (pc (σ.2.2.1.2.1 i)) < nI (hmF σ i 10) := z
        rw [q_lt (by omega) (by omega)] at z
        omega
      · have z : nI (pc (doors σ.1 (σ.2.2.1.1 i))) < nI (hmF σ i 10) := z
        rw [q_lt (by omega) (by omega)] at z
        omega
      · rintro _ rfl
        rw [nI_s]
        refine ih (i + 1) (W + w) (by omega) ?_
        rw [Nat.mul_succ]
        omega
  exact ⟨4, key 3 0 0 rfl (Nat.zero_le _)⟩
theorem t_areHalls (R : rSt v.1 σ) (G : GI σ n) (hn : n < 1000) (hQ : Q 1) : wp_L_areHalls v Q := by
  have hok := R.1
  have s0 : sumN (fun h => pc (doors σ.1 h)) 6 = 20 := by
    have h1 := dn_sum hok.1 1023
    have h2 : pc (1023 &&& 1023) = 10 := by decide
    rw [h2] at h1
    refine Eq.trans ?_ h1
    exact sumN_ext 6 (fun h _ => by rw [d_and])
  have s1 : sumN (fun h => pc (doors σ.1 h &&& σ.2.1)) 6 = 2 * pc σ.2.1 := by
    have h1 := dn_sum hok.1 σ.2.1
    rw [and1023 hok.2.1] at h1
    exact h1
  have s2 := gi_three (g := σ.2.2.1.1) (fun i hi => (hok.2.2.2 i hi).1)
  refine loop_f (fun k i (s : Int32 × Int32 × Int32 × Int32) => wp_L_areHalls_L15 v Q k s.1 s.2.1 s.2.2.1 s.2.2.2 1 i) 6 (fun i => (nI (sumN (fun h => pc (doors σ.1 h)) i), nI (sumN (fun h => pc (doors σ.1 h &&& σ.2.1)) i), nI (sumN (fun h => giF σ.2.2.1.1 h 3) i), phF σ.1 σ.2.1 i)) ?_ ?_
  · intro k
    refine ⟨fun _ => ?_, fun z => absurd (ge_self _) z⟩
    show ∃ k, wp_L_areHalls_L163 v (nI (sumN (fun h => pc (doors σ.1 h)) 6)) (nI (sumN (fun h => pc (doors σ.1 h &&& σ.2.1)) 6)) (nI (sumN (fun h => giF σ.2.2.1.1 h 3) 6)) (phF σ.1 σ.2.1 6) Q k 1 0 0
    rw [s0, s1, s2]
    exact ah163 R G hn hQ
  · intro k h hh ih
    have p0 := pc_le (doors σ.1 h)
    have p1 : pc (doors σ.1 h &&& σ.2.1) ≤ pc (doors σ.1 h) := pcF_mono (fun i hi => by rw [Nat.testBit_and, Bool.and_eq_true] at hi; exact hi.1) 10
    obtain ⟨g1, g2⟩ := hf_ge (n := σ.2.1) hok.1 hh
    have g3 := hf_two (n := σ.2.1) hok.1 hh
    refine ⟨fun z => absurd z (ge_no hh (by decide)), fun _ => ⟨fun z => absurd z one0, fun _ => t_hall (w := 0) R hh (by decide) ?_⟩⟩
    rintro _ rfl
    refine t_hall (w := 1) R hh (by decide) ?_
    rintro _ rfl
    refine t_hall (w := 2) R hh (by decide) ?_
    rintro _ rfl
    refine t_hall (w := 3) R hh (by decide) ?_
    rintro _ rfl
    have e0 : nI (sumN (fun h => pc (doors σ.1 h)) h) + hallA σ h 0 = nI (sumN (fun h => pc (doors σ.1 h)) (h + 1)) := nI_add _ _
    have e1 : nI (sumN (fun h => pc (doors σ.1 h &&& σ.2.1)) h) + hallA σ h 1 = nI (sumN (fun h => pc (doors σ.1 h &&& σ.2.1)) (h + 1)) := nI_add _ _
    have e2 : nI (sumN (fun h => giF σ.2.2.1.1 h 3) h) + hallA σ h 2 = nI (sumN (fun h => giF σ.2.2.1.1 h 3) (h + 1)) := nI_add _ _
    have e3 : phF σ.1 σ.2.1 h + (hallA σ h 3 - (1 : Int32)) = phF σ.1 σ.2.1 (h + 1) := rfl
    show wp_X8_hall v (nI h) (1 : Int32) _
    rw [e0, e1, e2, e3]
    have ih : wp_L_areHalls_L15 v Q k (nI (sumN (fun h => pc (doors σ.1 h)) (h + 1))) (nI (sumN (fun h => pc (doors σ.1 h &&& σ.2.1)) (h + 1))) (nI (sumN (fun h => giF σ.2.2.1.1 h 3) (h + 1))) (phF σ.1 σ.2.1 (h + 1)) 1 (nI (h + 1)) := ih
    refine t_hall (w := 1) R hh (by decide) (t_hall (w := 0) R hh (by decide) ⟨fun z => ?_, fun _ => t_hall (w := 3) R hh (by decide) ⟨fun z => ?_, fun _ => t_hall (w := 3) R hh (by decide) ⟨fun z => ?_, fun _ => t_hall (w := 1) R hh (by decide) ⟨fun z => t_hall (w := 3) R hh (by decide) ⟨fun y => ⟨fun x => absurd rfl x, fun _ => ?_⟩, fun y => ?_⟩, fun z => t_hall (w := 3) R hh (by decide) ⟨fun y => ?_, fun y => ⟨fun x => absurd rfl x, fun _ => ?_⟩⟩⟩⟩⟩⟩)
    · have z : nI (pc (doors σ.1 h)) < nI (pc (doors σ.1 h &&& σ.2.1)) := z
      rw [q_lt (by omega) (by omega)] at z
      omega
    · have z : nI (pc (hf σ.1 σ.2.1 h)) ≤ nI 0 := z
      rw [q_le (by omega) (by omega)] at z
      omega
    · have z : nI 6 < nI (pc (hf σ.1 σ.2.1 h)) := z
      rw [q_lt (by omega) (by omega)] at z
      omega
    · rintro _ rfl
      rw [nI_s]
      exact ih
    · have z : nI (pc (doors σ.1 h &&& σ.2.1)) ≤ nI 0 := z
      have y : ¬ nI (pc (hf σ.1 σ.2.1 h)) ≤ nI 1 := y
      rw [q_le (by omega) (by omega)] at z y
      omega
    · have z : ¬ nI (pc (doors σ.1 h &&& σ.2.1)) ≤ nI 0 := z
      have y : nI (pc (hf σ.1 σ.2.1 h)) ≤ nI 1 := y
      rw [q_le (by omega) (by omega)] at z y
      omega
    · rintro _ rfl
      rw [nI_s]
      exact ih
end AreH
