/-! PURE: what a loom tells. L = (first cords, second cords, one hall, other hall, DRAFT) -/
theorem loop_p {σ : Type} (W : Nat → Int32 → σ → Prop) (N : Nat) (f : Nat → σ) (P : Nat → Prop) (h0 : P 0) (hx : ∀ n, P N → W (n + 1) (nI N) (f N)) (hs : ∀ n i, i < N → P i → (P (i + 1) → W n (nI (i + 1)) (f (i + 1))) → W (n + 1) (nI i) (f i)) : ∃ n, W n (0 : Int32) (f 0) := by
  have h : ∀ k i, i + k = N → P i → W (k + 1) (nI i) (f i) := by
    intro k
    induction k with
    | zero => intro i hi hp; rw [Nat.add_zero] at hi; subst hi; exact hx 0 hp
    | succ k ih => intro i hi hp; exact hs _ i (by omega) hp (ih (i + 1) (by omega))
  exact ⟨N + 1, h N 0 (by omega) h0⟩
theorem ge_no {i N : Nat} (h : i < N) (hN : N < 2 ^ 31) : ¬ nI N ≤ nI i := nI_ge h hN
theorem ge_self (x : Int32) : x ≤ x := Int32.le_refl x
theorem q_sh1 {k : Nat} (h : k < 31) : (1 : Int32) <<< (nI k &&& 31) = nI (2 ^ k) := q_shl h
theorem nI_s (i : Nat) : nI i + (1 : Int32) = nI (i + 1) := nI_1 i
abbrev LoS : Type := (Nat → Nat) × (Nat → Nat) × (Nat → Nat) × (Nat → Nat) × Nat
def okL (L : LoS) : Prop := (∀ d, d < 10 → L.1 d ≤ 10 ∧ L.2.1 d ≤ 10 ∧ L.1 d ≠ d ∧ L.2.1 d ≠ d ∧ (L.1 d = L.2.1 d → L.1 d = 10) ∧ L.2.2.1 d < 6 ∧ L.2.2.2.1 d < 6 ∧ L.2.2.1 d ≠ L.2.2.2.1 d) ∧ 1 ≤ L.2.2.2.2 ∧ L.2.2.2.2 ≤ 10
def jn (L : LoS) (d h : Nat) : Bool := L.2.2.1 d == h || L.2.2.2.1 d == h
def dF (L : LoS) (h : Nat) : Nat → Nat
  | 0 => 0
  | k + 1 => dF L h k ||| (if jn L k h then 2 ^ k else 0)
def doors (L : LoS) (h : Nat) : Nat := dF L h 10
theorem dF_bit (L : LoS) (h d : Nat) : ∀ k, (dF L h k).testBit d = (decide (d < k) && jn L d h)
  | 0 => by simp [dF]
  | k + 1 => by
    unfold dF
    rw [Nat.testBit_or, dF_bit L h d k]
    by_cases hk : d = k
    · subst hk
      by_cases hj : jn L d h = true
      · simp [hj]
      · simp [hj]
    · have h1 : (if jn L k h then 2 ^ k else 0).testBit d = false := by
        split
        · rw [Nat.testBit_two_pow]; simp; omega
        · simp
      rw [h1, Bool.or_false]
      congr 1
      exact decide_eq_decide.mpr (by omega)
theorem doors_bit (L : LoS) (h d : Nat) : (doors L h).testBit d = (decide (d < 10) && jn L d h) := dF_bit L h d 10
theorem doors_lt (L : LoS) (h : Nat) : doors L h < 1024 := bit_lt (k := 10) (fun i hi => by rw [doors_bit]; simp; omega)
def tg (L : LoS) (d : Nat) : Nat := (2 ^ L.1 d ||| 2 ^ L.2.1 d) &&& 1023
theorem tg_bit (L : LoS) (d e : Nat) : (tg L d).testBit e = ((L.1 d == e || L.2.1 d == e) && decide (e < 10)) := by
  unfold tg
  rw [Nat.testBit_and, Nat.testBit_or, Nat.testBit_two_pow, Nat.testBit_two_pow, show (1023 : Nat) = 2 ^ 10 - 1 from rfl, Nat.testBit_two_pow_sub_one]
  rfl
theorem tg_lt (L : LoS) (d : Nat) : tg L d < 1024 := by
  unfold tg
  exact Nat.lt_of_le_of_lt Nat.and_le_right (by decide)
def rLoom (v : LoomV) (L : LoS) : Prop := okL L ∧ (∀ d, d < 10 → v.1 d = nI (L.1 d) ∧ v.2.1 d = nI (L.2.1 d) ∧ v.2.2.1 d = nI (min (L.2.2.1 d) (L.2.2.2.1 d)) ∧ v.2.2.2.1 d = nI (max (L.2.2.1 d) (L.2.2.2.1 d))) ∧ (∀ h, h < 6 → v.2.2.2.2.1 h = nI (doors L h)) ∧ v.2.2.2.2.2 = nI L.2.2.2.2
section LoomSpec
variable {v : LoomV} {L : LoS} {Q : Int32 → Prop} {d h n : Nat}
theorem s_has (hn : n < 2 ^ 31) (hd : d < 31) (hQ : Q (if n.testBit d then 1 else 0)) : wp_X8_has (nI n) (nI d) Q := by
  unfold wp_X8_has
  rw [q_has hn hd]
  cases hb : n.testBit d <;> rw [hb] at hQ
  · exact ⟨fun _ => hQ, fun z => absurd rfl z⟩
  · exact ⟨fun z => absurd z (by decide), fun _ => hQ⟩
theorem s_targetsOf (R : rLoom v L) (hd : d < 10) (hQ : Q (nI (tg L d))) : wp_X3_targetsOf v (nI d) Q := by
  obtain ⟨hok, hv, -, -⟩ := R
  have hk := hok.1 d hd
  unfold wp_X3_targetsOf
  rw [q_in (by omega), nI_clamp (by omega), (hv d hd).1, (hv d hd).2.1, l1, q_shl (by omega), q_shl (by omega), q_or, l1023, q_and]
  exact ⟨hd, hd, hQ⟩
def heldF (L : LoS) (n : Nat) : Nat → Nat
  | 0 => 0
  | i + 1 => if n.testBit i then heldF L n i ||| tg L i else heldF L n i
def held (L : LoS) (n : Nat) : Nat := heldF L n 10
theorem heldF_lt (L : LoS) (n : Nat) : ∀ i, heldF L n i < 1024
  | 0 => by show 0 < 1024; decide
  | i + 1 => by
    unfold heldF
    split
    · exact or_lt (k := 10) (heldF_lt L n i) (tg_lt L i)
    · exact heldF_lt L n i
theorem held_lt (L : LoS) (n : Nat) : held L n < 1024 := heldF_lt L n 10
theorem heldF_bit (L : LoS) (n e : Nat) : ∀ i, (heldF L n i).testBit e = true ↔ ∃ j, j < i ∧ n.testBit j = true ∧ (tg L j).testBit e = true
  | 0 => by simp [heldF]
  | i + 1 => by
    unfold heldF
    by_cases hb : n.testBit i = true
    · rw [if_pos hb, Nat.testBit_or, Bool.or_eq_true, heldF_bit L n e i]
      constructor
      · rintro (⟨j, h1, h2⟩ | h)
        · exact ⟨j, by omega, h2⟩
        · exact ⟨i, by omega, hb, h⟩
      · rintro ⟨j, h1, h2, h3⟩
        by_cases hj : j = i
        · subst hj; exact Or.inr h3
        · exact Or.inl ⟨j, by omega, h2, h3⟩
    · rw [if_neg hb, heldF_bit L n e i]
      constructor
      · rintro ⟨j, h1, h2⟩; exact ⟨j, by omega, h2⟩
      · rintro ⟨j, h1, h2, h3⟩
        by_cases hj : j = i
        · subst hj; exact absurd h2 hb
        · exact ⟨j, by omega, h2, h3⟩
theorem held_bit (L : LoS) (n e : Nat) : (held L n).testBit e = true ↔ ∃ j, j < 10 ∧ n.testBit j = true ∧ (tg L j).testBit e = true := heldF_bit L n e 10
theorem s_heldBy (R : rLoom v L) (hn : n < 1024) (hQ : Q (nI (held L n))) : wp_X3_heldBy v (nI n) Q := by
  refine loop_f (fun k i s => wp_X3_heldBy_L4 v (nI n) Q k s i) 10 (fun i => nI (heldF L n i)) ?_ ?_
  · intro k; exact ⟨fun _ => hQ, fun z => absurd (ge_self _) z⟩
  · intro k i hi ih
    refine ⟨fun z => absurd z (ge_no hi (by decide)), fun _ => s_has (by omega) (by omega) ?_⟩
    cases hb : n.testBit i
    · refine ⟨fun _ => ?_, fun z => absurd rfl z⟩
      rintro _ rfl
      simpa [heldF, hb, nI_s] using ih
    · refine ⟨fun z => absurd z (by decide), fun _ => s_targetsOf R hi ?_⟩
      rintro _ rfl _ rfl
      simpa [heldF, hb, nI_s, q_or] using ih
def coF (L : LoS) (n : Nat) : Nat → Nat
  | 0 => 0
  | i + 1 => if n.testBit i then coF L n i + pc (tg L i) else coF L n i
theorem s_cordsOf (R : rLoom v L) (hn : n < 1024) (hQ : Q (nI (coF L n 10))) : wp_X3_cordsOf v (nI n) Q := by
  refine loop_f (fun k i s => wp_X3_cordsOf_L4 v (nI n) Q k s i) 10 (fun i => nI (coF L n i)) ?_ ?_
  · intro k; exact ⟨fun _ => hQ, fun z => absurd (ge_self _) z⟩
  · intro k i hi ih
    refine ⟨fun z => absurd z (ge_no hi (by decide)), fun _ => s_has (by omega) (by omega) ?_⟩
    cases hb : n.testBit i
    · refine ⟨fun _ => ?_, fun z => absurd rfl z⟩
      rintro _ rfl
      simpa [coF, hb, nI_s] using ih
    · refine ⟨fun z => absurd z (by decide), fun _ => s_targetsOf R hi (s_bitCount (tg_lt L i) ?_)⟩
      rintro _ rfl _ rfl
      simpa [coF, hb, nI_s, nI_add] using ih
def ctF (L : LoS) (t n : Nat) : Nat → Nat
  | 0 => 0
  | i + 1 => if n.testBit i && (tg L i).testBit t then ctF L t n i + 1 else ctF L t n i
theorem s_cordsTo {t : Nat} (R : rLoom v L) (ht : t < 10) (hn : n < 1024) (hQ : Q (nI (ctF L t n 10))) : wp_X3_cordsTo v (nI t) (nI n) Q := by
  refine loop_f (fun k i s => wp_X3_cordsTo_L5 v (nI t) (nI n) Q k s i) 10 (fun i => nI (ctF L t n i)) ?_ ?_
  · intro k; exact ⟨fun _ => hQ, fun z => absurd (ge_self _) z⟩
  · intro k i hi ih
    refine ⟨fun z => absurd z (ge_no hi (by decide)), fun _ => s_has (by omega) (by omega) ?_⟩
    cases hb : n.testBit i
    · refine ⟨fun _ => ?_, fun z => absurd rfl z⟩
      rintro _ rfl
      simpa [ctF, hb, nI_s] using ih
    · refine ⟨fun z => absurd z (by decide), fun _ => s_targetsOf R hi (s_has (by have := tg_lt L i; omega) (by omega) ?_)⟩
      cases hc : (tg L i).testBit t
      · refine ⟨fun _ => ?_, fun z => absurd rfl z⟩
        rintro _ rfl
        simpa [ctF, hb, hc, nI_s] using ih
      · refine ⟨fun z => absurd z (by decide), fun _ => ?_⟩
        rintro _ rfl _ rfl
        simpa [ctF, hb, hc, nI_s] using ih
def tooMany (L : LoS) (h n : Nat) : Bool := decide (L.2.2.2.2 < pc (doors L h &&& n))
theorem s_hasTooMany (R : rLoom v L) (hh : h < 6) (hQ : Q (if tooMany L h n then 1 else 0)) : wp_X3_hasTooMany v (nI h) (nI n) Q := by
  obtain ⟨hok, -, hv, hdr⟩ := R
  unfold wp_X3_hasTooMany
  rw [q_in (by omega), nI_clamp (by omega), hv h hh, q_and, hdr]
  refine ⟨hh, s_bitCount (and_lt (k := 10) (doors_lt L h)) ?_⟩
  have := pc_le (doors L h &&& n)
  have := hok.2.2
  rw [q_le (by omega) (by omega)]
  unfold tooMany at hQ
  by_cases hc : L.2.2.2.2 < pc (doors L h &&& n)
  · simp only [hc, decide_true, if_true] at hQ
    exact ⟨fun z => absurd hc (by omega), fun _ => hQ⟩
  · simp only [hc, decide_false, Bool.false_eq_true, if_false] at hQ
    exact ⟨fun _ => hQ, fun z => absurd (show _ from by omega) z⟩
def cbF (L : LoS) (n : Nat) : Nat → Bool
  | 0 => true
  | k + 1 => cbF L n k && !tooMany L k n
def canB (L : LoS) (n : Nat) : Bool := decide (held L n &&& n = 0) && cbF L n 6
theorem cbF_mono (L : LoS) (n : Nat) {i : Nat} : ∀ {k : Nat}, i ≤ k → cbF L n i = false → cbF L n k = false
  | 0, h1, h2 => by rw [show i = 0 by omega] at h2; exact h2
  | k + 1, h1, h2 => by
    by_cases hk : i = k + 1
    · rw [← hk]; exact h2
    · unfold cbF
      rw [cbF_mono L n (by omega : i ≤ k) h2]; rfl
theorem s_canBeOpen (R : rLoom v L) (hn : n < 1024) (hQ : Q (if canB L n then 1 else 0)) : wp_X3_canBeOpen v (nI n) Q := by
  unfold wp_X3_canBeOpen
  refine s_heldBy R hn ?_
  have hb : held L n &&& n < 2 ^ 31 := Nat.lt_of_le_of_lt Nat.and_le_right (by omega)
  rw [q_and, l0, q_eq hb (by decide)]
  unfold canB at hQ
  refine ⟨fun hz => ?_, fun hz => ?_⟩
  · rw [hz] at hQ
    simp only [decide_true, Bool.true_and] at hQ
    refine loop_p (σ := Unit) (fun k i _ => wp_X3_canBeOpen_L14 v (nI n) Q k i) 6 (fun _ => ()) (fun i => cbF L n i = true) rfl ?_ ?_
    · intro k hk
      rw [hk] at hQ
      exact ⟨fun _ => hQ, fun z => absurd (ge_self _) z⟩
    · intro k i hi hp ih
      refine ⟨fun z => absurd z (ge_no hi (by decide)), fun _ => s_hasTooMany R hi ?_⟩
      cases hc : tooMany L i n
      · refine ⟨fun _ => ?_, fun z => absurd rfl z⟩
        rintro _ rfl
        rw [nI_s]
        exact ih (by unfold cbF; rw [hp, hc]; rfl)
      · refine ⟨fun z => absurd z (by decide), fun _ => ?_⟩
        have : cbF L n 6 = false := cbF_mono L n (i := i + 1) (by omega) (by unfold cbF; rw [hp, hc]; rfl)
        rw [this] at hQ
        exact hQ
  · simp only [hz, decide_false, Bool.false_and, Bool.false_eq_true, if_false] at hQ
    exact hQ
def afterC (L : LoS) (n d : Nat) : Nat := dif (n ||| 2 ^ d) (tg L d)
theorem afterC_lt (L : LoS) (hn : n < 1024) (hd : d < 10) : afterC L n d < 1024 := dif_lt (k := 10) (or_lt (k := 10) hn (p2_lt hd))
theorem s_afterCords (R : rLoom v L) (hd : d < 10) (hQ : Q (nI (afterC L n d))) : wp_X3_afterCords v (nI n) (nI d) Q := by
  unfold wp_X3_afterCords
  refine s_targetsOf R hd ?_
  rw [q_sh1 (by omega), q_or, q_andn]
  exact hQ
theorem s_without (hd : d < 10) (hQ : Q (nI (dif n (2 ^ d)))) : wp_X8_without (nI n) (nI d) Q := by
  unfold wp_X8_without
  rw [q_sh1 (by omega), q_andn]
  exact hQ
def slam (L : LoS) (d h : Nat) : Nat → Nat → Nat
  | 0, n => n
  | k + 1, n => if tooMany L h n then slam L d h k (dif n (lowb (dif (n &&& doors L h) (2 ^ d)))) else n
theorem slam_lt (L : LoS) (d h : Nat) : ∀ k n, n < 1024 → slam L d h k n < 1024
  | 0, n, hn => hn
  | k + 1, n, hn => by
    unfold slam
    split
    · exact slam_lt L d h k _ (dif_lt (k := 10) hn)
    · exact hn
def drF (L : LoS) (d : Nat) (n : Nat) : Nat → Nat
  | 0 => n
  | h + 1 => slam L d h 10 (drF L d n h)
theorem drF_lt (L : LoS) (d : Nat) (hn : n < 1024) : ∀ h, drF L d n h < 1024
  | 0 => hn
  | h + 1 => slam_lt L d h 10 _ (drF_lt L d hn h)
theorem s_slam (R : rLoom v L) (hd : d < 10) (hh : h < 6) {K : Int32 → Int32 → Prop} : ∀ k n, k ≤ 10 → n < 1024 → K (nI (slam L d h k n)) (nI (h + 1)) → wp_X3_afterDrafts_L15 v (nI d) (nI h) Q K (k + 1) (nI n) (nI (10 - k)) := by
  intro k
  induction k with
  | zero =>
    intro n hk hn hK
    refine ⟨fun _ => ?_, fun z => absurd (ge_self _) z⟩
    rintro _ rfl
    rw [nI_s]
    exact hK
  | succ k ih =>
    intro n hk hn hK
    refine ⟨fun z => absurd z (ge_no (i := 10 - (k + 1)) (N := 10) (by omega) (by decide)), fun _ => s_hasTooMany R hh ?_⟩
    unfold slam at hK
    cases hc : tooMany L h n <;> rw [hc] at hK
    · refine ⟨fun _ => ?_, fun z => absurd rfl z⟩
      rintro _ rfl
      rw [nI_s]
      exact hK
    · refine ⟨fun z => absurd z (by decide), fun _ => ?_⟩
      rw [q_in (by omega), nI_clamp (by omega), R.2.2.1 h hh, q_and]
      refine ⟨hh, s_without hd ?_⟩
      rintro _ rfl _ rfl _ rfl
      rw [q_low _ (dif_lt (k := 10) (and_lt (k := 10) hn)), q_andn, nI_s, show 10 - (k + 1) + 1 = 10 - k by omega]
      exact ih _ (by omega) (dif_lt (k := 10) hn) hK
def afterD (L : LoS) (n d : Nat) : Nat := drF L d n 6
theorem s_afterDrafts (R : rLoom v L) (hd : d < 10) (hn : n < 1024) (hQ : Q (nI (afterD L n d))) : wp_X3_afterDrafts v (nI n) (nI d) Q := by
  refine loop_f (fun k i s => wp_X3_afterDrafts_L5 v (nI d) Q k s i) 6 (fun i => nI (drF L d n i)) ?_ ?_
  · intro k; exact ⟨fun _ => hQ, fun z => absurd (ge_self _) z⟩
  · intro k i hi ih
    refine ⟨fun z => absurd z (ge_no hi (by decide)), fun _ => ⟨11, ?_⟩⟩
    exact s_slam R hd hi 10 _ (Nat.le_refl _) (drF_lt L d hn i) ih
def afterO (L : LoS) (n d : Nat) : Nat := afterD L (afterC L n d) d
theorem afterO_lt (L : LoS) (hn : n < 1024) (hd : d < 10) : afterO L n d < 1024 := drF_lt L d (afterC_lt L hn hd) 6
theorem s_afterOpening (R : rLoom v L) (hd : d < 10) (hn : n < 1024) (hQ : Q (nI (afterO L n d))) : wp_X3_afterOpening v (nI n) (nI d) Q :=
  s_afterCords R hd (s_afterDrafts R hd (afterC_lt L hn hd) hQ)
end LoomSpec
