/-! PURE: a loom, third part: pairs of doors, halls that hang together, copies -/
def muP (L : LoS) (i j : Nat) : Nat := if (tg L i).testBit j && (tg L j).testBit i then 1 else 0
def sumFr (L : LoS) (i : Nat) : Nat → Nat → Nat
  | _, 0 => 0
  | j, k + 1 => muP L i j + sumFr L i (j + 1) k
def pdF (L : LoS) : Nat → Nat
  | 0 => 0
  | i + 1 => pdF L i + sumFr L i (i + 1) (9 - i)
theorem s_pairs14 {v : LoomV} {L : LoS} {i : Nat} {Q : Int32 → Prop} {K : Int32 → Int32 → Prop} (R : rLoom v L) (hi : i < 10) : ∀ k j acc, j + k = 10 → K (nI (acc + sumFr L i j k)) (nI (i + 1)) → wp_X3_pairsOfDoors_L14 v (nI i) Q K (k + 1) (nI acc) (nI j) := by
  intro k
  induction k with
  | zero =>
    intro j acc hj hK
    have hj : j = 10 := by omega
    subst hj
    refine ⟨fun _ => ?_, fun z => absurd (ge_self _) z⟩
    rintro _ rfl
    rw [nI_s]
    exact hK
  | succ k ih =>
    intro j acc hj hK
    have hj10 : j < 10 := by omega
    refine ⟨fun z => absurd z (ge_no hj10 (by decide)), fun _ => s_targetsOf R hi (s_has (by have := tg_lt L i; omega) (by omega) ?_)⟩
    have e : acc + sumFr L i j (k + 1) = acc + muP L i j + sumFr L i (j + 1) k := by
      rw [Nat.add_assoc]; rfl
    rw [e] at hK
    cases hb : (tg L i).testBit j
    · refine ⟨fun _ => ?_, fun z => absurd rfl z⟩
      rintro _ rfl
      rw [nI_s]
      refine ih (j + 1) acc (by omega) ?_
      simpa [muP, hb] using hK
    · refine ⟨fun z => absurd z (by decide), fun _ => s_targetsOf R hj10 (s_has (by have := tg_lt L j; omega) (by omega) ?_)⟩
      cases hc : (tg L j).testBit i
      · refine ⟨fun _ => ?_, fun z => absurd rfl z⟩
        rintro _ rfl
        rw [nI_s]
        refine ih (j + 1) acc (by omega) ?_
        simpa [muP, hb, hc] using hK
      · refine ⟨fun z => absurd z (by decide), fun _ => ?_⟩
        rintro _ rfl _ rfl
        rw [nI_s, nI_s]
        refine ih (j + 1) (acc + 1) (by omega) ?_
        simpa [muP, hb, hc] using hK
theorem s_pairsOfDoors {v : LoomV} {L : LoS} {Q : Int32 → Prop} (R : rLoom v L) (hQ : Q (nI (pdF L 10))) : wp_X3_pairsOfDoors v Q := by
  refine loop_f (fun k i s => wp_X3_pairsOfDoors_L4 v Q k s i) 10 (fun i => nI (pdF L i)) ?_ ?_
  · intro k; exact ⟨fun _ => hQ, fun z => absurd (ge_self _) z⟩
  · intro k i hi ih
    refine ⟨fun z => absurd z (ge_no hi (by decide)), fun _ => ?_⟩
    rintro _ rfl
    rw [nI_s]
    exact ⟨9 - i + 1, s_pairs14 R hi (9 - i) (i + 1) (pdF L i) (by omega) ih⟩
/-- both halls of a door, as a set -/
def bo (L : LoS) (d : Nat) : Nat := 2 ^ min (L.2.2.1 d) (L.2.2.2.1 d) ||| 2 ^ max (L.2.2.1 d) (L.2.2.2.1 d)
theorem bo_lt {L : LoS} (hok : okL L) {d : Nat} (hd : d < 10) : bo L d < 64 := by
  have := hok.1 d hd
  have h1 : 2 ^ min (L.2.2.1 d) (L.2.2.2.1 d) < 2 ^ 6 := Nat.pow_lt_pow_right (by decide) (by omega)
  have h2 : 2 ^ max (L.2.2.1 d) (L.2.2.2.1 d) < 2 ^ 6 := Nat.pow_lt_pow_right (by decide) (by omega)
  exact or_lt (k := 6) h1 h2
def hst (L : LoS) (n s d : Nat) : Nat := if n.testBit d then (if s &&& bo L d = 0 then s else s ||| bo L d) else s
def hrF (L : LoS) (n s : Nat) : Nat → Nat
  | 0 => s
  | d + 1 => hst L n (hrF L n s d) d
theorem hst_lt {L : LoS} (hok : okL L) {n s d : Nat} (hd : d < 10) (hs : s < 64) : hst L n s d < 64 := by
  unfold hst
  split
  · split
    · exact hs
    · exact or_lt (k := 6) hs (bo_lt hok hd)
  · exact hs
theorem hrF_lt {L : LoS} (hok : okL L) {n s : Nat} (hs : s < 64) : ∀ d, d ≤ 10 → hrF L n s d < 64
  | 0, _ => hs
  | d + 1, h => hst_lt hok (by omega) (hrF_lt hok hs d (by omega))
def hfF (L : LoS) (n h : Nat) : Nat → Nat
  | 0 => 2 ^ h
  | r + 1 => hrF L n (hfF L n h r) 10
theorem hfF_lt {L : LoS} (hok : okL L) {n h : Nat} (hh : h < 6) : ∀ r, hfF L n h r < 64
  | 0 => by
    show 2 ^ h < 2 ^ 6
    exact Nat.pow_lt_pow_right (by decide) hh
  | r + 1 => hrF_lt hok (hfF_lt hok hh r) 10 (Nat.le_refl _)
def hf (L : LoS) (n h : Nat) : Nat := hfF L n h 6
theorem s_halls17 {v : LoomV} {L : LoS} {n r : Nat} {Q : Int32 → Prop} {K : Int32 → Int32 → Prop} (R : rLoom v L) (hn : n < 1024) (hr : r < 6) {s : Nat} (hs : s < 64) (hK : K (nI (hrF L n s 10)) (nI (r + 1))) : ∃ k, wp_X3_hallsFrom_L17 v (nI n) (nI r) Q K k (nI s) (0 : Int32) := by
  refine loop_f (fun k i s => wp_X3_hallsFrom_L17 v (nI n) (nI r) Q K k s i) 10 (fun i => nI (hrF L n s i)) ?_ ?_
  · intro k
    refine ⟨fun _ => ?_, fun z => absurd (ge_self _) z⟩
    rintro _ rfl
    rw [nI_s]
    exact hK
  · intro k i hi ih
    have hk := R.1.1 i hi
    refine ⟨fun z => absurd z (ge_no hi (by decide)), fun _ => ?_⟩
    rw [q_in (by omega), nI_clamp (by omega), (R.2.1 i hi).2.2.1, (R.2.1 i hi).2.2.2, q_sh1 (by omega), q_sh1 (by omega), q_or]
    refine ⟨hi, hi, ?_⟩
    rintro _ rfl
    have hb : bo L i < 64 := bo_lt R.1 hi
    refine s_has (by omega) (by omega) ?_
    rw [show 2 ^ min (L.2.2.1 i) (L.2.2.2.1 i) ||| 2 ^ max (L.2.2.1 i) (L.2.2.2.1 i) = bo L i from rfl, q_and, q_or, l0, q_eq (by have := @Nat.and_le_right (hrF L n s i) (bo L i); omega) (by decide)]
    have e : hrF L n s (i + 1) = hst L n (hrF L n s i) i := rfl
    rw [e] at ih
    unfold hst at ih
    cases hc : n.testBit i <;> rw [hc] at ih
    · refine ⟨fun _ => ?_, fun z => absurd rfl z⟩
      rintro _ rfl
      rw [nI_s]
      exact ih
    · refine ⟨fun z => absurd z (by decide), fun _ => ⟨fun z => ?_, fun z => ?_⟩⟩
      · rintro _ rfl
        rw [nI_s]
        simpa [z] using ih
      · rintro _ rfl _ rfl
        rw [nI_s]
        simpa [z] using ih
theorem s_hallsFrom {v : LoomV} {L : LoS} {n h : Nat} {Q : Int32 → Prop} (R : rLoom v L) (hn : n < 1024) (hh : h < 6) (hQ : Q (nI (hf L n h))) : wp_X3_hallsFrom v (nI h) (nI n) Q := by
  rintro _ rfl
  rw [q_sh1 (by omega)]
  refine loop_f (fun k i s => wp_X3_hallsFrom_L7 v (nI n) Q k s i) 6 (fun i => nI (hfF L n h i)) ?_ ?_
  · intro k; exact ⟨fun _ => hQ, fun z => absurd (ge_self _) z⟩
  · intro k i hi ih
    refine ⟨fun z => absurd z (ge_no hi (by decide)), fun _ => ?_⟩
    exact s_halls17 R hn hi (hfF_lt R.1 hh i) ih
def phF (L : LoS) (n : Nat) : Nat → Int32
  | 0 => 0
  | h + 1 => phF L n h + (nI (pc (hf L n h)) - 1)
theorem s_pairsOfHalls {v : LoomV} {L : LoS} {n : Nat} {Q : Int32 → Prop} (R : rLoom v L) (hn : n < 1024) (hQ : Q (phF L n 6 / (2 : Int32))) : wp_X3_pairsOfHalls v (nI n) Q := by
  refine loop_f (fun k i s => wp_X3_pairsOfHalls_L4 v (nI n) Q k s i) 6 (fun i => phF L n i) ?_ ?_
  · intro k; exact ⟨fun _ => hQ, fun z => absurd (ge_self _) z⟩
  · intro k i hi ih
    refine ⟨fun z => absurd z (ge_no hi (by decide)), fun _ => s_hallsFrom R hn hi (s_bitCount (by have := hfF_lt R.1 hi (n := n) 6; unfold hf; omega) ?_)⟩
    rintro _ rfl _ rfl
    rw [nI_s]
    exact ih
theorem cpy0 {f g : Nat → Int32} {n j : Nat} {c : Int32} (hc : c.toNatClampNeg = n) (hj : j < n) : va_cpy f g (0 : Int32).toNatClampNeg (0 : Int32).toNatClampNeg c.toNatClampNeg j = f j := by
  have h0 : (0 : Int32).toNatClampNeg = 0 := by decide
  rw [hc, h0]
  unfold va_cpy
  rw [if_pos ⟨Nat.zero_le _, by omega⟩, Nat.zero_add, Nat.sub_zero]
/-- a copy: what is read of it is what is read of the other -/
theorem s_copyL {v u : LoomV} {L : LoS} {Q : LoomV → Prop} (R : rLoom u L) (hQ : ∀ v', rLoom v' L → Q v') : wp_X3_copy v u Q := by
  obtain ⟨hok, hv, hm, hdr⟩ := R
  rintro _ rfl _ rfl _ rfl _ rfl _ rfl _ rfl
  refine hQ _ ⟨hok, fun d hd => ?_, fun h hh => ?_, hdr⟩
  · obtain ⟨f1, f2, f3, f4⟩ := hv d hd
    exact ⟨(cpy0 (n := 10) (by decide) hd).trans f1, (cpy0 (n := 10) (by decide) hd).trans f2, (cpy0 (n := 10) (by decide) hd).trans f3, (cpy0 (n := 10) (by decide) hd).trans f4⟩
  · exact (cpy0 (n := 6) (by decide) hh).trans (hm h hh)
