/-! PURE: the reference's row of numbers -/
def cdv (c : Nat) : Int32 := if c = 10 then -4 else nI c
def zD (σ : SS2) (d w : Nat) : Int32 := match w with
  | 0 => if σ.2.1.testBit d then 1 else 0
  | 1 => nI (σ.1.2.2.1 d)
  | 2 => nI (σ.1.2.2.2.1 d)
  | 3 => cdv (σ.1.1 d)
  | 4 => cdv (σ.1.2.1 d)
  | 5 => σ.2.2.2.1 d
  | _ => σ.2.2.2.2.1 d
def zG (σ : SS2) (g w : Nat) : Int32 := match w with
  | 0 => nI (σ.2.2.1.1 g)
  | 1 => nI (σ.2.2.1.2.1 g)
  | _ => σ.2.2.1.2.2 g
def zH (σ : SS2) (i : Nat) : Int32 := match i with
  | 0 => nI σ.1.2.2.2.2
  | 1 => σ.2.2.2.2.2.1
  | 2 => σ.2.2.2.2.2.2.1
  | 3 => σ.2.2.2.2.2.2.2.1
  | 4 => σ.2.2.2.2.2.2.2.2.1
  | _ => σ.2.2.2.2.2.2.2.2.2
def zv (σ : SS2) (i : Nat) : Int32 := if i < 6 then zH σ i else if i < 76 then zD σ ((i - 6) / 7) ((i - 6) % 7) else zG σ ((i - 76) / 3) ((i - 76) % 3)
def rZ (z : Nat → Int32) (σ : SS2) : Prop := ∀ i, i < 85 → z i = zv σ i
theorem zv_H (σ : SS2) {i : Nat} (h : i < 6) : zv σ i = zH σ i := if_pos h
theorem zv_D (σ : SS2) {d w : Nat} (hd : d < 10) (hw : w < 7) : zv σ (6 + 7 * d + w) = zD σ d w := by
  unfold zv
  rw [if_neg (by omega), if_pos (by omega), show (6 + 7 * d + w - 6) / 7 = d by omega, show (6 + 7 * d + w - 6) % 7 = w by omega]
theorem zv_G (σ : SS2) {g w : Nat} (hg : g < 3) (hw : w < 3) : zv σ (76 + 3 * g + w) = zG σ g w := by
  unfold zv
  rw [if_neg (by omega), if_neg (by omega), show (76 + 3 * g + w - 76) / 3 = g by omega, show (76 + 3 * g + w - 76) % 3 = w by omega]
/-- a place of the row: one of the three kinds -/
theorem z_place {P : Nat → Prop} (h1 : ∀ i, i < 6 → P i) (h2 : ∀ d w, d < 10 → w < 7 → P (6 + 7 * d + w)) (h3 : ∀ g w, g < 3 → w < 3 → P (76 + 3 * g + w)) : ∀ i, i < 85 → P i := by
  intro i hi
  by_cases a : i < 6
  · exact h1 i a
  · by_cases b : i < 76
    · have := h2 ((i - 6) / 7) ((i - 6) % 7) (by omega) (by omega)
      rwa [show 6 + 7 * ((i - 6) / 7) + (i - 6) % 7 = i by omega] at this
    · have := h3 ((i - 76) / 3) ((i - 76) % 3) (by omega) (by omega)
      rwa [show 76 + 3 * ((i - 76) / 3) + (i - 76) % 3 = i by omega] at this
theorem rZ_H {z : Nat → Int32} {σ : SS2} (R : rZ z σ) {i : Nat} (h : i < 6) : z i = zH σ i := (R i (by omega)).trans (zv_H σ h)
theorem rZ_D {z : Nat → Int32} {σ : SS2} (R : rZ z σ) {d w : Nat} (hd : d < 10) (hw : w < 7) : z (6 + 7 * d + w) = zD σ d w := (R _ (by omega)).trans (zv_D σ hd hw)
theorem rZ_G {z : Nat → Int32} {σ : SS2} (R : rZ z σ) {g w : Nat} (hg : g < 3) (hw : w < 3) : z (76 + 3 * g + w) = zG σ g w := (R _ (by omega)).trans (zv_G σ hg hw)
/-- the row from its three kinds -/
theorem rZ_of {z : Nat → Int32} {σ : SS2} (h1 : ∀ i, i < 6 → z i = zH σ i) (h2 : ∀ d w, d < 10 → w < 7 → z (6 + 7 * d + w) = zD σ d w) (h3 : ∀ g w, g < 3 → w < 3 → z (76 + 3 * g + w) = zG σ g w) : rZ z σ :=
  z_place (P := fun i => z i = zv σ i) (fun i hi => (h1 i hi).trans (zv_H σ hi).symm) (fun d w hd hw => (h2 d w hd hw).trans (zv_D σ hd hw).symm) (fun g w hg hw => (h3 g w hg hw).trans (zv_G σ hg hw).symm)
theorem updS {f : Nat → Int32} {k : Nat} {x : Int32} : upd f k x k = x := if_pos rfl
theorem updO {f : Nat → Int32} {k j : Nat} {x : Int32} (h : j ≠ k) : upd f k x j = f j := if_neg h
theorem rZ_updD {z : Nat → Int32} {σ σ' : SS2} {d w : Nat} {x : Int32} (R : rZ z σ) (hd : d < 10) (hw : w < 7) (h1 : ∀ i, i < 6 → zH σ' i = zH σ i) (h2 : ∀ e u, e < 10 → u < 7 → zD σ' e u = if e = d ∧ u = w then x else zD σ e u) (h3 : ∀ g u, g < 3 → u < 3 → zG σ' g u = zG σ g u) : rZ (upd z (6 + 7 * d + w) x) σ' := by
  refine rZ_of (fun i hi => ?_) (fun e u he hu => ?_) (fun g u hg hu => ?_)
  · rw [updO (by omega), h1 i hi, rZ_H R hi]
  · rw [h2 e u he hu]
    by_cases hc : e = d ∧ u = w
    · rw [if_pos hc, hc.1, hc.2, updS]
    · rw [if_neg hc, updO (by omega), rZ_D R he hu]
  · rw [updO (by omega), h3 g u hg hu, rZ_G R hg hu]
theorem rZ_updH {z : Nat → Int32} {σ σ' : SS2} {k : Nat} {x : Int32} (R : rZ z σ) (hk : k < 6) (h1 : ∀ i, i < 6 → zH σ' i = if i = k then x else zH σ i) (h2 : ∀ e u, e < 10 → u < 7 → zD σ' e u = zD σ e u) (h3 : ∀ g u, g < 3 → u < 3 → zG σ' g u = zG σ g u) : rZ (upd z k x) σ' := by
  refine rZ_of (fun i hi => ?_) (fun e u he hu => ?_) (fun g u hg hu => ?_)
  · rw [h1 i hi]
    by_cases hc : i = k
    · rw [if_pos hc, hc, updS]
    · rw [if_neg hc, updO hc, rZ_H R hi]
  · rw [updO (by omega), h2 e u he hu, rZ_D R he hu]
  · rw [updO (by omega), h3 g u hg hu, rZ_G R hg hu]
theorem rZ_updG {z : Nat → Int32} {σ σ' : SS2} {g w : Nat} {x : Int32} (R : rZ z σ) (hg : g < 3) (hw : w < 3) (h1 : ∀ i, i < 6 → zH σ' i = zH σ i) (h2 : ∀ e u, e < 10 → u < 7 → zD σ' e u = zD σ e u) (h3 : ∀ e u, e < 3 → u < 3 → zG σ' e u = if e = g ∧ u = w then x else zG σ e u) : rZ (upd z (76 + 3 * g + w) x) σ' := by
  refine rZ_of (fun i hi => ?_) (fun e u he hu => ?_) (fun e u he hu => ?_)
  · rw [updO (by omega), h1 i hi, rZ_H R hi]
  · rw [updO (by omega), h2 e u he hu, rZ_D R he hu]
  · rw [h3 e u he hu]
    by_cases hc : e = g ∧ u = w
    · rw [if_pos hc, hc.1, hc.2, updS]
    · rw [if_neg hc, updO (by omega), rZ_G R he hu]
theorem q_mul (a b : Nat) : nI a * nI b = nI (a * b) := pk_mul a b
theorem zixD (d w : Nat) : ((6 : Int32) + ((7 : Int32) * nI d)) + nI w = nI (6 + 7 * d + w) := by
  rw [l6, l7, q_mul, nI_add, nI_add]
theorem zixG (g w : Nat) : ((76 : Int32) + ((3 : Int32) * nI g)) + nI w = nI (76 + 3 * g + w) := by
  rw [show (76 : Int32) = nI 76 from rfl, l3, q_mul, nI_add, nI_add]
section ZSpec
variable {v : ModV} {σ : SS2} {d g h : Nat}
theorem z_of {Q : Int32 → Prop} (R : rZ v.1 σ) (hd : d < 10) (w : Nat) (hw : w < 7) (hQ : Q (zD σ d w)) : wp_X9_of v (nI d) (nI w) Q := by
  unfold wp_X9_of
  rw [zixD, q_in (by omega), nI_clamp (by omega), rZ_D R hd hw]
  exact ⟨by omega, hQ⟩
theorem z_ofGuest {Q : Int32 → Prop} (R : rZ v.1 σ) (hg : g < 3) (w : Nat) (hw : w < 3) (hQ : Q (zG σ g w)) : wp_X9_ofGuest v (nI g) (nI w) Q := by
  unfold wp_X9_ofGuest
  rw [zixG, q_in (by omega), nI_clamp (by omega), rZ_G R hg hw]
  exact ⟨by omega, hQ⟩
theorem z_lay {Q : ModV → Prop} {x : Int32} (hd : d < 10) (w : Nat) (hw : w < 7) (hQ : Q (upd v.1 (6 + 7 * d + w) x, v.2)) : wp_X9_lay v (nI d) (nI w) x Q := by
  unfold wp_X9_lay
  rw [zixD, q_in (by omega), nI_clamp (by omega)]
  refine ⟨by omega, ?_⟩
  rintro _ rfl
  exact hQ
theorem z_isOpen {Q : Int32 → Prop} (R : rZ v.1 σ) (hd : d < 10) (hQ : Q (if σ.2.1.testBit d then 1 else 0)) : wp_X9_isOpen v (nI d) Q := by
  refine z_of R hd 0 (by decide) ?_
  show ((¬ (if σ.2.1.testBit d then (1 : Int32) else 0) = 1) → Q 0) ∧ ((if σ.2.1.testBit d then (1 : Int32) else 0) = 1 → Q 1)
  cases hb : σ.2.1.testBit d <;> rw [hb] at hQ
  · exact ⟨fun _ => hQ, fun z => absurd z (by decide)⟩
  · exact ⟨fun z => absurd rfl z, fun _ => hQ⟩
theorem z_joins {Q : Int32 → Prop} (R : rZ v.1 σ) (hok : okL σ.1) (hd : d < 10) (hh : h < 6) (hQ : Q (if jn σ.1 d h then 1 else 0)) : wp_X9_joins v (nI d) (nI h) Q := by
  have hk := hok.1 d hd
  refine z_of R hd 1 (by decide) ?_
  show ((nI (σ.1.2.2.1 d) = nI h) → _) ∧ ((¬ nI (σ.1.2.2.1 d) = nI h) → _)
  rw [q_eq (by omega) (by omega)]
  unfold jn at hQ
  refine ⟨fun z => ?_, fun z => z_of R hd 2 (by decide) ?_⟩
  · simpa [z] using hQ
  · show ((¬ nI (σ.1.2.2.2.1 d) = nI h) → _) ∧ ((nI (σ.1.2.2.2.1 d) = nI h) → _)
    rw [q_eq (by omega) (by omega)]
    refine ⟨fun y => ?_, fun y => ?_⟩
    · simpa [z, y] using hQ
    · simpa [z, y] using hQ
theorem cdv_eq {c e : Nat} (hc : c ≤ 10) (he : e < 10) : (cdv c = nI e) = (c = e) := by
  unfold cdv
  by_cases h : c = 10
  · rw [if_pos h]
    apply propext
    constructor
    · intro z
      have hh : ∀ i, i < 10 → ¬ (-4 : Int32) = nI i := by decide
      exact absurd z (hh e he)
    · intro z; omega
  · rw [if_neg h, q_eq (by omega) (by omega)]
theorem z_goesTo {Q : Int32 → Prop} {e : Nat} (R : rZ v.1 σ) (hok : okL σ.1) (hd : d < 10) (he : e < 10) (hQ : Q (if (tg σ.1 d).testBit e then 1 else 0)) : wp_X9_goesTo v (nI d) (nI e) Q := by
  have hk := hok.1 d hd
  rw [tg_bit] at hQ
  refine z_of R hd 3 (by decide) ?_
  show ((cdv (σ.1.1 d) = nI e) → _) ∧ ((¬ cdv (σ.1.1 d) = nI e) → _)
  rw [cdv_eq hk.1 he]
  refine ⟨fun z => ?_, fun z => z_of R hd 4 (by decide) ?_⟩
  · simpa [z, he] using hQ
  · show ((¬ cdv (σ.1.2.1 d) = nI e) → _) ∧ ((cdv (σ.1.2.1 d) = nI e) → _)
    rw [cdv_eq hk.2.1 he]
    refine ⟨fun y => ?_, fun y => ?_⟩
    · simpa [z, y, he] using hQ
    · simpa [z, y, he] using hQ
theorem b1023 {i : Nat} (h : i < 10) : (1023 : Nat).testBit i = true := by
  rw [show (1023 : Nat) = 2 ^ 10 - 1 from rfl, Nat.testBit_two_pow_sub_one]
  simpa using h
theorem add0 (x : Int32) : x + (0 : Int32) = x := Int32.add_zero x
theorem z_cordsTo {Q : Int32 → Prop} {t : Nat} {b : Int32} (R : rZ v.1 σ) (hok : okL σ.1) (ht : t < 10) (hQ : Q (nI (ctF σ.1 t (if b = 0 then 1023 else σ.2.1) 10))) : wp_X9_cordsTo v (nI t) b Q := by
  refine loop_f (fun k i s => wp_X9_cordsTo_L5 v (nI t) b Q k s i) 10 (fun i => nI (ctF σ.1 t (if b = 0 then 1023 else σ.2.1) i)) ?_ ?_
  · intro k; exact ⟨fun _ => hQ, fun z => absurd (ge_self _) z⟩
  · intro k i hi ih
    refine ⟨fun z => absurd z (ge_no hi (by decide)), fun _ => z_goesTo R hok hi ht ?_⟩
    cases hb : (tg σ.1 i).testBit t
    · refine ⟨fun _ => ?_, fun z => absurd rfl z⟩
      rintro _ rfl _ rfl
      rw [nI_s, add0]
      simpa [ctF, hb] using ih
    · refine ⟨fun z => absurd z (by decide), fun _ => ⟨fun z => ?_, fun z => z_isOpen R hi ?_⟩⟩
      · rintro _ rfl _ rfl
        rw [nI_s, nI_s]
        simpa [ctF, hb, z, b1023 hi] using ih
      · cases hc : σ.2.1.testBit i
        · refine ⟨fun _ => ?_, fun y => absurd rfl y⟩
          rintro _ rfl _ rfl
          rw [nI_s, add0]
          simpa [ctF, hb, z, hc] using ih
        · refine ⟨fun y => absurd y (by decide), fun _ => ?_⟩
          rintro _ rfl _ rfl
          rw [nI_s, nI_s]
          simpa [ctF, hb, z, hc] using ih
theorem ctF_le (L : LoS) (t n : Nat) : ∀ i, ctF L t n i ≤ i
  | 0 => Nat.le_refl 0
  | i + 1 => by have := ctF_le L t n i; unfold ctF; split <;> omega
theorem ctF_0 (L : LoS) (t n : Nat) : ∀ i, ctF L t n i = 0 ↔ (heldF L n i).testBit t = false
  | 0 => by simp [ctF, heldF]
  | i + 1 => by
    have ih := ctF_0 L t n i
    unfold ctF heldF
    cases h1 : n.testBit i
    · simpa using ih
    · cases h2 : (tg L i).testBit t
      · simpa [Nat.testBit_or, h2] using ih
      · simp [Nat.testBit_or, h2]
theorem z_reason {Q : Int32 → Prop} (R : rZ v.1 σ) (hok : okL σ.1) (hd : d < 10) (hQ : Q (nI (rsn σ.1 σ.2.1 d))) : wp_X9_reason v (nI d) Q := by
  refine z_isOpen R hd ?_
  unfold rsn at hQ
  cases hb : σ.2.1.testBit d <;> rw [hb] at hQ
  · refine ⟨fun _ => z_cordsTo R hok hd ?_, fun z => absurd rfl z⟩
    rw [if_neg (by decide)]
    have h1 := ctF_le σ.1 d σ.2.1 10
    have h2 := ctF_0 σ.1 d σ.2.1 10
    rw [l0, q_le (by omega) (by decide)]
    refine ⟨fun z => ?_, fun z => ?_⟩
    · have h3 : (held σ.1 σ.2.1).testBit d = false := h2.mp (by omega)
      simpa [h3] using hQ
    · have h3 : (held σ.1 σ.2.1).testBit d = true := by
        cases y : (held σ.1 σ.2.1).testBit d with
        | true => rfl
        | false => exact absurd (h2.mpr y) (by omega)
      have hq : Q (nI 2) := by simpa [h3] using hQ
      exact hq
  · exact ⟨fun z => absurd z (by decide), fun _ => hQ⟩
theorem pcF_and (L : LoS) (h n : Nat) {k : Nat} (hk : k < 10) : pcF (doors L h &&& n) (k + 1) = if n.testBit k && jn L k h then pcF (doors L h &&& n) k + 1 else pcF (doors L h &&& n) k := by
  show pcF (doors L h &&& n) k + _ = _
  rw [Nat.testBit_and, doors_bit]
  cases n.testBit k <;> cases jn L k h <;> simp [hk]
theorem z_openIn {Q : Int32 → Prop} (R : rZ v.1 σ) (hok : okL σ.1) (hh : h < 6) (hQ : Q (nI (pc (doors σ.1 h &&& σ.2.1)))) : wp_X9_openIn v (nI h) Q := by
  refine loop_f (fun k i s => wp_X9_openIn_L4 v (nI h) Q k s i) 10 (fun i => nI (pcF (doors σ.1 h &&& σ.2.1) i)) ?_ ?_
  · intro k; exact ⟨fun _ => hQ, fun z => absurd (ge_self _) z⟩
  · intro k i hi ih
    rw [pcF_and σ.1 h σ.2.1 hi] at ih
    refine ⟨fun z => absurd z (ge_no hi (by decide)), fun _ => z_isOpen R hi ?_⟩
    cases hb : σ.2.1.testBit i
    · refine ⟨fun _ => ?_, fun z => absurd rfl z⟩
      rintro _ rfl _ rfl
      rw [nI_s, add0]
      simpa [hb] using ih
    · refine ⟨fun z => absurd z (by decide), fun _ => z_joins R hok hi hh ?_⟩
      cases hc : jn σ.1 i h
      · refine ⟨fun _ => ?_, fun y => absurd rfl y⟩
        rintro _ rfl _ rfl
        rw [nI_s, add0]
        simpa [hb, hc] using ih
      · refine ⟨fun y => absurd y (by decide), fun _ => ?_⟩
        rintro _ rfl _ rfl
        rw [nI_s, nI_s]
        simpa [hb, hc] using ih
end ZSpec
