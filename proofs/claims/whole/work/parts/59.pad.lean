/-! PURE: texts of deeds: where they have a fault -/
def nx (e c : Nat) : Nat :=
  if e = 0 then (if c = 103 then 1 else if c = 111 then 3 else if c = 99 then 3 else 5)
  else if e = 1 then (if 48 ≤ c ∧ c ≤ 50 then 2 else 5)
  else if e = 2 then (if c = 111 then 3 else if c = 99 then 3 else if c = 119 then 3 else 5)
  else if e = 3 then (if 48 ≤ c ∧ c ≤ 57 then 4 else 5)
  else if e = 4 then (if c = 59 then 0 else 5)
  else 5
def af (cs : Nat → Nat) : Nat → Nat → Nat → Option Nat
  | 0, e, p => if e = 4 then none else some p
  | k + 1, e, p => if nx e (cs p) = 5 then some p else af cs k (nx e (cs p)) (p + 1)
def aR (o : Option Nat) : Int32 := match o with
  | none => -4
  | some f => nI f
theorem nx_le (e c : Nat) : nx e c ≤ 5 := by
  unfold nx
  split
  · split
    · omega
    · split
      · omega
      · split <;> omega
  · split
    · split <;> omega
    · split
      · split
        · omega
        · split
          · omega
          · split <;> omega
      · split
        · split <;> omega
        · split
          · split <;> omega
          · omega
theorem sub48 {c : Nat} (h : 48 ≤ c) : nI c - (48 : Int32) = nI (c - 48) := pk_sub (b := 48) h
theorem neg48 {c : Nat} (h : c < 48) : nI c - (48 : Int32) < 0 := pk_sneg (b := 48) (by decide) h
theorem g48 {c : Nat} {Q : Int32 → Prop} (hc : c < 127) (hQ : Q (if 48 ≤ c ∧ c ≤ 50 then 1 else 0)) : wp_X8_isGuest (nI c - (48 : Int32)) Q := by
  by_cases h : 48 ≤ c ∧ c ≤ 50
  · rw [if_pos h] at hQ
    rw [sub48 h.1]
    exact g8t (by omega) hQ
  · rw [if_neg h] at hQ
    by_cases h1 : 48 ≤ c
    · rw [sub48 h1]
      exact g8f (Or.inr (nI_le (by omega) (by omega))) hQ
    · exact g8f (Or.inl (neg48 (by omega))) hQ
theorem d48 {c : Nat} {Q : Int32 → Prop} (hc : c < 127) (hQ : Q (if 48 ≤ c ∧ c ≤ 57 then 1 else 0)) : wp_X8_isDoor (nI c - (48 : Int32)) Q := by
  by_cases h : 48 ≤ c ∧ c ≤ 57
  · rw [if_pos h] at hQ
    rw [sub48 h.1]
    exact d8t (by omega) hQ
  · rw [if_neg h] at hQ
    by_cases h1 : 48 ≤ c
    · rw [sub48 h1]
      exact d8f (Or.inr (nI_le (by omega) (by omega))) hQ
    · exact d8f (Or.inl (neg48 (by omega))) hQ
theorem q_c {c x : Nat} (hc : c < 127) (hx : x < 127) : (nI c = nI x) = (c = x) := q_eq (by omega) (by omega)
theorem s_ea {e c : Nat} {Q : Int32 → Prop} (he : e < 5) (hc : c < 127) (hQ : Q (nI (nx e c))) : wp_X4_expectedAfter (nI e) (nI c) Q := by
  unfold wp_X4_expectedAfter
  rw [show (nI c = (103 : Int32)) = (c = 103) from q_c hc (by decide), show (nI c = (111 : Int32)) = (c = 111) from q_c hc (by decide), show (nI c = (99 : Int32)) = (c = 99) from q_c hc (by decide), show (nI c = (119 : Int32)) = (c = 119) from q_c hc (by decide), show (nI c = (59 : Int32)) = (c = 59) from q_c hc (by decide)]
  have h5 : e = 0 ∨ e = 1 ∨ e = 2 ∨ e = 3 ∨ e = 4 := by omega
  rcases h5 with rfl | rfl | rfl | rfl | rfl
  · refine ⟨fun _ => ⟨fun z1 => ⟨fun z2 => ?_, fun z2 => ⟨fun z3 => ?_, fun z3 => ?_⟩⟩, fun z1 => ?_⟩, fun z => absurd z (by decide), fun z => absurd z (by decide), fun z => absurd z (by decide), fun z => absurd z (by decide), fun z => absurd rfl z⟩
    · have e1 : nx 0 c = 3 := by unfold nx; simp [z1, z2]
      rw [e1] at hQ; exact hQ
    · have e1 : nx 0 c = 5 := by unfold nx; simp [z1, z2, z3]
      rw [e1] at hQ; exact hQ
    · have e1 : nx 0 c = 3 := by unfold nx; simp [z3]
      rw [e1] at hQ; exact hQ
    · have e1 : nx 0 c = 1 := by unfold nx; simp [z1]
      rw [e1] at hQ; exact hQ
  · refine ⟨fun z => absurd z (by decide), fun _ => g48 hc ?_, fun z => absurd z (by decide), fun z => absurd z (by decide), fun z => absurd z (by decide), fun _ z => absurd rfl z⟩
    by_cases h : 48 ≤ c ∧ c ≤ 50
    · rw [if_pos h]
      have e1 : nx 1 c = 2 := by unfold nx; simp [h]
      rw [e1] at hQ
      exact ⟨fun z => absurd z one0, fun _ => hQ⟩
    · rw [if_neg h]
      have e1 : nx 1 c = 5 := by unfold nx; simp [h]
      rw [e1] at hQ
      exact ⟨fun _ => hQ, fun z => absurd rfl z⟩
  · refine ⟨fun z => absurd z (by decide), fun z => absurd z (by decide), fun _ => ⟨fun z1 => ?_, fun z1 => ⟨fun z2 => ?_, fun z2 => ⟨fun z3 => ?_, fun z3 => ?_⟩⟩⟩, fun z => absurd z (by decide), fun z => absurd z (by decide), fun _ _ z => absurd rfl z⟩
    · have e1 : nx 2 c = 3 := by unfold nx; simp [z1]
      rw [e1] at hQ; exact hQ
    · have e1 : nx 2 c = 3 := by unfold nx; simp [z2]
      rw [e1] at hQ; exact hQ
    · have e1 : nx 2 c = 5 := by unfold nx; simp [z1, z2, z3]
      rw [e1] at hQ; exact hQ
    · have e1 : nx 2 c = 3 := by unfold nx; simp [z3]
      rw [e1] at hQ; exact hQ
  · refine ⟨fun z => absurd z (by decide), fun z => absurd z (by decide), fun z => absurd z (by decide), fun _ => d48 hc ?_, fun z => absurd z (by decide), fun _ _ _ z => absurd rfl z⟩
    by_cases h : 48 ≤ c ∧ c ≤ 57
    · rw [if_pos h]
      have e1 : nx 3 c = 4 := by unfold nx; simp [h]
      rw [e1] at hQ
      exact ⟨fun z => absurd z one0, fun _ => hQ⟩
    · rw [if_neg h]
      have e1 : nx 3 c = 5 := by unfold nx; simp [h]
      rw [e1] at hQ
      exact ⟨fun _ => hQ, fun z => absurd rfl z⟩
  · refine ⟨fun z => absurd z (by decide), fun z => absurd z (by decide), fun z => absurd z (by decide), fun z => absurd z (by decide), fun _ => ⟨fun z1 => ?_, fun z1 => ?_⟩, fun _ _ _ _ z => absurd rfl z⟩
    · have e1 : nx 4 c = 5 := by unfold nx; simp [z1]
      rw [e1] at hQ; exact hQ
    · have e1 : nx 4 c = 0 := by unfold nx; simp [z1]
      rw [e1] at hQ; exact hQ
def rPad (p : PadV) (cs : Nat → Nat) (m : Nat) : Prop := p.2 = nI m ∧ m ≤ 60 ∧ ∀ i, i < m → p.1 i = nI (cs i) ∧ cs i < 127
def caN (cs : Nat → Nat) (m i : Nat) : Nat := if i < m then cs i else 0
theorem s_codeAt {p : PadV} {cs : Nat → Nat} {m i : Nat} {Q : Int32 → Prop} (R : rPad p cs m) (hi : i < 1000) (hQ : Q (nI (caN cs m i))) : wp_X4_codeAt p (nI i) Q := by
  obtain ⟨h1, h2, h3⟩ := R
  unfold wp_X4_codeAt
  rw [h1, q_le (by omega) (by omega), q_in (by omega), nI_clamp (by omega)]
  unfold caN at hQ
  refine ⟨fun z => absurd z (nI_pos (by omega)), fun _ => ⟨fun z => ?_, fun z => ⟨by omega, ?_⟩⟩⟩
  · rw [if_neg (by omega)] at hQ; exact hQ
  · rw [if_pos (by omega)] at hQ
    rw [(h3 i (by omega)).1]; exact hQ
theorem s_fault {p : PadV} {cs : Nat → Nat} {m : Nat} {Q : Int32 → Prop} (R : rPad p cs m) (hQ : Q (aR (af cs m 0 0))) : wp_X4_faultPlace p Q := by
  obtain ⟨h1, h2, h3⟩ := id R
  have key : ∀ k e i, i + k = m → e < 5 → Q (aR (af cs k e i)) → wp_X4_faultPlace_L4 p Q (k + 1) (nI e) (nI i) := by
    intro k
    induction k with
    | zero =>
      intro e i hi he hq
      have hi : i = m := by omega
      subst hi
      show ((p.2 ≤ nI i) → _) ∧ _
      rw [h1]
      refine ⟨fun _ => ?_, fun z => absurd (ge_self _) z⟩
      rw [l4, q_eq (by omega) (by decide)]
      unfold af at hq
      refine ⟨fun z => ?_, fun z => ?_⟩
      · rw [if_neg z] at hq; exact hq
      · rw [if_pos z] at hq; exact hq
    | succ k ih =>
      intro e i hi he hq
      show ((p.2 ≤ nI i) → _) ∧ (¬ (p.2 ≤ nI i) → _)
      rw [h1]
      have him : i < m := by omega
      refine ⟨fun z => absurd z (ge_no him (by omega)), fun _ => s_codeAt R (by omega) ?_⟩
      have ec : caN cs m i = cs i := if_pos him
      rw [ec]
      have hn := nx_le e (cs i)
      refine s_ea he (h3 i him).2 ?_
      rw [l5, q_eq (by omega) (by decide)]
      unfold af at hq
      refine ⟨fun z => ?_, fun z => ?_⟩
      · rw [if_neg z] at hq
        rintro _ rfl
        rw [nI_s]
        exact ih _ (i + 1) (by omega) (by omega) hq
      · rw [if_pos z] at hq; exact hq
  exact ⟨m + 1, key m 0 0 (by omega) (by decide) hQ⟩
theorem af_stop {cs : Nat → Nat} {m e p : Nat} (hp : p < m) (h : nx e (cs p) = 5) : af cs (m - p) e p = some p := by
  rw [show m - p = (m - (p + 1)) + 1 by omega]
  unfold af
  rw [if_pos h]
theorem af_go {cs : Nat → Nat} {m e p : Nat} (e' : Nat) (hp : p < m) (h : nx e (cs p) = e') (h5 : e' ≠ 5) : af cs (m - p) e p = af cs (m - (p + 1)) e' (p + 1) := by
  rw [show m - p = (m - (p + 1)) + 1 by omega]
  conv => lhs; unfold af
  rw [h, if_neg h5]
theorem af_end {cs : Nat → Nat} {m e p : Nat} (hp : m ≤ p) (h : e ≠ 4) : af cs (m - p) e p = some p := by
  rw [show m - p = 0 by omega]
  unfold af
  rw [if_neg h]
/-- the reference with another spot, other things told -/
def setR (w : ModV) (s : Int32) (t : Nat → Int32) (n : Int32) : ModV := (w.1, w.2.1, w.2.2.1, w.2.2.2.1, w.2.2.2.2.1, w.2.2.2.2.2.1, w.2.2.2.2.2.2.1, w.2.2.2.2.2.2.2.1, w.2.2.2.2.2.2.2.2.1, w.2.2.2.2.2.2.2.2.2.1, w.2.2.2.2.2.2.2.2.2.2.1, s, t, n, w.2.2.2.2.2.2.2.2.2.2.2.2.2.2)
def zPd (w : ModV) (cs : Nat → Nat) (m : Nat) : Prop := w.2.2.2.2.2.2.2.1 = nI m ∧ m ≤ 60 ∧ ∀ i, i < m → w.2.2.2.2.2.2.1 i = nI (cs i) ∧ cs i < 127
def szB (cs : Nat → Nat) (m p lo hi : Nat) : Bool := decide (p < m) && (decide (lo ≤ cs p) && decide (cs p ≤ hi))
section PadZ
variable {w : ModV} {cs : Nat → Nat} {m : Nat}
theorem z_sees {p : Nat} {t : Nat → Int32} {n : Int32} (lo hi : Nat) {Q : Int32 → Prop} (R : zPd w cs m) (hp : p ≤ m) (hl : lo < 127) (hh : hi < 127) (hQ : Q (if szB cs m p lo hi then 1 else 0)) : wp_X9_sees (setR w (nI p) t n) (nI lo) (nI hi) Q := by
  obtain ⟨h1, h2, h3⟩ := R
  show ((w.2.2.2.2.2.2.2.1 ≤ nI p) → Q 0) ∧ (¬ (w.2.2.2.2.2.2.2.1 ≤ nI p) → vp_in (nI p) 60 ∧ wp_X9_in (w.2.2.2.2.2.2.1 (nI p).toNatClampNeg) (nI lo) (nI hi) _)
  rw [h1, q_le (by omega) (by omega), q_in (by omega), nI_clamp (by omega)]
  unfold szB at hQ
  refine ⟨fun z => ?_, fun z => ⟨by omega, ?_⟩⟩
  · have : ¬ p < m := by omega
    simpa [this] using hQ
  · have hpm : p < m := by omega
    obtain ⟨h4, h5⟩ := h3 p hpm
    rw [h4]
    by_cases a : lo ≤ cs p
    · by_cases b : cs p ≤ hi
      · refine in9t a b (by omega) ⟨fun z => absurd z one0, fun _ => ?_⟩
        simpa [hpm, a, b] using hQ
      · refine in9f (Or.inr (nI_lt (by omega) (by omega))) ⟨fun _ => ?_, fun z => absurd rfl z⟩
        simpa [hpm, a, b] using hQ
    · refine in9f (Or.inl (nI_lt (by omega) (by omega))) ⟨fun _ => ?_, fun z => absurd rfl z⟩
      simpa [hpm, a] using hQ
theorem z_takes {p : Nat} {t : Nat → Int32} {n : Int32} (c : Nat) {Q : Int32 → ModV → Prop} (R : zPd w cs m) (hp : p ≤ m) (hc : c < 127) (h1 : szB cs m p c c = true → Q 1 (setR w (nI (p + 1)) t n)) (h0 : szB cs m p c c = false → Q 0 (setR w (nI p) t n)) : wp_X9_takes (setR w (nI p) t n) (nI c) Q := by
  refine z_sees c c R hp hc hc ?_
  cases hb : szB cs m p c c
  · refine ⟨fun _ => ?_, fun z => absurd rfl z⟩
    rintro _ rfl
    show Q 0 (setR w (nI p + 0) t n)
    rw [add0]
    exact h0 hb
  · refine ⟨fun z => absurd z one0, fun _ => ?_⟩
    rintro _ rfl
    show Q 1 (setR w (nI p + 1) t n)
    rw [nI_s]
    exact h1 hb
theorem z_takesOne {p : Nat} {t : Nat → Int32} {n : Int32} (lo hi : Nat) {Q : Int32 → ModV → Prop} (R : zPd w cs m) (hp : p ≤ m) (hl : lo < 127) (hh : hi < 127) (h1 : szB cs m p lo hi = true → Q (nI (cs p)) (setR w (nI (p + 1)) t n)) (h0 : szB cs m p lo hi = false → Q (-4) (setR w (nI p) t n)) : wp_X9_takesOne (setR w (nI p) t n) (nI lo) (nI hi) Q := by
  refine z_sees lo hi R hp hl hh ?_
  cases hb : szB cs m p lo hi
  · exact ⟨fun z => absurd rfl z, fun _ => h0 hb⟩
  · refine ⟨fun _ => ?_, fun z => absurd z one0⟩
    have hpm : p < m := by
      unfold szB at hb
      rw [Bool.and_eq_true] at hb
      exact of_decide_eq_true hb.1
    rintro _ rfl
    show vp_in (nI p + 1 - 1) 60 ∧ Q (w.2.2.2.2.2.2.1 (nI p + 1 - 1).toNatClampNeg) (setR w (nI p + 1) t n)
    rw [nI_s, nI_pred, q_in (by have := R.2.1; omega), nI_clamp (by have := R.2.1; omega), (R.2.2 p hpm).1]
    exact ⟨by have := R.2.1; omega, h1 hb⟩
theorem sz_1 {p lo hi : Nat} (h : szB cs m p lo hi = true) : p < m ∧ lo ≤ cs p ∧ cs p ≤ hi := by
  unfold szB at h
  rw [Bool.and_eq_true, Bool.and_eq_true] at h
  exact ⟨of_decide_eq_true h.1, of_decide_eq_true h.2.1, of_decide_eq_true h.2.2⟩
theorem sz_0 {p lo hi : Nat} (h : szB cs m p lo hi = false) (hp : p < m) : ¬ (lo ≤ cs p ∧ cs p ≤ hi) := by
  rintro ⟨a, b⟩
  unfold szB at h
  simp [hp, a, b] at h
theorem z_B109 {q k : Nat} {t : Nat → Int32} {Q : Int32 → ModV → Prop} (R : zPd w cs m) (hq : q < m) (hk : k ≤ 20) (hF : ∀ f t' n', af cs (m - (q + 1)) 3 (q + 1) = some f → Q 0 (setR w (nI f) t' n')) (hS : ∀ t', q + 2 ≤ m → 48 ≤ cs (q + 1) → cs (q + 1) ≤ 57 → af cs (m - (q + 1)) 3 (q + 1) = af cs (m - (q + 2)) 4 (q + 2) → t' = upd (upd t (4 * k + 1) (nI (cs q))) (4 * k + 3) (nI (cs (q + 1) - 48)) → Q 1 (setR w (nI (q + 2)) t' (nI (k + 1)))) : wp_X9_readDeed_B109 (nI (4 * k)) 1 (setR w (nI q) t (nI k)) Q := by
  have hm := R.2.1
  refine ⟨fun _ => ?_, fun z => absurd z one0⟩
  show vp_in (nI q) 60 ∧ (vp_in (nI (4 * k) + 1) 124 ∧ ∀ g15 : Nat → Int32, g15 = upd t (nI (4 * k) + 1).toNatClampNeg (w.2.2.2.2.2.2.1 (nI q).toNatClampNeg) → ∀ z16 : Int32, z16 = nI q + 1 → _)
  rw [nI_s, nI_s, q_in (by omega), q_in (by omega), nI_clamp (by omega), nI_clamp (by omega), (R.2.2 q hq).1]
  refine ⟨by omega, by omega, ?_⟩
  rintro _ rfl _ rfl
  have e3 : nI (4 * k) + (3 : Int32) = nI (4 * k + 3) := nI_add _ 3

  refine z_takesOne (w := w) 48 57 R (by omega) (by decide) (by decide) (fun hb => ?_) (fun hb => ?_)
  · obtain ⟨b1, b2, b3⟩ := sz_1 hb
    rw [e3, q_in (by omega), nI_clamp (by omega)]
    refine ⟨by omega, ?_⟩
    rintro _ rfl _ rfl
    refine ⟨fun z => ?_, fun _ => ?_⟩
    · have hh : ∀ c, c < 127 → ¬ nI c = (-4 : Int32) := by decide
      exact absurd z (hh _ (by omega))
    · have e : nx 3 (cs (q + 1)) = 4 := by unfold nx; simp [b2, b3]
      have := hS (upd (upd t (4 * k + 1) (nI (cs q))) (4 * k + 3) (nI (cs (q + 1) - 48))) (by omega) b2 b3 (af_go 4 b1 e (by decide)) rfl
      rw [← sub48 b2, ← nI_s k] at this
      exact this
  · rw [e3, q_in (by omega), nI_clamp (by omega)]
    refine ⟨by omega, ?_⟩
    rintro _ rfl _ rfl
    refine ⟨fun _ => hF (q + 1) _ _ ?_, fun z => absurd rfl z⟩
    by_cases h1 : q + 1 < m
    · refine af_stop h1 ?_
      unfold nx
      simp [sz_0 hb h1]
    · exact af_end (by omega) (by decide)
theorem z_B67 {q k : Nat} {t : Nat → Int32} {gb : Bool} {Q : Int32 → ModV → Prop} (R : zPd w cs m) (hq : q ≤ m) (hk : k ≤ 20) (hg : gb = false → q < m → cs q ≠ 103) (hF : ∀ f t' n', af cs (m - q) (if gb then 2 else 0) q = some f → Q 0 (setR w (nI f) t' n')) (hS : ∀ t', q + 2 ≤ m → (cs q = 111 ∨ cs q = 99 ∨ (gb = true ∧ cs q = 119)) → 48 ≤ cs (q + 1) → cs (q + 1) ≤ 57 → af cs (m - q) (if gb then 2 else 0) q = af cs (m - (q + 2)) 4 (q + 2) → t' = upd (upd t (4 * k + 1) (nI (cs q))) (4 * k + 3) (nI (cs (q + 1) - 48)) → Q 1 (setR w (nI (q + 2)) t' (nI (k + 1)))) : wp_X9_readDeed_B67 (nI (4 * k)) (if gb then 1 else 0) (setR w (nI q) t (nI k)) Q := by
  have good : q < m → (cs q = 111 ∨ cs q = 99 ∨ (gb = true ∧ cs q = 119)) → wp_X9_readDeed_B104 (nI (4 * k)) (setR w (nI q) t (nI k)) Q := by
    intro hq2 hc
    have e : nx (if gb then 2 else 0) (cs q) = 3 := by
      cases gb
      · rcases hc with h | h | h
        · unfold nx; simp [h]
        · unfold nx; simp [h]
        · exact absurd h.1 (by decide)
      · rcases hc with h | h | h
        · unfold nx; simp [h]
        · unfold nx; simp [h]
        · unfold nx; simp [h.2]
    have eg := af_go (cs := cs) (m := m) 3 hq2 e (by decide)
    exact z_B109 R hq2 hk (fun f t' n' h => hF f t' n' (eg.trans h)) (fun t' a b c d e => hS t' a hc b c (eg.trans d) e)
  have bad : (q < m → ¬ (cs q = 111 ∨ cs q = 99 ∨ (gb = true ∧ cs q = 119))) → wp_X9_readDeed_B108 (nI (4 * k)) (setR w (nI q) t (nI k)) Q := by
    intro hc
    refine ⟨fun z => absurd rfl z, fun _ => hF q _ _ ?_⟩
    by_cases hq2 : q < m
    · refine af_stop hq2 ?_
      have h := hc hq2
      cases gb
      · have h103 := hg rfl hq2
        have h1 : ¬ cs q = 111 := fun z => h (Or.inl z)
        have h2 : ¬ cs q = 99 := fun z => h (Or.inr (Or.inl z))
        unfold nx; simp [h1, h2, h103]
      · have h1 : ¬ cs q = 111 := fun z => h (Or.inl z)
        have h2 : ¬ cs q = 99 := fun z => h (Or.inr (Or.inl z))
        have h3 : ¬ cs q = 119 := fun z => h (Or.inr (Or.inr ⟨rfl, z⟩))
        unfold nx; simp [h1, h2, h3]
    · exact af_end (by omega) (by cases gb <;> decide)
  refine z_sees 111 111 R hq (by decide) (by decide) ?_
  cases h1 : szB cs m q 111 111
  · refine ⟨fun z => absurd rfl z, fun _ => z_sees 99 99 R hq (by decide) (by decide) ?_⟩
    cases h2 : szB cs m q 99 99
    · refine ⟨fun z => absurd rfl z, fun _ => ?_⟩
      cases gb
      · refine ⟨fun _ => bad (fun hq2 h => ?_), fun z => absurd rfl z⟩
        have a1 := sz_0 h1 hq2
        have a2 := sz_0 h2 hq2
        rcases h with h | h | h
        · omega
        · omega
        · exact absurd h.1 (by decide)
      · refine ⟨fun z => absurd z one0, fun _ => z_sees 119 119 R hq (by decide) (by decide) ?_⟩
        cases h3 : szB cs m q 119 119
        · refine ⟨fun _ => bad (fun hq2 h => ?_), fun z => absurd rfl z⟩
          have a1 := sz_0 h1 hq2
          have a2 := sz_0 h2 hq2
          have a3 := sz_0 h3 hq2
          omega
        · obtain ⟨b1, b2, b3⟩ := sz_1 h3
          exact ⟨fun z => absurd z one0, fun _ => good b1 (Or.inr (Or.inr ⟨rfl, by omega⟩))⟩
    · obtain ⟨b1, b2, b3⟩ := sz_1 h2
      exact ⟨fun _ => good b1 (Or.inr (Or.inl (by omega))), fun z => absurd z one0⟩
  · obtain ⟨b1, b2, b3⟩ := sz_1 h1
    exact ⟨fun _ => good b1 (Or.inl (by omega)), fun z => absurd z one0⟩
end PadZ
