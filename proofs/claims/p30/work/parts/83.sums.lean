/-! PURE: sums, and accounts that add up -/
def sumN (f : Nat → Nat) : Nat → Nat
  | 0 => 0
  | k + 1 => sumN f k + f k
theorem sumN_add (f g : Nat → Nat) : ∀ k, sumN (fun i => f i + g i) k = sumN f k + sumN g k
  | 0 => rfl
  | k + 1 => by
    have := sumN_add f g k
    simp only [sumN] at *
    omega
theorem sumN_ext {f g : Nat → Nat} : ∀ k, (∀ i, i < k → f i = g i) → sumN f k = sumN g k
  | 0, _ => rfl
  | k + 1, h => by
    have := sumN_ext k (fun i hi => h i (by omega))
    simp only [sumN]
    rw [this, h k (by omega)]
theorem sumN_0 : ∀ k, sumN (fun _ => 0) k = 0
  | 0 => rfl
  | k + 1 => by simp only [sumN]; rw [sumN_0 k]
theorem sumN_le {f g : Nat → Nat} : ∀ k, (∀ i, i < k → f i ≤ g i) → sumN f k ≤ sumN g k
  | 0, _ => Nat.le_refl _
  | k + 1, h => by
    have := sumN_le k (fun i hi => h i (by omega))
    have := h k (by omega)
    simp only [sumN]
    omega
theorem sumN_swap (f : Nat → Nat → Nat) (m : Nat) : ∀ k, sumN (fun i => sumN (f i) m) k = sumN (fun j => sumN (fun i => f i j) k) m
  | 0 => by simp only [sumN]; rw [sumN_0]
  | k + 1 => by
    have h := sumN_swap f m k
    simp only [sumN]
    rw [h, ← sumN_add]
def bN (b : Bool) : Nat := if b then 1 else 0
theorem pcF_sum (n : Nat) : ∀ k, pcF n k = sumN (fun i => bN (n.testBit i)) k
  | 0 => rfl
  | k + 1 => by
    unfold pcF
    simp only [sumN]
    rw [pcF_sum n k]
    rfl
theorem ctF_sum (L : LoS) (t n : Nat) : ∀ i, ctF L t n i = sumN (fun j => bN (n.testBit j && (tg L j).testBit t)) i
  | 0 => rfl
  | i + 1 => by
    unfold ctF
    simp only [sumN]
    rw [← ctF_sum L t n i]
    unfold bN
    split <;> rfl
theorem coF_sum (L : LoS) (n : Nat) : ∀ i, coF L n i = sumN (fun j => sumN (fun t => bN (n.testBit j && (tg L j).testBit t)) 10) i
  | 0 => rfl
  | i + 1 => by
    unfold coF
    simp only [sumN]
    have h := coF_sum L n i
    have e : (fun t => bN (n.testBit i && (tg L i).testBit t)) = if n.testBit i then (fun t => bN ((tg L i).testBit t)) else (fun _ => 0) := by
      cases n.testBit i <;> rfl
    cases hb : n.testBit i
    · rw [if_neg (by simp)]
      simp only [sumN] at h
      rw [h]
      simp [bN]
    · rw [if_pos rfl]
      simp only [sumN] at h
      rw [h]
      simp only [Bool.true_and]
      have := pcF_sum (tg L i) 10
      unfold pc
      rw [this]
      simp only [sumN]
theorem ct_sum (L : LoS) (n : Nat) : sumN (fun t => ctF L t n 10) 10 = coF L n 10 := by
  rw [coF_sum, sumN_swap]
  exact sumN_ext 10 (fun t _ => ctF_sum L t n 10)
def sumI (f : Nat → Int32) : Nat → Int32
  | 0 => 0
  | k + 1 => sumI f k + f k
theorem i_rot (a b : Int32) : a + 1 + b = a + b + 1 := by rw [Int32.add_assoc, Int32.add_comm 1 b, ← Int32.add_assoc]
theorem sumI_upd (f : Nat → Int32) (d : Nat) : ∀ k, sumI (upd f d (f d + 1)) k = if d < k then sumI f k + 1 else sumI f k
  | 0 => by simp [sumI]
  | k + 1 => by
    have h := sumI_upd f d k
    unfold sumI
    rw [h]
    by_cases hk : d < k
    · rw [if_pos hk, if_pos (by omega), updO (by omega), i_rot]
    · rw [if_neg hk]
      by_cases hd : d = k
      · subst hd
        rw [if_pos (by omega), updS, ← Int32.add_assoc]
      · rw [if_neg (by omega), updO (by omega)]
theorem sumI_scut (f : Nat → Int32) (z : Nat) : ∀ k, sumI (fun e => if z.testBit e then f e + 1 else f e) k = sumI f k + nI (pcF z k)
  | 0 => by
    show (0 : Int32) = 0 + nI 0
    rfl
  | k + 1 => by
    have h := sumI_scut f z k
    unfold sumI pcF
    rw [h]
    cases z.testBit k
    · simp only [Bool.false_eq_true, if_false, Nat.add_zero]
      rw [Int32.add_assoc, Int32.add_comm (nI _) (f k), ← Int32.add_assoc]
    · simp only [if_true]
      rw [← nI_s, ← Int32.add_assoc, ← Int32.add_assoc, Int32.add_assoc (sumI f k) (nI _) (f k), Int32.add_comm (nI _) (f k), ← Int32.add_assoc]
def GI (σ : SS2) (n : Nat) : Prop :=
  (∀ d, d < 10 → σ.2.2.2.1 d = σ.2.2.2.2.1 d + (if σ.2.1.testBit d then 1 else 0)) ∧ sumI σ.2.2.2.1 10 = σ.2.2.2.2.2.1 ∧ sumI σ.2.2.2.2.1 10 = σ.2.2.2.2.2.2.1 + σ.2.2.2.2.2.2.2.1 + σ.2.2.2.2.2.2.2.2.1 ∧ ∀ g, g < 3 → ∃ w, w ≤ n ∧ σ.2.2.1.2.2 g = nI w
theorem GI_mono {σ : SS2} {n m : Nat} (G : GI σ n) (h : n ≤ m) : GI σ m := by
  refine ⟨G.1, G.2.1, G.2.2.1, fun g hg => ?_⟩
  obtain ⟨w, h1, h2⟩ := G.2.2.2 g hg
  exact ⟨w, by omega, h2⟩
theorem i_split (x y z p q : Int32) : x + y + z + (p + q) = x + (y + p) + (z + q) := by
  rw [Int32.add_assoc (x + y) z (p + q), ← Int32.add_assoc z p q, Int32.add_comm z p, Int32.add_assoc p z q, ← Int32.add_assoc (x + y) p (z + q), Int32.add_assoc x y p]
theorem GI_op {σ : SS2} {n d : Nat} (G : GI σ n) (hok : okS σ) (hd : d < 10) (hr : rsn σ.1 σ.2.1 d = 0) : GI (opS σ d) n := by
  have hnd : σ.2.1.testBit d = false := by
    unfold rsn at hr
    cases hb : σ.2.1.testBit d with
    | false => rfl
    | true => rw [hb, if_pos rfl] at hr; exact absurd hr (by decide)
  have htd : (tg σ.1 d).testBit d = false := by
    have hk := hok.1.1 d hd
    rw [tg_bit]
    have y1 : (σ.1.1 d == d) = false := by simpa using hk.2.2.1
    have y2 : (σ.1.2.1 d == d) = false := by simpa using hk.2.2.2.1
    rw [y1, y2]; rfl
  have hsub : ∀ e, (afterO σ.1 σ.2.1 d).testBit e = true → (afterC σ.1 σ.2.1 d).testBit e = true := fun e h => drF_sub σ.1 d _ 6 e h
  have hz : ∀ e, (dif σ.2.1 (afterC σ.1 σ.2.1 d) ||| dif (afterC σ.1 σ.2.1 d) (afterO σ.1 σ.2.1 d)).testBit e = ((σ.2.1.testBit e && !(afterC σ.1 σ.2.1 d).testBit e) || ((afterC σ.1 σ.2.1 d).testBit e && !(afterO σ.1 σ.2.1 d).testBit e)) := fun e => by
    rw [Nat.testBit_or, dif_bit, dif_bit]
  refine ⟨fun e he => ?_, ?_, ?_, G.2.2.2⟩
  · show upd σ.2.2.2.1 d (σ.2.2.2.1 d + 1) e = (if (dif σ.2.1 (afterC σ.1 σ.2.1 d) ||| dif (afterC σ.1 σ.2.1 d) (afterO σ.1 σ.2.1 d)).testBit e then σ.2.2.2.2.1 e + 1 else σ.2.2.2.2.1 e) + (if (afterO σ.1 σ.2.1 d).testBit e then 1 else 0)
    have h1 := G.1 e he
    rw [hz]
    by_cases hed : e = d
    · subst hed
      have hC : (afterC σ.1 σ.2.1 e).testBit e = true := by
        rw [afterC_bit, htd]; simp
      rw [updS, h1, hnd, hC]
      cases (afterO σ.1 σ.2.1 e).testBit e <;> simp
    · have hC : (afterC σ.1 σ.2.1 d).testBit e = (σ.2.1.testBit e && !(tg σ.1 d).testBit e) := by
        rw [afterC_bit]
        have : decide (d = e) = false := by simp; exact fun z => hed z.symm
        rw [this, Bool.or_false]
      rw [updO hed, h1]
      have hs := hsub e
      cases hn : σ.2.1.testBit e <;> cases hc : (afterC σ.1 σ.2.1 d).testBit e <;> cases ho : (afterO σ.1 σ.2.1 d).testBit e <;> rw [hn, hc] at hC <;> rw [hc, ho] at hs <;> first | (simp; done) | (exact absurd (hs rfl) (by decide)) | (simp at hC)
  · show sumI (upd σ.2.2.2.1 d (σ.2.2.2.1 d + 1)) 10 = σ.2.2.2.2.2.1 + 1
    rw [sumI_upd, if_pos hd, G.2.1]
  · show sumI (fun e => if (dif σ.2.1 (afterC σ.1 σ.2.1 d) ||| dif (afterC σ.1 σ.2.1 d) (afterO σ.1 σ.2.1 d)).testBit e then σ.2.2.2.2.1 e + 1 else σ.2.2.2.2.1 e) 10 = σ.2.2.2.2.2.2.1 + (σ.2.2.2.2.2.2.2.1 + nI (pc (dif σ.2.1 (afterC σ.1 σ.2.1 d)))) + (σ.2.2.2.2.2.2.2.2.1 + nI (pc (dif (afterC σ.1 σ.2.1 d) (afterO σ.1 σ.2.1 d))))
    rw [sumI_scut, G.2.2.1]
    have hp : pcF (dif σ.2.1 (afterC σ.1 σ.2.1 d) ||| dif (afterC σ.1 σ.2.1 d) (afterO σ.1 σ.2.1 d)) 10 = pc (dif σ.2.1 (afterC σ.1 σ.2.1 d)) + pc (dif (afterC σ.1 σ.2.1 d) (afterO σ.1 σ.2.1 d)) := by
      refine pc_or (fun i => ?_)
      rw [dif_bit, dif_bit]
      cases (afterC σ.1 σ.2.1 d).testBit i <;> simp
    rw [hp, ← nI_add, i_split]
theorem GI_sh {σ : SS2} {n d : Nat} (G : GI σ n) (hd : d < 10) (hb : σ.2.1.testBit d = true) : GI (shS σ d) n := by
  refine ⟨fun e he => ?_, G.2.1, ?_, G.2.2.2⟩
  · show σ.2.2.2.1 e = upd σ.2.2.2.2.1 d (σ.2.2.2.2.1 d + 1) e + (if (dif σ.2.1 (2 ^ d)).testBit e then 1 else 0)
    have h1 := G.1 e he
    rw [dif_bit, Nat.testBit_two_pow, h1]
    by_cases hed : e = d
    · subst hed
      rw [updS, hb]; simp
    · have : decide (d = e) = false := by simp; exact fun z => hed z.symm
      rw [updO hed, this]; simp
  · show sumI (upd σ.2.2.2.2.1 d (σ.2.2.2.2.1 d + 1)) 10 = (σ.2.2.2.2.2.2.1 + 1) + σ.2.2.2.2.2.2.2.1 + σ.2.2.2.2.2.2.2.2.1
    rw [sumI_upd, if_pos hd, G.2.2.1, i_rot, i_rot]
theorem GI_re {σ : SS2} {n : Nat} (G : GI σ n) : GI (reS σ) n := G
theorem GI_oU {σ : SS2} {n d r : Nat} (G : GI σ n) (hok : okS σ) (hd : d < 10) (hr : r = 0 → rsn σ.1 σ.2.1 d = 0) : GI (oU σ r d) n := by
  unfold oU
  split
  · rename_i h; exact GI_op G hok hd (hr h)
  · exact GI_re G
theorem GI_sU {σ : SS2} {n d r : Nat} (G : GI σ n) (hd : d < 10) (hr : r = 0 → σ.2.1.testBit d = true) : GI (sU σ r d) n := by
  unfold sU
  split
  · rename_i h; exact GI_sh G hd (hr h)
  · exact GI_re G
theorem GI_wU {σ : SS2} {n d g : Nat} (G : GI σ n) (hg : g < 3) : GI (wU σ g d) (n + 1) := by
  unfold wU
  split
  · refine ⟨G.1, G.2.1, G.2.2.1, fun i hi => ?_⟩
    show ∃ w, w ≤ n + 1 ∧ upd σ.2.2.1.2.2 g (σ.2.2.1.2.2 g + 1) i = nI w
    by_cases hig : i = g
    · subst hig
      obtain ⟨w, h1, h2⟩ := G.2.2.2 i hi
      exact ⟨w + 1, by omega, by rw [updS, h2, nI_s]⟩
    · obtain ⟨w, h1, h2⟩ := G.2.2.2 i hi
      exact ⟨w, by omega, by rw [updO hig, h2]⟩
  · exact GI_mono (GI_re G) (by omega)
theorem GI_lc {σ : SS2} {n d o : Nat} {b : Bool} (G : GI σ n) : GI (lcS σ d b o) n := by
  unfold lcS
  split
  · exact GI_re G
  · exact G
theorem GI_jo {σ : SS2} {n d o1 o2 : Nat} (G : GI σ n) : GI (joS σ d o1 o2) n := G
theorem GI_ke {σ : SS2} {n g m : Nat} (G : GI σ n) : GI (keS σ g m) n := G
theorem GI_da {σ : SS2} {n m : Nat} (G : GI σ n) : GI (daS σ m) n := G
theorem GI_0 : GI S0 0 := by
  refine ⟨fun d hd => ?_, rfl, rfl, fun g hg => ⟨0, Nat.le_refl _, rfl⟩⟩
  show (0 : Int32) = 0 + (if (0 : Nat).testBit d then 1 else 0)
  rw [Nat.zero_testBit]
  rfl
