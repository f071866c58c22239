/-! PURE: ways of a guest: spots, deeds from spot to spot, walks; looking at spots by rising numbers -/
abbrev Sp : Type := Nat × Nat
def okP (L : LoS) (s : Sp) : Prop := s.1 < 1024 ∧ s.2 < 6 ∧ indep L s.1
def EdD (L : LoS) (ks d : Nat) (s t : Sp) : Prop := jn L d s.2 = true ∧ ((s.1.testBit d = true ∧ (t = (s.1, acr L d s.2) ∨ t = (dif s.1 (2 ^ d), s.2))) ∨ (s.1.testBit d = false ∧ ks.testBit d = true ∧ (held L s.1).testBit d = false ∧ t = (afterO L s.1 d, s.2)))
def Ed (L : LoS) (ks : Nat) (s t : Sp) : Prop := ∃ d, d < 10 ∧ EdD L ks d s t
theorem EdD_ok {L : LoS} {ks d : Nat} {s t : Sp} (hL : okL L) (hd : d < 10) (hs : okP L s) (h : EdD L ks d s t) : okP L t := by
  obtain ⟨h1, h2, h3⟩ := hs
  obtain ⟨hj, h | h⟩ := h
  · obtain ⟨hb, rfl | rfl⟩ := h
    · exact ⟨h1, acr_lt hL hd _, h3⟩
    · refine ⟨dif_lt (k := 10) h1, h2, indep_sub h3 (fun i hi => ?_)⟩
      rw [dif_bit, Bool.and_eq_true] at hi
      exact hi.1
  · obtain ⟨hb, hk, hh, rfl⟩ := h
    refine ⟨afterO_lt L h1 hd, h2, afterO_indep h3 hd ?_⟩
    unfold rsn
    rw [hb, hh]; rfl
theorem Ed_ok {L : LoS} {ks : Nat} {s t : Sp} (hL : okL L) (hs : okP L s) (h : Ed L ks s t) : okP L t := by
  obtain ⟨d, hd, h⟩ := h
  exact EdD_ok hL hd hs h
def rk (L : LoS) (ks : Nat) (st : Sp) : Nat → Sp → Prop
  | 0, s => s = st
  | k + 1, s => ∃ t, rk L ks st k t ∧ Ed L ks t s
def wk (L : LoS) (ks goal : Nat) : Nat → Sp → Prop
  | 0, s => s.2 = goal
  | k + 1, s => ∃ t, Ed L ks s t ∧ wk L ks goal k t
theorem rk_wk {L : LoS} {ks goal : Nat} {st : Sp} : ∀ j k t, rk L ks st j t → wk L ks goal k t → wk L ks goal (j + k) st
  | 0, k, t, h1, h2 => by
    have h1 : t = st := h1
    rw [Nat.zero_add, ← h1]; exact h2
  | j + 1, k, t, h1, h2 => by
    obtain ⟨u, h3, h4⟩ := h1
    have := rk_wk (goal := goal) j (k + 1) u h3 ⟨t, h4, h2⟩
    rw [show j + 1 + k = j + (k + 1) by omega]
    exact this
theorem wk_rk {L : LoS} {ks goal : Nat} {st : Sp} : ∀ k j t, rk L ks st j t → wk L ks goal k t → ∃ s, rk L ks st (j + k) s ∧ s.2 = goal
  | 0, j, t, h1, h2 => ⟨t, h1, h2⟩
  | k + 1, j, t, h1, h2 => by
    obtain ⟨u, h3, h4⟩ := h2
    obtain ⟨s, h5, h6⟩ := wk_rk k (j + 1) u ⟨t, h1, h3⟩ h4
    exact ⟨s, by rw [show j + (k + 1) = j + 1 + k by omega]; exact h5, h6⟩
def cntF (f : Nat → Bool) : Nat → Nat
  | 0 => 0
  | k + 1 => cntF f k + (if f k then 1 else 0)
theorem cnt_le (f : Nat → Bool) : ∀ k, cntF f k ≤ k
  | 0 => Nat.le_refl 0
  | k + 1 => by have := cnt_le f k; unfold cntF; split <;> omega
theorem cnt_same {f g : Nat → Bool} : ∀ k, (∀ x, x < k → f x = g x) → cntF f k = cntF g k
  | 0, _ => rfl
  | k + 1, h => by unfold cntF; rw [cnt_same k (fun x hx => h x (by omega)), h k (by omega)]
theorem cnt_more {f g : Nat → Bool} {x : Nat} (hf : f x = false) (hg : g x = true) (h : ∀ y, y ≠ x → g y = f y) : ∀ k, x < k → cntF g k = cntF f k + 1
  | 0, hx => absurd hx (Nat.not_lt_zero x)
  | k + 1, hx => by
    unfold cntF
    by_cases hk : x = k
    · subst hk
      rw [hf, hg, cnt_same x (fun y hy => h y (by omega))]
      simp
    · rw [cnt_more hf hg h k (by omega), h k (fun z => hk z.symm)]
      omega
theorem cnt_0 {f : Nat → Bool} : ∀ k, (∀ x, x < k → f x = false) → cntF f k = 0
  | 0, _ => rfl
  | k + 1, h => by unfold cntF; rw [cnt_0 k (fun x hx => h x (by omega)), h k (by omega)]; rfl
def knF (few : Nat → Int32) (unk : Int32) : Nat → Bool := fun x => decide (few x ≠ unk)
def EN (L : LoS) (en : Sp → Nat) : Prop := (∀ s, okP L s → en s < 6144) ∧ ∀ s t, okP L s → okP L t → en s = en t → s = t
def BF (L : LoS) (ks : Nat) (st : Sp) (en : Sp → Nat) (unk : Int32) (few line : Nat → Int32) (c i : Nat) (q : Nat → Sp) (dd : Nat → Nat) : Prop :=
  c = cntF (knF few unk) 6144 ∧ (∀ j, j < c → okP L (q j) ∧ line j = nI (en (q j)) ∧ few (en (q j)) = nI (dd j) ∧ dd j ≤ j ∧ rk L ks st (dd j) (q j)) ∧ (∀ s, okP L s → few (en s) ≠ unk → ∃ j, j < c ∧ q j = s) ∧ (∀ j j', j ≤ j' → j' < c → dd j ≤ dd j') ∧ (i < c → ∀ j, j < c → dd j ≤ dd i + 1) ∧ (∀ j, j < i → ∀ t, Ed L ks (q j) t → ∃ j', j' < c ∧ q j' = t ∧ dd j' ≤ dd j + 1) ∧ i ≤ c ∧ 0 < c ∧ q 0 = st
def BG (L : LoS) (ks goal : Nat) (st : Sp) (en : Sp → Nat) (unk : Int32) (i : Nat) (si : Sp) (di : Nat) (few line : Nat → Int32) (c : Nat) (Done : Sp → Prop) : Prop :=
  ∃ q dd, BF L ks st en unk few line c i q dd ∧ i < c ∧ q i = si ∧ dd i = di ∧ (∀ t, Done t → ∃ j, j < c ∧ q j = t ∧ dd j ≤ di + 1) ∧ ∀ j, j < i → (q j).2 ≠ goal
def BQ (L : LoS) (ks goal : Nat) (st : Sp) (en : Sp → Nat) (unk : Int32) (i : Nat) (few line : Nat → Int32) (c : Nat) : Prop :=
  ∃ q dd, BF L ks st en unk few line c i q dd ∧ ∀ j, j < i → (q j).2 ≠ goal
section Bfs
variable {L : LoS} {ks goal : Nat} {st : Sp} {en : Sp → Nat} {unk : Int32} {i : Nat} {si : Sp} {di : Nat} {few line : Nat → Int32} {c : Nat} {Done : Sp → Prop}
theorem bg_fewi (B : BG L ks goal st en unk i si di few line c Done) : few (en si) = nI di ∧ okP L si ∧ di ≤ i ∧ c ≤ 6144 ∧ i < c := by
  obtain ⟨q, dd, ⟨b1, b2, -⟩, hic, rfl, rfl, -⟩ := B
  obtain ⟨a1, a2, a3, a4, a5⟩ := b2 i hic
  refine ⟨a3, a1, a4, ?_, hic⟩
  rw [b1]; exact cnt_le _ _
theorem bg_weak {Done' : Sp → Prop} (B : BG L ks goal st en unk i si di few line c Done) (h : ∀ t, Done' t → Done t) : BG L ks goal st en unk i si di few line c Done' := by
  obtain ⟨q, dd, b, hic, h1, h2, h3, h4⟩ := B
  exact ⟨q, dd, b, hic, h1, h2, fun t ht => h3 t (h t ht), h4⟩
theorem bg_known {s : Sp} (B : BG L ks goal st en unk i si di few line c Done) (hs : okP L s) (hk : few (en s) ≠ unk) : BG L ks goal st en unk i si di few line c (fun t => Done t ∨ t = s) := by
  obtain ⟨q, dd, b, hic, h1, h2, h3, h4⟩ := B
  refine ⟨q, dd, b, hic, h1, h2, fun t ht => ?_, h4⟩
  rcases ht with ht | rfl
  · exact h3 t ht
  · obtain ⟨j, hj, hq⟩ := b.2.2.1 _ hs hk
    refine ⟨j, hj, hq, ?_⟩
    rw [← h2]
    exact b.2.2.2.2.1 hic j hj
theorem bg_new {s : Sp} (hE : EN L en) (hU : ∀ k, k ≤ 6143 → nI k ≠ unk) (B : BG L ks goal st en unk i si di few line c Done) (hs : okP L s) (he : Ed L ks si s) (hk : few (en s) = unk) : c < 6144 ∧ BG L ks goal st en unk i si di (upd few (en s) (nI (di + 1))) (upd line c (nI (en s))) (c + 1) (fun t => Done t ∨ t = s) := by
  obtain ⟨q, dd, ⟨b1, b2, b3, b4, b5, b6, b7, b8, b9⟩, hic, h1, h2, h3, h4⟩ := B
  have hen := hE.1 s hs
  have kF : knF few unk (en s) = false := by unfold knF; simp [hk]
  have hdi : di ≤ i := by rw [← h2]; exact (b2 i hic).2.2.2.1
  have cle : c ≤ 6144 := by rw [b1]; exact cnt_le _ _
  have clt : c < 6144 := by
    have h : cntF (fun x => if x = en s then true else knF few unk x) 6144 = cntF (knF few unk) 6144 + 1 := cnt_more kF (by simp) (fun y hy => by simp [hy]) 6144 hen
    have := cnt_le (fun x => if x = en s then true else knF few unk x) 6144
    omega
  have hne : ∀ j, j < c → en (q j) ≠ en s := by
    intro j hj z
    have a := (b2 j hj).2.2.1
    rw [z, hk] at a
    have := (b2 j hj).2.2.2.1
    exact hU (dd j) (by omega) a.symm
  have hnj : ∀ j, j < c → ¬ j = c := fun j hj z => by omega
  refine ⟨clt, fun j => if j = c then s else q j, fun j => if j = c then di + 1 else dd j, ⟨?_, ?_, ?_, ?_, ?_, ?_, by omega, by omega, ?_⟩, by omega, ?_, ?_, ?_, ?_⟩
  · rw [b1]
    refine (cnt_more kF ?_ (fun y hy => ?_) 6144 hen).symm
    · unfold knF
      rw [updS]
      have := hU (di + 1) (by omega)
      simp [this]
    · unfold knF
      rw [updO hy]
  · intro j hj
    by_cases hjc : j = c
    · simp only [if_pos hjc]
      subst hjc
      refine ⟨hs, updS, updS, by omega, si, ?_, he⟩
      rw [← h1, ← h2]
      exact (b2 i hic).2.2.2.2
    · simp only [if_neg hjc]
      obtain ⟨a1, a2, a3, a4, a5⟩ := b2 j (by omega)
      refine ⟨a1, ?_, ?_, a4, a5⟩
      · rw [updO hjc]; exact a2
      · rw [updO (hne j (by omega))]; exact a3
  · intro t ht hf
    by_cases hts : en t = en s
    · refine ⟨c, by omega, ?_⟩
      simp only [if_true]
      exact (hE.2 t s ht hs hts).symm
    · rw [updO hts] at hf
      obtain ⟨j, hj, hq⟩ := b3 t ht hf
      refine ⟨j, by omega, ?_⟩
      simp only [if_neg (hnj j hj)]
      exact hq
  · intro j j' hjj hj'
    by_cases hc' : j' = c
    · simp only [if_pos hc']
      by_cases hc : j = c
      · simp only [if_pos hc]; omega
      · simp only [if_neg hc]
        have := b5 hic j (by omega)
        rw [h2] at this
        exact this
    · have hc : ¬ j = c := by omega
      simp only [if_neg hc', if_neg hc]
      exact b4 j j' hjj (by omega)
  · intro _ j hj
    simp only [if_neg (hnj i hic)]
    by_cases hc : j = c
    · simp only [if_pos hc]; omega
    · simp only [if_neg hc]
      exact b5 hic j (by omega)
  · intro j hj t ht
    have hc : ¬ j = c := by omega
    simp only [if_neg hc] at ht ⊢
    obtain ⟨j', a1, a2, a3⟩ := b6 j hj t ht
    refine ⟨j', by omega, ?_, ?_⟩
    · simp only [if_neg (hnj j' a1)]; exact a2
    · simp only [if_neg (hnj j' a1)]; exact a3
  · have : ¬ 0 = c := by omega
    simp only [if_neg this]
    exact b9
  · simp only [if_neg (hnj i hic)]; exact h1
  · simp only [if_neg (hnj i hic)]; exact h2
  · intro t ht
    rcases ht with ht | rfl
    · obtain ⟨j, a1, a2, a3⟩ := h3 t ht
      refine ⟨j, by omega, ?_, ?_⟩
      · simp only [if_neg (hnj j a1)]; exact a2
      · simp only [if_neg (hnj j a1)]; exact a3
    · refine ⟨c, by omega, ?_, ?_⟩
      · simp only [if_true]
      · simp only [if_true]; omega
  · intro j hj
    have hc : ¬ j = c := by omega
    simp only [if_neg hc]
    exact h4 j hj
theorem bg_next (B : BG L ks goal st en unk i si di few line c Done) (h : ∀ t, Ed L ks si t → Done t) (hg : si.2 ≠ goal) : BQ L ks goal st en unk (i + 1) few line c := by
  obtain ⟨q, dd, ⟨b1, b2, b3, b4, b5, b6, b7, b8, b9⟩, hic, h1, h2, h3, h4⟩ := B
  refine ⟨q, dd, ⟨b1, b2, b3, b4, fun hi j hj => ?_, fun j hj t ht => ?_, by omega, b8, b9⟩, fun j hj => ?_⟩
  · have a := b5 hic j hj
    have b := b4 i (i + 1) (by omega) hi
    omega
  · by_cases hji : j = i
    · subst hji
      rw [h1] at ht
      obtain ⟨j', a1, a2, a3⟩ := h3 t (h t ht)
      exact ⟨j', a1, a2, by rw [h2]; exact a3⟩
    · exact b6 j (by omega) t ht
  · by_cases hji : j = i
    · subst hji
      rw [h1]; exact hg
    · exact h4 j (by omega)
theorem bq_at (B : BQ L ks goal st en unk i few line c) (hi : i < c) : ∃ si di, line i = nI (en si) ∧ BG L ks goal st en unk i si di few line c (fun _ => False) := by
  obtain ⟨q, dd, b, h4⟩ := B
  exact ⟨q i, dd i, (b.2.1 i hi).2.1, q, dd, b, hi, rfl, rfl, fun t ht => ht.elim, h4⟩
theorem bf_claim {q : Nat → Sp} {dd : Nat → Nat} (b : BF L ks st en unk few line c i q dd) : ∀ k s, rk L ks st k s → (∃ j, j < c ∧ q j = s ∧ dd j ≤ k) ∨ (∃ j, i ≤ j ∧ j < c ∧ dd j < k) := by
  obtain ⟨b1, b2, b3, b4, b5, b6, b7, b8, b9⟩ := b
  intro k
  induction k with
  | zero =>
    intro s h
    have h : s = st := h
    refine Or.inl ⟨0, b8, by rw [b9, h], ?_⟩
    exact (b2 0 b8).2.2.2.1
  | succ k ih =>
    rintro s ⟨t, h1, h2⟩
    rcases ih t h1 with ⟨j, a1, a2, a3⟩ | ⟨j, a1, a2, a3⟩
    · by_cases hji : j < i
      · rw [← a2] at h2
        obtain ⟨j', c1, c2, c3⟩ := b6 j hji s h2
        exact Or.inl ⟨j', c1, c2, by omega⟩
      · exact Or.inr ⟨j, by omega, a1, by omega⟩
    · exact Or.inr ⟨j, a1, a2, by omega⟩
theorem bq_end (B : BQ L ks goal st en unk i few line c) (hc : c ≤ i) : ∀ k, ¬ wk L ks goal k st := by
  obtain ⟨q, dd, b, h4⟩ := B
  intro k h
  obtain ⟨s, h1, h2⟩ := wk_rk k 0 st rfl h
  rcases bf_claim b _ s h1 with ⟨j, a1, a2, a3⟩ | ⟨j, a1, a2, a3⟩
  · exact h4 j (by omega) (by rw [a2]; exact h2)
  · omega
theorem bg_found (B : BG L ks goal st en unk i si di few line c Done) (hg : si.2 = goal) : di < 6144 ∧ wk L ks goal di st ∧ ∀ k, k < di → ¬ wk L ks goal k st := by
  have hf := bg_fewi B
  obtain ⟨q, dd, b, hic, h1, h2, h3, h4⟩ := B
  refine ⟨by omega, ?_, fun k hk h => ?_⟩
  · have a := (b.2.1 i hic).2.2.2.2
    rw [h1, h2] at a
    exact rk_wk di 0 si a hg
  · obtain ⟨s, h5, h6⟩ := wk_rk k 0 st rfl h
    rw [Nat.zero_add] at h5
    rcases bf_claim b _ s h5 with ⟨j, a1, a2, a3⟩ | ⟨j, a1, a2, a3⟩
    · by_cases hji : j < i
      · exact h4 j hji (by rw [a2]; exact h6)
      · have := b.2.2.2.1 i j (by omega) a1
        omega
    · have := b.2.2.2.1 i j a1 a2
      omega
theorem bq_start (hE : EN L en) (hU : ∀ k, k ≤ 6143 → nI k ≠ unk) (hst : okP L st) (h : ∀ x, x < 6144 → few x = unk) : BQ L ks goal st en unk 0 (upd few (en st) (nI 0)) (upd line 0 (nI (en st))) 1 := by
  have hen := hE.1 st hst
  refine ⟨fun _ => st, fun _ => 0, ⟨?_, ?_, ?_, fun _ _ _ _ => Nat.le_refl _, fun _ _ _ => Nat.zero_le _, fun j hj => absurd hj (Nat.not_lt_zero j), by decide, by decide, rfl⟩, fun j hj => absurd hj (Nat.not_lt_zero j)⟩
  · have h0 : cntF (knF few unk) 6144 = 0 := cnt_0 6144 (fun x hx => by unfold knF; simp [h x hx])
    have h1 : cntF (knF (upd few (en st) (nI 0)) unk) 6144 = cntF (knF few unk) 6144 + 1 := by
      refine cnt_more ?_ ?_ (fun y hy => ?_) 6144 hen
      · unfold knF; simp [h _ hen]
      · unfold knF
        rw [updS]
        have := hU 0 (by decide)
        simp [this]
      · unfold knF
        rw [updO hy]
    rw [h1, h0]
  · intro j hj
    have hj0 : j = 0 := by omega
    subst hj0
    exact ⟨hst, updS, updS, Nat.le_refl _, rfl⟩
  · intro s hs hf
    refine ⟨0, by decide, ?_⟩
    by_cases hts : en s = en st
    · exact (hE.2 s st hs hst hts).symm
    · rw [updO hts, h _ (hE.1 s hs)] at hf
      exact absurd rfl hf
end Bfs
