/-! PURE: all that belongs to a state, as one number; the size of a set -/
def hsF (a : Nat → Int32) (h : Int64) : Nat → Int64
  | 0 => h
  | k + 1 => (31 : Int64) * hsF a h k + (a k).toInt64
def SEEN (σ : SS2) : Int64 := hsF (fun k => guestA σ (k / 4) (k % 4)) (hsF (fun k => doorA σ (k / 10) (k % 10)) (hsF (countA σ) 191 13) 100) 12
theorem q_div10 {a : Nat} (ha : a < 2 ^ 31) : nI a / (10 : Int32) = nI (a / 10) := pk_div (d := 10) ha (by decide) (by decide)
theorem q_div4 {a : Nat} (ha : a < 2 ^ 31) : nI a / (4 : Int32) = nI (a / 4) := pk_div (d := 4) ha (by decide) (by decide)
theorem t_seen {v : CDV} {σ : SS2} {Q : Int64 → Prop} (R : rSt v.1 σ) (hQ : Q (SEEN σ)) : wp_L_seen v Q := by
  rintro _ rfl
  refine loop_f (fun k i s => wp_L_seen_L6 v Q k s i) 13 (fun i => hsF (countA σ) 191 i) ?_ ?_
  · intro k
    refine ⟨fun _ => ?_, fun z => absurd (ge_self _) z⟩
    refine loop_f (fun k i s => wp_L_seen_L33 v Q k s i) 100 (fun i => hsF (fun k => doorA σ (k / 10) (k % 10)) (hsF (countA σ) 191 13) i) ?_ ?_
    · intro k
      refine ⟨fun _ => ?_, fun z => absurd (ge_self _) z⟩
      refine loop_f (fun k i s => wp_L_seen_L67 v Q k s i) 12 (fun i => hsF (fun k => guestA σ (k / 4) (k % 4)) (hsF (fun k => doorA σ (k / 10) (k % 10)) (hsF (countA σ) 191 13) 100) i) ?_ ?_
      · intro k
        exact ⟨fun _ => hQ, fun z => absurd (ge_self _) z⟩
      · intro k i hi ih
        refine ⟨fun z => absurd z (ge_no hi (by decide)), fun _ => ?_⟩
        rw [q_mod4 _ (by omega), q_div4 (by omega)]
        refine t_guest R (g := i / 4) (w := i % 4) (by omega) (by omega) ?_
        rintro _ rfl _ rfl
        rw [nI_s]
        exact ih
    · intro k i hi ih
      refine ⟨fun z => absurd z (ge_no hi (by decide)), fun _ => ?_⟩
      rw [q_mod10 _ (by omega), q_div10 (by omega)]
      refine t_door R (d := i / 10) (w := i % 10) (by omega) (by omega) ?_
      rintro _ rfl _ rfl
      rw [nI_s]
      exact ih
  · intro k i hi ih
    refine ⟨fun z => absurd z (ge_no hi (by decide)), fun _ => t_count R hi ?_⟩
    rintro _ rfl _ rfl
    rw [nI_s]
    exact ih
set_option maxRecDepth 100000 in
theorem low_clr : ∀ n, n < 1024 → n ≠ 0 → nI n &&& (nI n - 1) = nI (n &&& (n - 1)) ∧ pc n = pc (n &&& (n - 1)) + 1 ∧ n &&& (n - 1) < 1024 := by decide +kernel
theorem t_size {n : Nat} {Q : Int32 → Prop} (hn : n < 1024) (hQ : Q (nI (pc n))) : wp_L_size (nI n) Q := by
  have key : ∀ k n a, n < 1024 → pc n ≤ k → Q (nI (a + pc n)) → wp_L_size_L4 Q (k + 1) (nI a) (nI n) := by
    intro k
    induction k with
    | zero =>
      intro n a hn hk hQ
      have h0 : n = 0 := by
        by_cases h : n = 0
        · exact h
        · have := (low_clr n hn h).2.1
          omega
      subst h0
      exact ⟨fun _ => hQ, fun z => absurd rfl z⟩
    | succ k ih =>
      intro n a hn hk hQ
      by_cases h : n = 0
      · subst h
        exact ⟨fun _ => hQ, fun z => absurd rfl z⟩
      · obtain ⟨h1, h2, h3⟩ := low_clr n hn h
        refine ⟨fun z => absurd z (nI_ne0 (by omega) (by omega)), fun _ => ?_⟩
        rintro _ rfl _ rfl
        rw [h1, nI_s]
        refine ih _ (a + 1) h3 (by omega) ?_
        rw [show a + 1 + pc (n &&& (n - 1)) = a + pc n by omega]
        exact hQ
  refine ⟨11, key 10 n 0 hn (pc_le n) ?_⟩
  rw [Nat.zero_add]
  exact hQ
