/-! PURE: both ways of telling deeds -/
theorem AnS_W {L : LoS} {ks goal : Nat} {st : Sp} {r : Int32} (h : AnS L ks goal st r) : AnW L ks goal st r :=
  h.imp id (fun h => ⟨h.1, fun k _ => h.2 k⟩)
theorem An_uni {L : LoS} {ks goal : Nat} {st : Sp} {r1 r2 : Int32} (h1 : AnW L ks goal st r1) (h2 : AnW L ks goal st r2) : r1 = r2 := by
  rcases h1 with ⟨k1, a1, rfl, a2, a3⟩ | ⟨rfl, a1⟩
  · rcases h2 with ⟨k2, b1, rfl, b2, b3⟩ | ⟨rfl, b1⟩
    · rcases Nat.lt_trichotomy k1 k2 with x | x | x
      · exact absurd a2 (b3 k1 x)
      · rw [x]
      · exact absurd b2 (a3 k2 x)
    · exact absurd a2 (b1 k1 a1)
  · rcases h2 with ⟨k2, b1, rfl, b2, b3⟩ | ⟨rfl, b1⟩
    · exact absurd b2 (a1 k2 b1)
    · rfl
