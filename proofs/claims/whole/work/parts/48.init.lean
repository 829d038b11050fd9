/-! as it begins: nothing is there -/
theorem Inv_0 {σ μ : kS} (h1 : ∀ k, k < 55 → ∀ i, σ.1 k i = 0) (h2 : ∀ s, s < 4 → σ.1 (55 + 2 * s) 0 = -1) (m1 : ∀ s, s < 4 → μ.1 1 s = -1) (m2 : ∀ k, k ≠ 1 → ∀ i, μ.1 k i = 0) : Inv σ μ := by
  have hW : WF (fun _ => 0) := ⟨by decide, by decide, ⟨Iff.rfl, Iff.rfl⟩, fun i hi => absurd hi (Nat.not_lt_zero i), fun i hi => absurd hi (Nat.not_lt_zero i), fun i hi => absurd hi (Nat.not_lt_zero i)⟩
  refine ⟨fun _ => 0, ⟨hW, by decide, ⟨⟨h1 3 (by decide) 0, h1 3 (by decide) 1, h1 3 (by decide) 2, h1 3 (by decide) 3⟩, fun i hi => absurd hi (Nat.not_lt_zero i), fun i hi => absurd hi (Nat.not_lt_zero i), fun i hi => absurd hi (Nat.not_lt_zero i)⟩, fun i hi => ?_, fun q => absurd q (Nat.not_lt_zero 0)⟩,
    ⟨0, by decide, h1 1 (by decide) 1, m2 0 (by decide) 3, fun i hi => absurd hi (Nat.not_lt_zero i)⟩, fun k hk => Or.inl ⟨m2 9 (by decide) k, h1 _ (by omega) 1⟩,
    ⟨0, 0, fun _ _ => 0, by decide, by decide, h1 20 (by decide) 0, h1 20 (by decide) 1, m2 0 (by decide) 12, rfl, fun q => absurd q (Nat.not_lt_zero 0), fun j hj => absurd hj (Nat.not_lt_zero j)⟩, fun s hs => ⟨by rw [h2 s hs, m1 s hs], Or.inl (m1 s hs)⟩⟩
  rw [m2 5 (by decide) i]; unfold vI
  rw [if_neg (fun c => absurd c.2 (show ¬ (0 : Nat) = 9 by decide))]; rfl
