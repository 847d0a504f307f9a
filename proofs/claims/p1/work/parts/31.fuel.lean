/-! MORE FUEL, MORE DEPTH: nothing else changes -/
theorem x_fuel {G : xG} {ms : Nat → Option xM} {cd : Nat → Nat → Option (Instr × Nat)} : ∀ (n n' d d' y pc : Nat) (lv : xL) (st : List Value) (w : xW) (ck cs : Nat) (r : Option Value × xW × Nat × Nat), n ≤ n' → d ≤ d' → x_exec G ms cd n d y pc lv st w ck cs = some r → x_exec G ms cd n' d' y pc lv st w ck cs = some r := by
  intro n
  induction n with
  | zero => intro n' d d' y pc lv st w ck cs r _ _ h; cases h
  | succ n ih =>
    intro n' d d' y pc lv st w ck cs r hn hd h
    obtain ⟨n1, rfl⟩ : ∃ n1, n' = n1 + 1 := ⟨n' - 1, by omega⟩
    have hn1 : n ≤ n1 := by omega
    unfold x_exec at h ⊢
    split at h
    · rename_i i len M hcd hm
      try rw [hcd, hm]
      try dsimp only
      cases hcl : x_cl i with
      | some kj =>
        obtain ⟨kd, j⟩ := kj
        rw [hcl] at h
        dsimp only at h ⊢
        split at h
        · rename_i d1 M' hj
          obtain ⟨d2, rfl⟩ : ∃ d2, d' = d2 + 1 := ⟨d' - 1, by omega⟩
          try rw [hj]
          try dsimp only
          split at h
          · rename_i as rs htk
            try rw [htk]
            try dsimp only
            by_cases hc : x_cat rs ≤ 8 ∧ x_cat as ≤ M'.2.2.1 ∧ x_rcv G kd M'.2.2.2.2.2 as w = true ∧ M'.2.2.2.2.2 ≠ 99
            · rw [if_pos hc] at h
              rw [if_pos hc]
              split at h
              · rename_i v w1 mc1 mz1 hcall
                rw [ih n1 d1 d2 _ _ _ _ _ _ _ _ hn1 (by omega) hcall]
                exact ih n1 _ _ _ _ _ _ _ _ _ _ hn1 hd h
              · cases h
            · rw [if_neg hc] at h; cases h
          · cases h
        · cases h
      | none =>
        rw [hcl] at h
        dsimp only at h ⊢
        cases hret : x_ret i M.2.2.2.1 st with
        | some v => rw [hret] at h; exact h
        | none =>
          rw [hret] at h
          dsimp only at h ⊢
          cases hmi : x_mi i st with
          | some sr =>
            obtain ⟨st', rs⟩ := sr
            rw [hmi] at h
            dsimp only at h ⊢
            by_cases hc : x_cat rs ≤ 8 ∧ 1 ≤ d
            · rw [if_pos hc] at h
              rw [if_pos ⟨hc.1, by omega⟩]
              exact ih n1 _ _ _ _ _ _ _ _ _ _ hn1 hd h
            · rw [if_neg hc] at h; cases h
          | none =>
            rw [hmi] at h
            dsimp only at h ⊢
            split at h
            · rename_i q hq
              try rw [hq]
              exact ih n1 _ _ _ _ _ _ _ _ _ _ hn1 hd h
            · cases h
    · cases h
