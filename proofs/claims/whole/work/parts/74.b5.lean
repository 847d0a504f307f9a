/-! THE RULES' INVARIANTS: cells that a declaration gives -/
theorem cur_cB (σ : RS) : (curB σ).2.2.2.1 = cB σ (σ.1.length - 1) := rfl
theorem setVr_cB (σ : RS) (v : Nat) (y : Int32 × Nat × Int32 × Int32) (e : Nat) : cB (setVr σ v y) e = cB σ e := rfl
/-- other blocks keep their cells -/
theorem dsL_o (at_ : Int32) (tn : Nat) (sec ini : Int32) : ∀ k v σ, 0 < σ.1.length → ∀ e, e ≠ σ.1.length - 1 → cB (dsL at_ tn sec ini k v σ) e = cB σ e
  | 0, v, σ, _, e, _ => rfl
  | k + 1, v, σ, h0, e, ne => by
    have es : dsL at_ tn sec ini (k + 1) v σ = dsL at_ tn sec ini k (v + 1) (if at_ = -1 then setC (setVr σ v (sec, tn, ini, (curB σ).2.2.2.1)) (σ.1.length - 1) ((curB σ).2.2.2.1 + szT (setVr σ v (sec, tn, ini, (curB σ).2.2.2.1)) tn) else setVr σ v (sec, tn, ini, at_)) := rfl
    rw [es]
    by_cases q : at_ = -1
    · rw [if_pos q]
      have l : (setC (setVr σ v (sec, tn, ini, (curB σ).2.2.2.1)) (σ.1.length - 1) ((curB σ).2.2.2.1 + szT (setVr σ v (sec, tn, ini, (curB σ).2.2.2.1)) tn)).1.length = σ.1.length := setC_l _ _ _
      rw [dsL_o at_ tn sec ini k (v + 1) _ (by rw [l]; exact h0) e (by rw [l]; exact ne), setC_cB (setVr σ v (sec, tn, ini, (curB σ).2.2.2.1)) (show σ.1.length - 1 < σ.1.length by omega), if_neg ne]
      rfl
    · rw [if_neg q]
      exact dsL_o at_ tn sec ini k (v + 1) (setVr σ v (sec, tn, ini, at_)) h0 e ne
/-- told to a place: no cell is taken -/
theorem dsL_p {at_ : Int32} (ha : ¬ at_ = -1) (tn : Nat) (sec ini : Int32) : ∀ k v σ e, cB (dsL at_ tn sec ini k v σ) e = cB σ e
  | 0, v, σ, e => rfl
  | k + 1, v, σ, e => by
    have es : dsL at_ tn sec ini (k + 1) v σ = dsL at_ tn sec ini k (v + 1) (if at_ = -1 then setC (setVr σ v (sec, tn, ini, (curB σ).2.2.2.1)) (σ.1.length - 1) ((curB σ).2.2.2.1 + szT (setVr σ v (sec, tn, ini, (curB σ).2.2.2.1)) tn) else setVr σ v (sec, tn, ini, at_)) := rfl
    rw [es, if_neg ha]
    exact dsL_p ha tn sec ini k (v + 1) (setVr σ v (sec, tn, ini, at_)) e
