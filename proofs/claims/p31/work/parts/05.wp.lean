/-! What a walk of the abstract machine comes to: ax_wp, its steps, its stretches up to chosen places. -/
section AXW
theorem ax_mono (e0 mo : Nat) : ∀ (n d y : Nat) (fr : FRM) (σ : SG) (x : Res × SG), ax_ex e0 mo n d y fr σ = some x → ax_ex e0 mo (n + 1) d y fr σ = some x := by
  intro n
  induction n with
  | zero => intro d y fr σ x h; cases h
  | succ n ih =>
    intro d y fr σ x h
    rw [ax_ex] at h ⊢
    cases hm : (ax_at e0 mo y fr σ).bind ax_pick with
    | none => rw [hm] at h; cases h
    | some s =>
      rw [hm] at h
      rcases s with ⟨fr', σ'⟩ | ⟨y', as, fr', σ'⟩ | ⟨v, σ'⟩ | ⟨E, σ'⟩
      · exact ih _ _ _ _ _ h
      · cases d with
        | zero => cases h
        | succ d' =>
          dsimp only at h ⊢
          cases hc : ax_ex e0 mo n d' y' (0, ax_entry y' as, []) σ' with
          | none => rw [hc] at h; cases h
          | some r =>
            have hc1 := ih _ _ _ _ _ hc
            rw [hc] at h
            rw [hc1]
            rcases r with ⟨v | E, σ2⟩
            · exact ih _ _ _ _ _ h
            · exact h
      · exact h
      · exact h
theorem ax_mono_le (e0 mo : Nat) {n m d y : Nat} {fr : FRM} {σ : SG} {x : Res × SG} (hnm : n ≤ m) (h : ax_ex e0 mo n d y fr σ = some x) : ax_ex e0 mo m d y fr σ = some x := by
  obtain ⟨k, rfl⟩ : ∃ k, m = n + k := ⟨m - n, by omega⟩
  clear hnm
  induction k with
  | zero => exact h
  | succ k ih => exact ax_mono e0 mo _ _ _ _ _ _ ih
/-- the machine, from here, comes to its end, with Q -/
def ax_wp (e0 mo d y : Nat) (fr : FRM) (σ : SG) (Q : Res → SG → Prop) : Prop := ∃ (n : Nat) (r : Res) (σ' : SG), ax_ex e0 mo n d y fr σ = some (r, σ') ∧ Q r σ'
theorem ax_post {e0 mo d y : Nat} {fr : FRM} {σ : SG} {Q Q' : Res → SG → Prop} (h : ax_wp e0 mo d y fr σ Q) (k : ∀ r σ', Q r σ' → Q' r σ') : ax_wp e0 mo d y fr σ Q' := by
  obtain ⟨n, r, σ', h1, h2⟩ := h
  exact ⟨n, r, σ', h1, k _ _ h2⟩
def ax_st (K : SR → Prop) (m : Option SM) : Prop := match m with
  | none => False
  | some (.inl s) => K s
  | some (.inr (.inl (p, s))) => p ∧ K s
  | some (.inr (.inr (p, s, t))) => (p → K s) ∧ (¬ p → K t)
def ax_exc (y pc : Nat) (Q : Res → SG → Prop) (E : Nat) (σ : SG) : Prop := match ax_h y pc E with
  | none => Q (.inr E) σ
  | some w => Q (.inl (aI w)) σ
def ax_K (e0 mo d y pc : Nat) (Q : Res → SG → Prop) (P : FRM → SG → Prop) (s : SR) : Prop := match s with
  | .inl (fr', σ') => P fr' σ'
  | .inr (.inl (y', as, fr', σ')) => (match d with
    | 0 => False
    | d' + 1 => ax_wp e0 mo d' y' (0, ax_entry y' as, []) σ' (fun r σ2 => match r with
      | .inl v => P (fr'.1, fr'.2.1, ax_push v fr'.2.2) σ2
      | .inr E => ax_exc y pc Q E σ2))
  | .inr (.inr (.inl (v, σ'))) => Q (.inl v) σ'
  | .inr (.inr (.inr (E, σ'))) => 6 ≤ d ∧ Q (.inr E) σ'
theorem ax_st_pick {K : SR → Prop} {m : Option SM} (h : ax_st K m) : ∃ s, m.bind ax_pick = some s ∧ K s := by
  rcases m with _ | m
  · cases h
  rcases m with s | ⟨p, s⟩ | ⟨p, s, t⟩
  · exact ⟨s, rfl, h⟩
  · refine ⟨s, ?_, h.2⟩
    show @ite _ p (Classical.propDecidable p) (some s) none = some s
    exact @if_pos p (Classical.propDecidable p) h.1 _ _ _
  · by_cases q : p
    · exact ⟨s, @if_pos p (Classical.propDecidable p) q _ _ _, h.1 q⟩
    · exact ⟨t, @if_neg p (Classical.propDecidable p) q _ _ _, h.2 q⟩
theorem ax_step {e0 mo d y : Nat} {fr : FRM} {σ : SG} {Q : Res → SG → Prop} (h : ax_st (ax_K e0 mo d y fr.1 Q (fun fr' σ' => ax_wp e0 mo d y fr' σ' Q)) (ax_at e0 mo y fr σ)) : ax_wp e0 mo d y fr σ Q := by
  obtain ⟨s, hs, hk⟩ := ax_st_pick h
  rcases s with ⟨fr', σ'⟩ | ⟨y', as, fr', σ'⟩ | ⟨v, σ'⟩ | ⟨E, σ'⟩
  · obtain ⟨n, r, σ2, h1, h2⟩ := hk
    exact ⟨n + 1, r, σ2, by rw [ax_ex, hs]; exact h1, h2⟩
  · cases d with
    | zero => cases hk
    | succ d' =>
      obtain ⟨n, r, σ2, h1, h2⟩ := hk
      rcases r with v | E
      · obtain ⟨n2, r2, σ3, h3, h4⟩ := h2
        refine ⟨n + n2 + 1, r2, σ3, ?_, h4⟩
        rw [ax_ex, hs]
        dsimp only
        rw [ax_mono_le e0 mo (show n ≤ n + n2 by omega) h1]
        exact ax_mono_le e0 mo (show n2 ≤ n + n2 by omega) h3
      · unfold ax_exc at h2
        cases hh : ax_h y fr.1 E with
        | none =>
          simp only [hh] at h2
          exact ⟨n + 1, .inr E, σ2, by rw [ax_ex, hs]; dsimp only; rw [h1]; dsimp only; rw [hh], h2⟩
        | some w =>
          simp only [hh] at h2
          exact ⟨n + 1, .inl (aI w), σ2, by rw [ax_ex, hs]; dsimp only; rw [h1]; dsimp only; rw [hh], h2⟩
  · exact ⟨1, .inl v, σ', by rw [ax_ex, hs], hk⟩
  · refine ⟨1, .inr E, σ', ?_, hk.2⟩
    rw [ax_ex, hs]
    dsimp only
    rw [Nat.ble_eq_true_of_le hk.1]
    rfl
theorem ax_st_mono {K K' : SR → Prop} {m : Option SM} (h : ax_st K m) (k : ∀ s, K s → K' s) : ax_st K' m := by
  rcases m with _ | m
  · exact h
  rcases m with s | ⟨p, s⟩ | ⟨p, s, t⟩
  · exact k _ h
  · exact ⟨h.1, k _ h.2⟩
  · exact ⟨fun q => k _ (h.1 q), fun q => k _ (h.2 q)⟩
theorem ax_K_mono {e0 mo d y pc : Nat} {Q : Res → SG → Prop} {P P' : FRM → SG → Prop} {s : SR} (h : ax_K e0 mo d y pc Q P s) (k : ∀ fr σ, P fr σ → P' fr σ) : ax_K e0 mo d y pc Q P' s := by
  rcases s with ⟨fr', σ'⟩ | ⟨y', as, fr', σ'⟩ | ⟨v, σ'⟩ | ⟨E, σ'⟩
  · exact k _ _ h
  · cases d with
    | zero => exact h
    | succ d' =>
      refine ax_post h fun r σ2 h2 => ?_
      rcases r with v | E
      · exact k _ _ h2
      · exact h2
  · exact h
  · exact h
/-- a stretch: up to n steps, to the places that cut names -/
def ax_run (e0 mo : Nat) (cut : Nat → Bool) (d y : Nat) (Q : Res → SG → Prop) : Nat → FRM → SG → Prop
  | 0, _, _ => False
  | n + 1, fr, σ => ax_st (ax_K e0 mo d y fr.1 Q (fun fr' σ' => match cut fr'.1 with
    | true => ax_wp e0 mo d y fr' σ' Q
    | false => ax_run e0 mo cut d y Q n fr' σ')) (ax_at e0 mo y fr σ)
theorem ax_seg {e0 mo : Nat} (cut : Nat → Bool) {d y : Nat} {Q : Res → SG → Prop} : ∀ (n : Nat) {fr : FRM} {σ : SG}, ax_run e0 mo cut d y Q n fr σ → ax_wp e0 mo d y fr σ Q := by
  intro n
  induction n with
  | zero => intro fr σ h; cases h
  | succ n ih =>
    intro fr σ h
    refine ax_step (ax_st_mono h fun s hs => ax_K_mono hs fun fr' σ' hf => ?_)
    cases hc : cut fr'.1 with
    | true => simp only [hc] at hf; exact hf
    | false => simp only [hc] at hf; exact ih hf
end AXW
