/-! What returns by ireturn alone gives a number. -/
section AXINT
theorem ax_cnd {α : Type} (b : Bool) (x y : α) : cond b x y = if b = true then x else y := by cases b <;> rfl
def sr_ok (s : SR) : Prop := match s with
  | .inr (.inr (.inl (v, _))) => ∃ a, v = aI a
  | _ => True
def sm_ok (m : SM) : Prop := match m with
  | .inl s => sr_ok s
  | .inr (.inl (_, s)) => sr_ok s
  | .inr (.inr (_, s, t)) => sr_ok s ∧ sr_ok t
def in_ok (i : Instr) : Bool := match i with
  | .return_ => false
  | .areturn => false
  | _ => true
theorem ax_sem_ok {e0 mo : Nat} {en : ax_En} {L st : List AV} {σ : SG} {m : SM} (hi : in_ok en.1 = true) (h : ax_sem e0 mo en L st σ = some m) : sm_ok m := by
  obtain ⟨i, nx, a, b, f, v⟩ := en
  unfold ax_sem at h
  dsimp only at h
  split at h
  all_goals try (simp only [ax_ld, ax_lda, ax_sto, ax_stoa, ax_inc, ax_bin, ax_dv, ax_binJ, ax_shJ, ax_if, ax_if2, ax_acmp, ax_nul, ax_get, ax_put, ax_ald, ax_aldJ, ax_aldR, ax_ast, ax_astZ, ax_astJ, ax_astR, ax_alen, ax_mka, ax_cast, ax_call, ax_copy, ax_mm, ax_go, ax_gd, ax_br, ax_cnd] at h)
  all_goals try (exact absurd hi (by decide))
  all_goals repeat' split at h
  all_goals first
    | (injection h with h; subst h; trivial)
    | (injection h with h; subst h; exact ⟨_, rfl⟩)
    | (injection h with h; subst h; exact ⟨trivial, trivial⟩)
    | exact absurd h (by simp)
theorem ax_pick_ok {m : SM} {s : SR} (h : sm_ok m) (e : ax_pick m = some s) : sr_ok s := by
  unfold ax_pick at e
  rcases m with m | ⟨p, m⟩ | ⟨p, m1, m2⟩
  · injection e with e; subst e; exact h
  · dsimp only at e
    split at e
    · injection e with e; subst e; exact h
    · cases e
  · dsimp only at e
    split at e
    · injection e with e; subst e; exact h.1
    · injection e with e; subst e; exact h.2
/-- every place of a method is no return of nothing or of a reference -/
def me_ok (y : Nat) : Prop := ∀ pc en, ax_code y pc = some en → in_ok en.1 = true
theorem ax_ex_eq (e0 mo n d y : Nat) (fr : FRM) (σ : SG) : ax_ex e0 mo (n + 1) d y fr σ = (match (ax_at e0 mo y fr σ).bind ax_pick with
      | none => none
      | some (.inl (fr', σ')) => ax_ex e0 mo n d y fr' σ'
      | some (.inr (.inl (y', as, fr', σ'))) => match d with
        | 0 => none
        | d' + 1 => match ax_ex e0 mo n d' y' (0, ax_entry y' as, []) σ' with
          | none => none
          | some (.inl v, σ2) => ax_ex e0 mo n (d' + 1) y (fr'.1, fr'.2.1, ax_push v fr'.2.2) σ2
          | some (.inr E, σ2) => match ax_h y fr.1 E with
            | none => some (.inr E, σ2)
            | some w => some (.inl (aI w), σ2)
      | some (.inr (.inr (.inl (v, σ')))) => some (.inl v, σ')
      | some (.inr (.inr (.inr (E, σ')))) => bif Nat.ble 6 d then some (.inr E, σ') else none) := rfl
theorem ax_ex_int {e0 mo y : Nat} (hy : me_ok y) : ∀ n d fr σ v σ', ax_ex e0 mo n d y fr σ = some (.inl v, σ') → ∃ a, v = aI a := by
  intro n
  induction n with
  | zero => intro d fr σ v σ' h; cases h
  | succ n ih =>
    intro d fr σ v σ' h
    rw [ax_ex_eq] at h
    have key : ∀ s, (ax_at e0 mo y fr σ).bind ax_pick = some s → sr_ok s := fun s hs => by
      cases hm : ax_at e0 mo y fr σ with
      | none => rw [hm] at hs; cases hs
      | some m =>
        rw [hm] at hs
        unfold ax_at at hm
        cases hc : ax_code y fr.1 with
        | none => rw [hc] at hm; cases hm
        | some en =>
          rw [hc] at hm
          exact ax_pick_ok (ax_sem_ok (hy _ _ hc) hm) hs
    cases hs : (ax_at e0 mo y fr σ).bind ax_pick with
    | none => rw [hs] at h; cases h
    | some s =>
      have ks := key s hs
      rw [hs] at h
      rcases s with ⟨fr', σ1⟩ | ⟨y', as, fr', σ1⟩ | ⟨v1, σ1⟩ | ⟨E, σ1⟩
      · exact ih _ _ _ _ _ h
      · cases d with
        | zero => cases h
        | succ d =>
          dsimp only at h
          cases hx : ax_ex e0 mo n d y' (0, ax_entry y' as, []) σ1 with
          | none => rw [hx] at h; cases h
          | some r =>
            obtain ⟨r, σ2⟩ := r
            rw [hx] at h
            rcases r with v2 | E
            · exact ih _ _ _ _ _ h
            · dsimp only at h
              cases hh : ax_h y fr.1 E with
              | none => rw [hh] at h; cases h
              | some w => rw [hh] at h; injection h with h; injection h with h1 h2; injection h1 with h1; exact ⟨w, h1.symm⟩
      · injection h with h
        injection h with h1 h2
        injection h1 with h1
        obtain ⟨a, ha⟩ := ks
        exact ⟨a, h1.symm.trans ha⟩
      · dsimp only at h
        rw [ax_cnd] at h
        split at h
        · injection h with h; injection h with h1 h2; cases h1
        · cases h
/-- so a contract's answer is a number -/
theorem ax_int {e0 mo d y : Nat} {as : List AV} {σ : SG} {P : AV → SG → Prop} (hy : me_ok y) (c : ax_ok e0 mo d y as σ P) : ax_ok e0 mo d y as σ (fun v σ2 => P v σ2 ∧ ∃ a, v = aI a) := by
  obtain ⟨n, r, σ', h1, h2⟩ := c
  rcases r with v | E
  · exact ⟨n, _, σ', h1, h2, ax_ex_int hy _ _ _ _ _ _ h1⟩
  · exact h2.elim
end AXINT
