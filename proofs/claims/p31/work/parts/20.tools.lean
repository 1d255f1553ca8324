/-! Tools for walks of the abstract machine: continuations, depth, what is written where. -/
section AXTL
abbrev ax_ct (K : AV → SG → Prop) (X : Nat → SG → Prop) : Res → SG → Prop := fun r σ => match r with
  | .inl v => K v σ
  | .inr E => X E σ
def ax_cut (l : List Nat) (q : Nat) : Bool := l.any (fun z => Nat.beq z q)
abbrev ax_ush (x y : Int32) : Int32 := (x.toUInt32 >>> (y.toUInt32 &&& Int32.toUInt32 31)).toInt32
abbrev ax_ushJ (x : Int64) (y : Int32) : Int64 := (x.toUInt64 >>> (y.toInt64.toUInt64 &&& Int64.toUInt64 63)).toInt64
theorem ax_deep1 (e0 mo : Nat) : ∀ (n d y : Nat) (fr : FRM) (σ : SG) (x : Res × SG), ax_ex e0 mo n d y fr σ = some x → ax_ex e0 mo n (d + 1) y fr σ = some x := by
  intro n
  induction n with
  | zero => intro d y fr σ x h; cases h
  | succ n ih =>
    intro d y fr σ x h
    rw [ax_ex] at h ⊢
    cases hm : (ax_at e0 mo y fr σ).bind ax_pick with
    | none => rw [hm] at h; cases h
    | some s =>
      rw [hm] at h
      rcases s with ⟨fr', σ'⟩ | ⟨y', as, fr', σ'⟩ | ⟨v, σ'⟩ | ⟨E, σ'⟩
      · exact ih _ _ _ _ _ h
      · cases d with
        | zero => cases h
        | succ d' =>
          dsimp only at h ⊢
          cases hc : ax_ex e0 mo n d' y' (0, ax_entry y' as, []) σ' with
          | none => rw [hc] at h; cases h
          | some r =>
            have hc1 := ih _ _ _ _ _ hc
            rw [hc] at h
            rw [hc1]
            rcases r with ⟨v | E, σ2⟩
            · exact ih _ _ _ _ _ h
            · exact h
      · exact h
      · dsimp only at h ⊢
        cases q : Nat.ble 6 d with
        | false => rw [q] at h; cases h
        | true =>
          rw [q] at h
          have q2 : Nat.ble 6 (d + 1) = true := Nat.ble_eq_true_of_le (Nat.le_succ_of_le (Nat.le_of_ble_eq_true q))
          rw [q2]
          exact h
theorem ax_deep {e0 mo d d' y : Nat} {fr : FRM} {σ : SG} {Q : Res → SG → Prop} (hd : Nat.ble d d' = true) (h : ax_wp e0 mo d y fr σ Q) : ax_wp e0 mo d' y fr σ Q := by
  obtain ⟨k, rfl⟩ : ∃ k, d' = d + k := ⟨d' - d, by have := Nat.le_of_ble_eq_true hd; omega⟩
  clear hd
  induction k with
  | zero => exact h
  | succ k ih =>
    obtain ⟨n, r, σ', h1, h2⟩ := ih
    exact ⟨n, r, σ', ax_deep1 e0 mo _ _ _ _ _ _ h1, h2⟩
/-- a call's contract: it returns, with P -/
def ax_ok (e0 mo d y : Nat) (as : List AV) (σ : SG) (P : AV → SG → Prop) : Prop := ax_wp e0 mo d y (0, ax_entry y as, []) σ (ax_ct P (fun _ _ => False))
theorem ax_use {e0 mo h d y : Nat} {as : List AV} {σ : SG} {P K : AV → SG → Prop} {X : Nat → SG → Prop} (c : ax_ok e0 mo h y as σ P) (hd : Nat.ble h d = true) (k : ∀ v σ2, P v σ2 → K v σ2) : ax_wp e0 mo d y (0, ax_entry y as, []) σ (ax_ct K X) := by
  refine ax_deep hd (ax_post c fun r σ2 hr => ?_)
  rcases r with v | E
  · exact k _ _ hr
  · exact hr.elim
theorem ax_useX {e0 mo h d y : Nat} {as : List AV} {σ : SG} {P K : AV → SG → Prop} {PX X : Nat → SG → Prop} (c : ax_wp e0 mo h y (0, ax_entry y as, []) σ (ax_ct P PX)) (hd : Nat.ble h d = true) (k : ∀ v σ2, P v σ2 → K v σ2) (kx : ∀ E σ2, PX E σ2 → X E σ2) : ax_wp e0 mo d y (0, ax_entry y as, []) σ (ax_ct K X) := by
  refine ax_deep hd (ax_post c fun r σ2 hr => ?_)
  rcases r with v | E
  · exact k _ _ hr
  · exact kx _ _ hr
/-- a call that leaves the heap as it is -/
theorem ax_use0 {e0 mo h d y : Nat} {as : List AV} {σ : SG} {w : AV} {K : AV → SG → Prop} {X : Nat → SG → Prop} (c : ax_ok e0 mo h y as σ (fun v σ2 => v = w ∧ σ2 = σ)) (hd : Nat.ble h d = true) (k : K w σ) : ax_wp e0 mo d y (0, ax_entry y as, []) σ (ax_ct K X) :=
  ax_use c hd fun v σ2 h => by obtain ⟨rfl, rfl⟩ := h; exact k
theorem ax_okw {e0 mo d y : Nat} {as : List AV} {σ : SG} {P P' : AV → SG → Prop} (c : ax_ok e0 mo d y as σ P) (k : ∀ v σ2, P v σ2 → P' v σ2) : ax_ok e0 mo d y as σ P' := by
  refine ax_post c fun r σ2 hr => ?_
  rcases r with v | E
  · exact k _ _ hr
  · exact hr.elim
/-- what isn't in W stands as it stood -/
def ax_F (W : Nat → Nat → Nat → Prop) (σ σ' : SG) : Prop := sgZ σ ≤ sgZ σ' ∧ sgU σ ≤ sgU σ' ∧ (∀ q, q < sgZ σ → sgK σ' q = sgK σ q) ∧ (∀ k i q, q < sgZ σ → ¬ W k i q → sgI σ' k i q = sgI σ k i q ∧ sgJ σ' k i q = sgJ σ k i q ∧ sgR σ' k i q = sgR σ k i q)
theorem ax_F.refl (W : Nat → Nat → Nat → Prop) (σ : SG) : ax_F W σ σ := ⟨Nat.le_refl _, Nat.le_refl _, fun _ _ => rfl, fun _ _ _ _ _ => ⟨rfl, rfl, rfl⟩⟩
theorem ax_F.trans {W : Nat → Nat → Nat → Prop} {σ σ1 σ2 : SG} (h1 : ax_F W σ σ1) (h2 : ax_F W σ1 σ2) : ax_F W σ σ2 := by
  obtain ⟨a1, a2, a3, a4⟩ := h1
  obtain ⟨b1, b2, b3, b4⟩ := h2
  refine ⟨Nat.le_trans a1 b1, Nat.le_trans a2 b2, fun q hq => (b3 q (Nat.lt_of_lt_of_le hq a1)).trans (a3 q hq), fun k i q hq hw => ?_⟩
  obtain ⟨c1, c2, c3⟩ := a4 k i q hq hw
  obtain ⟨d1, d2, d3⟩ := b4 k i q (Nat.lt_of_lt_of_le hq a1) hw
  exact ⟨d1.trans c1, d2.trans c2, d3.trans c3⟩
theorem ax_F.mono {W W' : Nat → Nat → Nat → Prop} {σ σ1 : SG} (h : ax_F W σ σ1) (hw : ∀ k i q, q < sgZ σ → W k i q → W' k i q) : ax_F W' σ σ1 := ⟨h.1, h.2.1, h.2.2.1, fun k i q hq hn => h.2.2.2 k i q hq fun z => hn (hw k i q hq z)⟩
theorem ax_F.putI {W : Nat → Nat → Nat → Prop} {σ σ1 : SG} {k i q : Nat} {v : Int32} (h : ax_F W σ σ1) (hw : q < sgZ σ → W k i q) : ax_F W σ (putI σ1 k i q v) := by
  refine ⟨h.1, h.2.1, h.2.2.1, fun k' i' q' hq hn => ?_⟩
  obtain ⟨c1, c2, c3⟩ := h.2.2.2 k' i' q' hq hn
  refine ⟨?_, c2, c3⟩
  rw [← c1]
  exact if_neg fun z => by obtain ⟨rfl, rfl, rfl⟩ := z; exact hn (hw hq)
theorem ax_F.putJ {W : Nat → Nat → Nat → Prop} {σ σ1 : SG} {k i q : Nat} {v : Int64} (h : ax_F W σ σ1) (hw : q < sgZ σ → W k i q) : ax_F W σ (putJ σ1 k i q v) := by
  refine ⟨h.1, h.2.1, h.2.2.1, fun k' i' q' hq hn => ?_⟩
  obtain ⟨c1, c2, c3⟩ := h.2.2.2 k' i' q' hq hn
  refine ⟨c1, ?_, c3⟩
  rw [← c2]
  exact if_neg fun z => by obtain ⟨rfl, rfl, rfl⟩ := z; exact hn (hw hq)
theorem ax_F.putR {W : Nat → Nat → Nat → Prop} {σ σ1 : SG} {k i q : Nat} {v : Nat} (h : ax_F W σ σ1) (hw : q < sgZ σ → W k i q) : ax_F W σ (putR σ1 k i q v) := by
  refine ⟨h.1, h.2.1, h.2.2.1, fun k' i' q' hq hn => ?_⟩
  obtain ⟨c1, c2, c3⟩ := h.2.2.2 k' i' q' hq hn
  refine ⟨c1, c2, ?_⟩
  rw [← c3]
  exact if_neg fun z => by obtain ⟨rfl, rfl, rfl⟩ := z; exact hn (hw hq)
theorem ax_F.mkC {W : Nat → Nat → Nat → Prop} {σ σ1 : SG} {k n : Nat} (h : ax_F W σ σ1) : ax_F W σ (mkC σ1 k n) := by
  have hz : ∀ q, q < sgZ σ → q ≠ sgZ σ1 := fun q hq => Nat.ne_of_lt (Nat.lt_of_lt_of_le hq h.1)
  refine ⟨Nat.le_succ_of_le h.1, Nat.le_trans h.2.1 (Nat.le_add_right _ _), fun q hq => (va_up_ne _ _ (hz q hq)).trans (h.2.2.1 q hq), fun k' i' q' hq hn => ?_⟩
  obtain ⟨c1, c2, c3⟩ := h.2.2.2 k' i' q' hq hn
  refine ⟨?_, ?_, ?_⟩
  · rw [← c1]; exact if_neg fun z => hz q' hq z.2
  · rw [← c2]; exact if_neg fun z => hz q' hq z.2
  · rw [← c3]; exact if_neg fun z => hz q' hq z.2
theorem ax_F.thr {W : Nat → Nat → Nat → Prop} {σ σ1 : SG} (h : ax_F W σ σ1) : ax_F W σ (thrC σ1) := ⟨Nat.le_succ_of_le h.1, Nat.le_trans h.2.1 (Nat.le_add_right _ _), h.2.2.1, h.2.2.2⟩
theorem ax_F.cpy {W : Nat → Nat → Nat → Prop} {σ σ1 : SG} {a b q c d : Nat} (h : ax_F W σ σ1) (hw : q < sgZ σ → ∀ i, W 23 i q) : ax_F W σ (cpyC σ1 a b q c d) := by
  refine ⟨h.1, h.2.1, h.2.2.1, fun k' i' q' hq hn => ?_⟩
  obtain ⟨c1, c2, c3⟩ := h.2.2.2 k' i' q' hq hn
  refine ⟨c1, c2, ?_⟩
  rw [← c3]
  exact if_neg fun z => by obtain ⟨rfl, rfl⟩ := z; exact hn (hw hq _)
-- reads
theorem gI_putI (σ : SG) (k i r : Nat) (v : Int32) (k' i' r' : Nat) : sgI (putI σ k i r v) k' i' r' = if k' = k ∧ i' = i ∧ r' = r then v else sgI σ k' i' r' := rfl
theorem gI_putR (σ : SG) (k i r v k' i' r' : Nat) : sgI (putR σ k i r v) k' i' r' = sgI σ k' i' r' := rfl
theorem gI_putJ (σ : SG) (k i r : Nat) (v : Int64) (k' i' r' : Nat) : sgI (putJ σ k i r v) k' i' r' = sgI σ k' i' r' := rfl
theorem gR_putR (σ : SG) (k i r v : Nat) (k' i' r' : Nat) : sgR (putR σ k i r v) k' i' r' = if k' = k ∧ i' = i ∧ r' = r then v else sgR σ k' i' r' := rfl
theorem gR_putI (σ : SG) (k i r : Nat) (v : Int32) (k' i' r' : Nat) : sgR (putI σ k i r v) k' i' r' = sgR σ k' i' r' := rfl
theorem gR_putJ (σ : SG) (k i r : Nat) (v : Int64) (k' i' r' : Nat) : sgR (putJ σ k i r v) k' i' r' = sgR σ k' i' r' := rfl
theorem gJ_putJ (σ : SG) (k i r : Nat) (v : Int64) (k' i' r' : Nat) : sgJ (putJ σ k i r v) k' i' r' = if k' = k ∧ i' = i ∧ r' = r then v else sgJ σ k' i' r' := rfl
theorem gJ_putI (σ : SG) (k i r : Nat) (v : Int32) (k' i' r' : Nat) : sgJ (putI σ k i r v) k' i' r' = sgJ σ k' i' r' := rfl
theorem gJ_putR (σ : SG) (k i r v k' i' r' : Nat) : sgJ (putR σ k i r v) k' i' r' = sgJ σ k' i' r' := rfl
theorem gK_putI (σ : SG) (k i r : Nat) (v : Int32) (q : Nat) : sgK (putI σ k i r v) q = sgK σ q := rfl
theorem gK_putR (σ : SG) (k i r v q : Nat) : sgK (putR σ k i r v) q = sgK σ q := rfl
theorem gK_putJ (σ : SG) (k i r : Nat) (v : Int64) (q : Nat) : sgK (putJ σ k i r v) q = sgK σ q := rfl
theorem gZ_putI (σ : SG) (k i r : Nat) (v : Int32) : sgZ (putI σ k i r v) = sgZ σ := rfl
theorem gZ_putR (σ : SG) (k i r v : Nat) : sgZ (putR σ k i r v) = sgZ σ := rfl
theorem gZ_putJ (σ : SG) (k i r : Nat) (v : Int64) : sgZ (putJ σ k i r v) = sgZ σ := rfl
theorem gU_putI (σ : SG) (k i r : Nat) (v : Int32) : sgU (putI σ k i r v) = sgU σ := rfl
theorem gU_putR (σ : SG) (k i r v : Nat) : sgU (putR σ k i r v) = sgU σ := rfl
theorem gU_putJ (σ : SG) (k i r : Nat) (v : Int64) : sgU (putJ σ k i r v) = sgU σ := rfl
theorem gK_mk (σ : SG) (k n q : Nat) : sgK (mkC σ k n) q = if q = sgZ σ then (k, n) else sgK σ q := rfl
theorem gI_mk (σ : SG) (k n k' i q : Nat) : sgI (mkC σ k n) k' i q = if k' = k ∧ q = sgZ σ then 0 else sgI σ k' i q := rfl
theorem gJ_mk (σ : SG) (k n k' i q : Nat) : sgJ (mkC σ k n) k' i q = if k' = k ∧ q = sgZ σ then 0 else sgJ σ k' i q := rfl
theorem gR_mk (σ : SG) (k n k' i q : Nat) : sgR (mkC σ k n) k' i q = if k' = k ∧ q = sgZ σ then 0 else sgR σ k' i q := rfl
theorem gZ_mk (σ : SG) (k n : Nat) : sgZ (mkC σ k n) = sgZ σ + 1 := rfl
theorem gU_mk (σ : SG) (k n : Nat) : sgU (mkC σ k n) = sgU σ + n := rfl
theorem gR_cpy (σ : SG) (a b q c d k i r : Nat) : sgR (cpyC σ a b q c d) k i r = if k = 23 ∧ r = q then va_cpy (fun j => sgR σ 23 j a) (fun j => sgR σ 23 j q) b c d i else sgR σ k i r := rfl
theorem gI_cpy (σ : SG) (a b q c d k i r : Nat) : sgI (cpyC σ a b q c d) k i r = sgI σ k i r := rfl
theorem gK_cpy (σ : SG) (a b q c d r : Nat) : sgK (cpyC σ a b q c d) r = sgK σ r := rfl
/-- a place of a row -/
theorem ax_in_nI {σ : SG} {k r n i : Nat} (hk : sgK σ r = (k, n)) (hi : i < n) (hn : n < 2 ^ 31) : ax_in σ k r (nI i) := by
  unfold ax_in
  rw [hk]
  exact ⟨rfl, vp_in_nI hi hn⟩
theorem ax_kd {σ : SG} {k r n : Nat} (hk : sgK σ r = (k, n)) : (sgK σ r).1 = k := by rw [hk]
end AXTL
