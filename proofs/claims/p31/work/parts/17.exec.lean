/-! What a run of the abstract machine leaves; the handlers' table; the arguments as locals. -/
section AXT1
theorem ax_ex_up (e0 mo : Nat) : ∀ (n d y : Nat) (fr : FRM) (σ : SG) (x : Res × SG), ax_ex e0 mo n d y fr σ = some x → sgZ σ ≤ sgZ x.2 ∧ sgU σ ≤ sgU x.2 := by
  intro n
  induction n with
  | zero => intro d y fr σ x h; cases h
  | succ n ih =>
    intro d y fr σ x h
    rw [ax_ex] at h
    cases hm : (ax_at e0 mo y fr σ).bind ax_pick with
    | none => rw [hm] at h; cases h
    | some sr =>
      have hup : ax_up fr.2.1 σ sr := by
        unfold ax_at at hm
        cases hc : ax_code y fr.1 with
        | none => rw [hc] at hm; cases hm
        | some en =>
          rw [hc] at hm
          exact ax_all_pick (ax_sem_up e0 mo en fr.2.1 fr.2.2 σ) hm
      rw [hm] at h
      rcases sr with ⟨fr', σ'⟩ | ⟨y', as, fr', σ'⟩ | ⟨v, σ'⟩ | ⟨E, σ'⟩
      · have h1 := ih _ _ _ _ _ h
        exact ⟨Nat.le_trans hup.1 h1.1, Nat.le_trans hup.2.1 h1.2⟩
      · obtain ⟨rfl, -⟩ := hup
        cases d with
        | zero => cases h
        | succ d' =>
          dsimp only at h
          cases hc : ax_ex e0 mo n d' y' (0, ax_entry y' as, []) σ' with
          | none => rw [hc] at h; cases h
          | some r =>
            have hc1 := ih _ _ _ _ _ hc
            rw [hc] at h
            rcases r with ⟨v | E, σ2⟩
            · have h1 := ih _ _ _ _ _ h
              exact ⟨Nat.le_trans hc1.1 h1.1, Nat.le_trans hc1.2 h1.2⟩
            · dsimp only at h
              cases hh : ax_h y fr.1 E with
              | none => rw [hh] at h; cases h; exact hc1
              | some w => rw [hh] at h; cases h; exact hc1
      · obtain rfl : σ' = σ := hup
        cases h
        exact ⟨Nat.le_refl _, Nat.le_refl _⟩
      · obtain rfl : σ' = thrC σ := hup
        dsimp only at h
        cases q : Nat.ble 6 d with
        | false => rw [q] at h; cases h
        | true =>
          rw [q] at h
          cases h
          exact ⟨Nat.le_add_right _ _, Nat.le_add_right _ _⟩
/-- the exception that a handler's class number names -/
def ax_hE (t : Nat) : Nat := bif Nat.beq t 21 then 0 else bif Nat.beq t 14 then 1 else bif Nat.beq t 16 then 2 else 3
theorem ax_hEl {t : Nat} (h : ax_hE t < 3) : t ≠ 0 ∧ ax_gw (.classLink "PipelineRunnerLaw" t (ax_xn (ax_hE t))) := by
  unfold ax_hE at h ⊢
  cases q1 : Nat.beq t 21 with
  | true => obtain rfl := ax_beq q1; exact ⟨by decide, ⟨ax_t2 (List.mem_of_getElem? (i := 88) rfl), rfl⟩⟩
  | false =>
    cases q2 : Nat.beq t 14 with
    | true => obtain rfl := ax_beq q2; exact ⟨by decide, ⟨ax_t1 (List.mem_of_getElem? (i := 104) rfl), rfl⟩⟩
    | false =>
      cases q3 : Nat.beq t 16 with
      | true => obtain rfl := ax_beq q3; exact ⟨by decide, ⟨ax_t1 (List.mem_of_getElem? (i := 105) rfl), rfl⟩⟩
      | false => rw [q1, q2, q3] at h; exact absurd h (by decide)
def ax_cv (z : Nat × Nat × Nat × Nat) (pc : Nat) : Bool := Nat.ble z.1 pc && Nat.blt pc z.2.1
def ax_ps (E pc : Nat) (z : Nat × Nat × Nat × Nat) : Bool := !(ax_cv z pc) || (Nat.blt (ax_hE z.2.2.2) 3 && !(Nat.beq (ax_hE z.2.2.2) E))
def ax_hsp (y pc E : Nat) (w : Int32) : List (Nat × Nat × Nat × Nat) → Bool
  | [] => false
  | z :: r => (ax_cv z pc && Nat.beq (ax_hE z.2.2.2) E && ax_HR.any (fun r => Nat.beq r.1 y && Nat.beq r.2.2.1 z.2.2.1 && decide (r.2.2.2.2.2.1 = w))) || (ax_ps E pc z && ax_hsp y pc E w r)
def ax_hck (y pc E : Nat) : Bool := match ax_h y pc E with
  | none => (ax_hh y).all (ax_ps E pc)
  | some w => ax_hsp y pc E w (ax_hh y)
theorem ax_hcks : (List.range 24).all (fun i => (List.range 71).all (fun pc => (List.range 3).all (fun E => ax_hck (171 + i) pc E)) && Nat.ble (ax_len (171 + i)) 71 && Nat.beq (ax_own (171 + i)) 16) = true := by decide +kernel
theorem ax_hno : (List.range 196).all (fun y => (Nat.ble 171 y && Nat.blt y 195) || (ax_hh y).isEmpty) = true := by decide +kernel
theorem ax_hnr : ax_HR.all (fun r => Nat.ble 171 r.1 && Nat.blt r.1 195) = true := by decide +kernel
theorem ax_hy {y : Nat} (hy : y < 196) : (171 ≤ y ∧ y < 195) ∨ ax_hh y = [] := by
  have h := List.all_eq_true.mp ax_hno y (List.mem_range.mpr hy)
  simp only [Bool.or_eq_true, Bool.and_eq_true] at h
  rcases h with ⟨h1, h2⟩ | h
  · exact Or.inl ⟨Nat.le_of_ble_eq_true h1, Nat.blt_eq.mp h2⟩
  · exact Or.inr (List.isEmpty_iff.mp h)
theorem ax_h_in {y pc E : Nat} {w : Int32} (h : ax_h y pc E = some w) : 171 ≤ y ∧ y < 195 := by
  unfold ax_h at h
  cases q : ax_HR.find? (fun r => Nat.beq r.1 y && Nat.beq r.2.1 E && Nat.ble r.2.2.2.2.2.2.1 pc && Nat.blt pc r.2.2.2.2.2.2.2.1) with
  | none => rw [q] at h; cases h
  | some r =>
    have h1 := List.find?_some q
    simp only [Bool.and_eq_true] at h1
    have h2 := List.all_eq_true.mp ax_hnr r (List.mem_of_find?_eq_some q)
    simp only [Bool.and_eq_true] at h2
    have e := ax_beq h1.1.1.1
    rw [← e]
    exact ⟨Nat.le_of_ble_eq_true h2.1, Nat.blt_eq.mp h2.2⟩
theorem ax_hck_of {y pc E : Nat} (h1 : 171 ≤ y) (h2 : y < 195) (hp : pc < ax_len y) (hE : E < 3) : ax_hck y pc E = true ∧ ax_own y = 16 := by
  have h := List.all_eq_true.mp ax_hcks (y - 171) (List.mem_range.mpr (by omega))
  rw [show 171 + (y - 171) = y by omega] at h
  simp only [Bool.and_eq_true] at h
  obtain ⟨⟨h3, h4⟩, h5⟩ := h
  have h4 := Nat.le_of_ble_eq_true h4
  exact ⟨List.all_eq_true.mp (List.all_eq_true.mp h3 pc (List.mem_range.mpr (by omega))) E (List.mem_range.mpr hE), ax_beq h5⟩
/-- the class named by a handler is another, or the place isn't covered -/
def ax_pa (s : State) (args : Array Value) (own : String) (E pc : Nat) (z : ExceptionTableEntry) : Prop := covers z pc = false ∨ (z.catchType ≠ 0 ∧ ∃ nm : String, (Cond.classLink own z.catchType nm).before args s = true ∧ va_Nc (ax_xn E) nm s)
def ax_te (z : Nat × Nat × Nat × Nat) : ExceptionTableEntry := ⟨z.1, z.2.1, z.2.2.1, z.2.2.2⟩
theorem ax_cv_eq (z : Nat × Nat × Nat × Nat) (pc : Nat) : covers (ax_te z) pc = ax_cv z pc := by
  unfold covers ax_te ax_cv
  cases q1 : Nat.ble z.1 pc with
  | true =>
    have h1 := Nat.le_of_ble_eq_true q1
    cases q2 : Nat.blt pc z.2.1 with
    | true => have h2 := Nat.blt_eq.mp q2; simp [h1, h2]
    | false =>
      have h2 : ¬ pc < z.2.1 := fun h => by rw [Nat.blt_eq.mpr h] at q2; cases q2
      simp [h2]
  | false =>
    have h1 : ¬ z.1 ≤ pc := fun h => by rw [Nat.ble_eq_true_of_le h] at q1; cases q1
    simp [h1]
theorem ax_ps_pa {s : State} {args : Array Value} {E pc : Nat} {z : Nat × Nat × Nat × Nat} {B e0 mo : Nat} (hE : E < 3) (hts : ∀ w ∈ axW, w.before args s = true) (hG : ax_G B e0 mo s s.heap) (h : ax_ps E pc z = true) : ax_pa s args "PipelineRunnerLaw" E pc (ax_te z) := by
  unfold ax_ps at h
  simp only [Bool.or_eq_true, Bool.and_eq_true, Bool.not_eq_true'] at h
  rcases h with h | ⟨h1, h2⟩
  · exact Or.inl (by rw [ax_cv_eq]; exact h)
  · have h1 := Nat.blt_eq.mp h1
    have h2 := ax_bnq h2
    obtain ⟨g1, g2⟩ := ax_hEl h1
    exact Or.inr ⟨g1, _, hts _ (ax_in_W g2), hG.2.2.2.2.2.2.2.1 E _ hE h1 (Ne.symm h2)⟩
theorem ax_hsp_of {s : State} {args : Array Value} {y pc E : Nat} {w : Int32} {B e0 mo : Nat} (hE : E < 3) (hts : ∀ w ∈ axW, w.before args s = true) (hG : ax_G B e0 mo s s.heap) : ∀ (T : List (Nat × Nat × Nat × Nat)), ax_hsp y pc E w T = true → ∃ (pre : List (Nat × Nat × Nat × Nat)) (x : Nat × Nat × Nat × Nat) (suf : List (Nat × Nat × Nat × Nat)), T = pre ++ x :: suf ∧ (∀ z ∈ pre, ax_pa s args "PipelineRunnerLaw" E pc (ax_te z)) ∧ covers (ax_te x) pc = true ∧ ax_hE x.2.2.2 = E ∧ ∃ r ∈ ax_HR, r.1 = y ∧ r.2.2.1 = x.2.2.1 ∧ r.2.2.2.2.2.1 = w := by
  intro T
  induction T with
  | nil => intro h; cases h
  | cons z r ih =>
    intro h
    unfold ax_hsp at h
    simp only [Bool.or_eq_true, Bool.and_eq_true] at h
    rcases h with ⟨⟨h1, h2⟩, h3⟩ | ⟨h1, h2⟩
    · obtain ⟨q, hq, h4⟩ := List.any_eq_true.mp h3
      simp only [Bool.and_eq_true, decide_eq_true_eq] at h4
      exact ⟨[], z, r, rfl, fun _ h => absurd h List.not_mem_nil, by rw [ax_cv_eq]; exact h1, ax_beq h2, q, hq, ax_beq h4.1.1, ax_beq h4.1.2, h4.2⟩
    · obtain ⟨pre, x, suf, e1, e2, e3⟩ := ih h2
      refine ⟨z :: pre, x, suf, by rw [e1]; rfl, fun q hq => ?_, e3⟩
      rcases List.mem_cons.mp hq with rfl | hq
      · exact ax_ps_pa hE hts hG h1
      · exact e2 q hq
theorem ax_sl {as : List AV} (h : ∀ v ∈ as, ax_cat v = 1) : lg_sl (as.map avV) = as.map (fun v => Slot.val (avV v)) := by
  induction as with
  | nil => rfl
  | cons v as ih =>
    have h1 := h v List.mem_cons_self
    have h2 := ih (fun w hw => h w (List.mem_cons_of_mem _ hw))
    unfold lg_sl at h2 ⊢
    rw [List.map_cons, List.flatMap_cons, h2, if_neg (by rw [ax_cat_eq, h1]; decide)]
    rfl
/-- the arguments as locals -/
theorem ax_lo_entry {y : Nat} {as : List AV} (hl : as.length ≤ ax_L y) (h : ∀ v ∈ as, ax_cat v = 1) : ax_lo ((lg_sl (as.map avV) ++ List.replicate (ax_L y - (lg_sl (as.map avV)).length) Slot.unset).toArray) (ax_entry y as) := by
  have e := ax_sl h
  have hlen : (lg_sl (as.map avV)).length = as.length := by rw [e, List.length_map]
  obtain ⟨h1, h2, -⟩ := lv_entry (as.map avV) (n := ax_L y) (by rw [hlen]; exact hl)
  have key : ∀ (i : Nat) (v : AV), (ax_entry y as)[i]? = some v → v ≠ aU → as[i]? = some v := by
    intro i v hi hv
    unfold ax_entry at hi
    by_cases q : i < as.length
    · rw [List.getElem?_append_left q] at hi
      exact hi
    · rw [List.getElem?_append_right (by omega), List.getElem?_replicate] at hi
      split at hi
      · cases hi; exact absurd rfl hv
      · cases hi
  have key2 : ∀ (i : Nat) (v : AV), as[i]? = some v → ((lg_sl (as.map avV) ++ List.replicate (ax_L y - (lg_sl (as.map avV)).length) Slot.unset).toArray)[i]? = some (Slot.val (avV v)) := by
    intro i v hi
    have hlt : i < as.length := (List.getElem?_eq_some_iff.mp hi).1
    rw [List.getElem?_toArray, List.getElem?_append_left (by rw [hlen]; exact hlt), e, List.getElem?_map, hi]
    rfl
  refine ⟨?_, h2, fun i x hi => ?_, fun i r hi => ?_⟩
  · rw [h1]
    unfold ax_entry
    rw [List.length_append, List.length_replicate]
    omega
  · exact key2 i _ (key i _ hi (fun z => by cases z))
  · exact key2 i _ (key i _ hi (fun z => by cases z))
theorem ax_entry_len {y : Nat} {as : List AV} (hl : as.length ≤ ax_L y) : (ax_entry y as).length = ax_L y := by
  unfold ax_entry
  rw [List.length_append, List.length_replicate]
  omega
end AXT1
