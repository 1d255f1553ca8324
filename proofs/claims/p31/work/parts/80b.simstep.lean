/-! One step in the small heap is one in the large heap. -/
section AXSN
section
variable {e0 ms mo : Nat} {φ : Nat → Nat} {σ τ : SG} {L st : List AV} {sr : SR} {nx a b f t n : Nat}
theorem st_ld (h : ss_H e0 ms mo φ σ τ) (hL : ss_l (sgZ σ) L) (hst : ss_l (sgZ σ) st) (hs : (ax_ld nx a L st σ).bind ax_pick = some sr) : ss_Q e0 ms mo φ σ τ sr (ax_ld nx a (L.map (ss_m φ)) (st.map (ss_m φ)) τ) := by
  unfold ax_ld at hs
  split at hs
  · rename_i x hx
    obtain rfl := ax_pick_go hs
    have e : (L.map (ss_m φ))[a]? = some (aI x) := by rw [List.getElem?_map, hx]; rfl
    unfold ax_ld
    rw [e]
    exact ss_go (st' := aI x :: st) h hL (ss_cons trivial hst)
  · cases hs
theorem st_lda (h : ss_H e0 ms mo φ σ τ) (hL : ss_l (sgZ σ) L) (hst : ss_l (sgZ σ) st) (hs : (ax_lda nx a L st σ).bind ax_pick = some sr) : ss_Q e0 ms mo φ σ τ sr (ax_lda nx a (L.map (ss_m φ)) (st.map (ss_m φ)) τ) := by
  unfold ax_lda at hs
  split at hs
  · rename_i x hx
    obtain rfl := ax_pick_go hs
    have e : (L.map (ss_m φ))[a]? = some (aR (φ x)) := by rw [List.getElem?_map, hx]; rfl
    unfold ax_lda
    rw [e]
    exact ss_go (st' := aR x :: st) h hL (ss_cons (hL _ (List.mem_of_getElem? hx)) hst)
  · cases hs
theorem st_sto (h : ss_H e0 ms mo φ σ τ) (hL : ss_l (sgZ σ) L) (hst : ss_l (sgZ σ) st) (hs : (ax_sto nx a L st σ).bind ax_pick = some sr) : ss_Q e0 ms mo φ σ τ sr (ax_sto nx a (L.map (ss_m φ)) (st.map (ss_m φ)) τ) := by
  unfold ax_sto at hs
  split at hs
  · rename_i x st'
    cases q : Nat.blt a L.length with
    | false => rw [q] at hs; cases hs
    | true =>
      rw [q] at hs
      obtain rfl := ax_pick_go hs
      show ss_Q e0 ms mo φ σ τ _ (bif Nat.blt a (L.map (ss_m φ)).length then ax_go nx ((L.map (ss_m φ)).set a (ss_m φ (aI x))) (st'.map (ss_m φ)) τ else none)
      rw [List.length_map, q, ← List.map_set]
      exact ss_go h (ss_set trivial hL) (ss_tl hst)
  · cases hs
theorem st_stoa (h : ss_H e0 ms mo φ σ τ) (hL : ss_l (sgZ σ) L) (hst : ss_l (sgZ σ) st) (hs : (ax_stoa nx a L st σ).bind ax_pick = some sr) : ss_Q e0 ms mo φ σ τ sr (ax_stoa nx a (L.map (ss_m φ)) (st.map (ss_m φ)) τ) := by
  unfold ax_stoa at hs
  split at hs
  · rename_i x st'
    cases q : Nat.blt a L.length with
    | false => rw [q] at hs; cases hs
    | true =>
      rw [q] at hs
      obtain rfl := ax_pick_go hs
      show ss_Q e0 ms mo φ σ τ _ (bif Nat.blt a (L.map (ss_m φ)).length then ax_go nx ((L.map (ss_m φ)).set a (ss_m φ (aR x))) (st'.map (ss_m φ)) τ else none)
      rw [List.length_map, q, ← List.map_set]
      exact ss_go h (ss_set (ss_hd hst) hL) (ss_tl hst)
  · cases hs
theorem st_inc {v : Int32} (h : ss_H e0 ms mo φ σ τ) (hL : ss_l (sgZ σ) L) (hst : ss_l (sgZ σ) st) (hs : (ax_inc nx a v L st σ).bind ax_pick = some sr) : ss_Q e0 ms mo φ σ τ sr (ax_inc nx a v (L.map (ss_m φ)) (st.map (ss_m φ)) τ) := by
  unfold ax_inc at hs
  split at hs
  · rename_i x hx
    obtain rfl := ax_pick_go hs
    have e : (L.map (ss_m φ))[a]? = some (aI x) := by rw [List.getElem?_map, hx]; rfl
    unfold ax_inc
    rw [e]
    show ss_Q e0 ms mo φ σ τ _ (some (.inl (.inl ((nx, (L.map (ss_m φ)).set a (ss_m φ (aI (x + v))), st.map (ss_m φ)), τ))))
    rw [← List.map_set]
    exact ss_go h (ss_set trivial hL) hst
  · cases hs
theorem st_bin {g : Int32 → Int32 → Int32} (h : ss_H e0 ms mo φ σ τ) (hL : ss_l (sgZ σ) L) (hst : ss_l (sgZ σ) st) (hs : (ax_bin g nx L st σ).bind ax_pick = some sr) : ss_Q e0 ms mo φ σ τ sr (ax_bin g nx (L.map (ss_m φ)) (st.map (ss_m φ)) τ) := by
  unfold ax_bin at hs
  split at hs
  · rename_i y x st'
    obtain rfl := ax_pick_go hs
    exact ss_go (st' := aI (g x y) :: st') h hL (ss_cons trivial (ss_tl (ss_tl hst)))
  · cases hs
theorem st_dv {g : Int32 → Int32 → Int32} (h : ss_H e0 ms mo φ σ τ) (hL : ss_l (sgZ σ) L) (hst : ss_l (sgZ σ) st) (hs : (ax_dv g nx L st σ).bind ax_pick = some sr) : ss_Q e0 ms mo φ σ τ sr (ax_dv g nx (L.map (ss_m φ)) (st.map (ss_m φ)) τ) := by
  unfold ax_dv at hs
  split at hs
  · rename_i y x st'
    obtain ⟨hp, rfl⟩ := ax_pick_gd hs
    exact (ss_go (st' := aI (g x y) :: st') h hL (ss_cons trivial (ss_tl (ss_tl hst)))).gd hp
  · cases hs
theorem ss_wt (φ : Nat → Nat) (l : List AV) : ax_wt (l.map (ss_m φ)) = ax_wt l := by
  induction l with
  | nil => rfl
  | cons v l ih =>
    have e : ax_cat (ss_m φ v) = ax_cat v := by
      rcases v with (v | v) | (v | v) <;> rfl
    show ax_cat (ss_m φ v) + ax_wt (l.map (ss_m φ)) = ax_cat v + ax_wt l
    rw [e, ih]
theorem ss_cat (φ : Nat → Nat) (v : AV) : ax_cat (ss_m φ v) = ax_cat v := by
  rcases v with (v | v) | (v | v) <;> rfl
theorem st_mm {g : Int32 → Int32 → Int32} (h : ss_H e0 ms mo φ σ τ) (hL : ss_l (sgZ σ) L) (hst : ss_l (sgZ σ) st) (hs : (ax_mm g nx L st σ).bind ax_pick = some sr) : ss_Q e0 ms mo φ σ τ sr (ax_mm g nx (L.map (ss_m φ)) (st.map (ss_m φ)) τ) := by
  unfold ax_mm at hs
  split at hs
  · rename_i y x st'
    obtain ⟨hp, rfl⟩ := ax_pick_gd hs
    exact (ss_go (st' := aI (g x y) :: st') h hL (ss_cons trivial (ss_tl (ss_tl hst)))).gd (show ax_wt (st'.map (ss_m φ)) ≤ 8 by rw [ss_wt]; exact hp)
  · cases hs
theorem st_binJ {g : Int64 → Int64 → Int64} (h : ss_H e0 ms mo φ σ τ) (hL : ss_l (sgZ σ) L) (hst : ss_l (sgZ σ) st) (hs : (ax_binJ g nx L st σ).bind ax_pick = some sr) : ss_Q e0 ms mo φ σ τ sr (ax_binJ g nx (L.map (ss_m φ)) (st.map (ss_m φ)) τ) := by
  unfold ax_binJ at hs
  split at hs
  · rename_i y x st'
    obtain rfl := ax_pick_go hs
    exact ss_go (st' := aJ (g x y) :: st') h hL (ss_cons trivial (ss_tl (ss_tl hst)))
  · cases hs
theorem st_shJ {g : Int64 → Int32 → Int64} (h : ss_H e0 ms mo φ σ τ) (hL : ss_l (sgZ σ) L) (hst : ss_l (sgZ σ) st) (hs : (ax_shJ g nx L st σ).bind ax_pick = some sr) : ss_Q e0 ms mo φ σ τ sr (ax_shJ g nx (L.map (ss_m φ)) (st.map (ss_m φ)) τ) := by
  unfold ax_shJ at hs
  split at hs
  · rename_i y x st'
    obtain rfl := ax_pick_go hs
    exact ss_go (st' := aJ (g x y) :: st') h hL (ss_cons trivial (ss_tl (ss_tl hst)))
  · cases hs
theorem st_if {g : Int32 → Prop} (h : ss_H e0 ms mo φ σ τ) (hL : ss_l (sgZ σ) L) (hst : ss_l (sgZ σ) st) (hs : (ax_if g t n L st σ).bind ax_pick = some sr) : ss_Q e0 ms mo φ σ τ sr (ax_if g t n (L.map (ss_m φ)) (st.map (ss_m φ)) τ) := by
  unfold ax_if at hs
  split at hs
  · rename_i x st'
    rcases ax_pick_br hs with ⟨hp, rfl⟩ | ⟨hp, rfl⟩
    · exact (ss_go (st' := st') h hL (ss_tl hst)).br1 hp
    · exact (ss_go (st' := st') h hL (ss_tl hst)).br2 hp
  · cases hs
theorem st_if2 {g : Int32 → Int32 → Prop} (h : ss_H e0 ms mo φ σ τ) (hL : ss_l (sgZ σ) L) (hst : ss_l (sgZ σ) st) (hs : (ax_if2 g t n L st σ).bind ax_pick = some sr) : ss_Q e0 ms mo φ σ τ sr (ax_if2 g t n (L.map (ss_m φ)) (st.map (ss_m φ)) τ) := by
  unfold ax_if2 at hs
  split at hs
  · rename_i y x st'
    rcases ax_pick_br hs with ⟨hp, rfl⟩ | ⟨hp, rfl⟩
    · exact (ss_go (st' := st') h hL (ss_tl (ss_tl hst))).br1 hp
    · exact (ss_go (st' := st') h hL (ss_tl (ss_tl hst))).br2 hp
  · cases hs
theorem st_nul (h : ss_H e0 ms mo φ σ τ) (hL : ss_l (sgZ σ) L) (hst : ss_l (sgZ σ) st) (hs : (ax_nul t n L st σ).bind ax_pick = some sr) : ss_Q e0 ms mo φ σ τ sr (ax_nul t n (L.map (ss_m φ)) (st.map (ss_m φ)) τ) := by
  unfold ax_nul at hs
  split at hs
  · rename_i r st'
    have hr : r < sgZ σ := ss_hd hst
    rcases ax_pick_br hs with ⟨hp, rfl⟩ | ⟨hp, rfl⟩
    · exact (ss_go (st' := st') h hL (ss_tl hst)).br1 ((ss_nz h hr).mpr hp)
    · exact (ss_go (st' := st') h hL (ss_tl hst)).br2 (fun z => hp ((ss_nz h hr).mp z))
  · cases hs
theorem st_acmp (h : ss_H e0 ms mo φ σ τ) (hL : ss_l (sgZ σ) L) (hst : ss_l (sgZ σ) st) (hs : (ax_acmp t L st σ).bind ax_pick = some sr) : ss_Q e0 ms mo φ σ τ sr (ax_acmp t (L.map (ss_m φ)) (st.map (ss_m φ)) τ) := by
  unfold ax_acmp at hs
  split at hs
  · rename_i y x st'
    obtain ⟨hp, rfl⟩ := ax_pick_gd hs
    exact (ss_go (st' := st') h hL (ss_tl (ss_tl hst))).gd (congrArg φ hp)
  · cases hs
theorem st_get {k i : Nat} (h : ss_H e0 ms mo φ σ τ) (hL : ss_l (sgZ σ) L) (hst : ss_l (sgZ σ) st) (hk3 : k < 30) (hs : (ax_get nx k i f L st σ).bind ax_pick = some sr) : ss_Q e0 ms mo φ σ τ sr (ax_get nx k i f (L.map (ss_m φ)) (st.map (ss_m φ)) τ) := by
  unfold ax_get at hs
  split at hs
  · rename_i r st'
    have hr : r < sgZ σ := ss_hd hst
    obtain ⟨hp, rfl⟩ := ax_pick_gd hs
    obtain ⟨-, a2, a3⟩ := ss_kd h hr hp hk3
    have hp2 : (sgK τ (φ r)).1 = k := by rw [a2]; exact hp
    show ss_Q e0 ms mo φ σ τ _ (some (.inr (.inl ((sgK τ (φ r)).1 = k, .inl ((nx, L.map (ss_m φ), (bif Nat.beq f 1 then aR (sgR τ k i (φ r)) else aI (sgI τ k i (φ r))) :: st'.map (ss_m φ)), τ)))))
    refine ss_Q.gd hp2 ?_
    rw [(a3 i).1, (a3 i).2.2]
    cases Nat.beq f 1
    · exact ss_go (st' := aI (sgI σ k i r) :: st') h hL (ss_cons trivial (ss_tl hst))
    · exact ss_go (st' := aR (sgR σ k i r) :: st') h hL (ss_cons (h.2.2.2.2.2.1 k i r) (ss_tl hst))
  · cases hs
theorem ss_go2 {φ' : Nat → Nat} {σ1 τ1 : SG} {L' st' : List AV} (h : ss_H e0 ms mo φ' σ1 τ1 ∧ ss_T e0 φ σ τ φ' σ1 τ1) (hL : ss_l (sgZ σ1) L') (hs : ss_l (sgZ σ1) st') : ss_Q e0 ms mo φ σ τ (.inl ((nx, L', st'), σ1)) (some (.inl (.inl ((nx, L'.map (ss_m φ'), st'.map (ss_m φ')), τ1)))) :=
  ⟨φ', τ1, rfl, h.1, h.2, hL, hs⟩
theorem st_put {k i : Nat} (h : ss_H e0 ms mo φ σ τ) (hL : ss_l (sgZ σ) L) (hst : ss_l (sgZ σ) st) (hk3 : k < 20) (hs : (ax_put nx k i f L st σ).bind ax_pick = some sr) : ss_Q e0 ms mo φ σ τ sr (ax_put nx k i f (L.map (ss_m φ)) (st.map (ss_m φ)) τ) := by
  unfold ax_put at hs ⊢
  split at hs
  · split at hs
    · rename_i x r st'
      have hr : r < sgZ σ := ss_hd (ss_tl hst)
      obtain ⟨hp, rfl⟩ := ax_pick_gd hs
      have a2 := (ss_kd h hr hp (by omega)).2.1
      exact (ss_go2 (st' := st') (ss_wI (i := i) (x := x) h hr hp (by omega) (ss_own h (Or.inl (by omega)))) hL (ss_tl (ss_tl hst))).gd (show (sgK τ (φ r)).1 = k by rw [a2]; exact hp)
    · cases hs
  · split at hs
    · rename_i x r st'
      have hx : x < sgZ σ := ss_hd hst
      have hr : r < sgZ σ := ss_hd (ss_tl hst)
      obtain ⟨hp, rfl⟩ := ax_pick_gd hs
      have a2 := (ss_kd h hr hp (by omega)).2.1
      exact (ss_go2 (st' := st') (ss_wR (i := i) h hr hx hp (by omega) (ss_own h (Or.inl (by omega)))) hL (ss_tl (ss_tl hst))).gd (show (sgK τ (φ r)).1 = k by rw [a2]; exact hp)
    · cases hs
  · split at hs
    · rename_i x r st'
      have hr : r < sgZ σ := ss_hd (ss_tl hst)
      obtain ⟨hp, rfl⟩ := ax_pick_gd hs
      have a2 := (ss_kd h hr hp.2 (by omega)).2.1
      exact (ss_go2 (st' := st') (ss_wI (i := i) (x := x) h hr hp.2 (by omega) (ss_own h (Or.inl (by omega)))) hL (ss_tl (ss_tl hst))).gd (show (x = 0 ∨ x = 1) ∧ (sgK τ (φ r)).1 = k from ⟨hp.1, by rw [a2]; exact hp.2⟩)
    · cases hs
theorem st_ald {k : Nat} (h : ss_H e0 ms mo φ σ τ) (hL : ss_l (sgZ σ) L) (hst : ss_l (sgZ σ) st) (hk3 : k < 30) (hs : (ax_ald nx k L st σ).bind ax_pick = some sr) : ss_Q e0 ms mo φ σ τ sr (ax_ald nx k (L.map (ss_m φ)) (st.map (ss_m φ)) τ) := by
  unfold ax_ald at hs
  split at hs
  · rename_i i r st'
    have hr : r < sgZ σ := ss_hd (ss_tl hst)
    obtain ⟨hp, rfl⟩ := ax_pick_gd hs
    have a3 := (ss_kd h hr hp.1 hk3).2.2
    show ss_Q e0 ms mo φ σ τ _ (some (.inr (.inl (ax_in τ k (φ r) i, .inl ((nx, L.map (ss_m φ), aI (sgI τ k i.toNatClampNeg (φ r)) :: st'.map (ss_m φ)), τ)))))
    refine ss_Q.gd (ss_in h hr hk3 hp) ?_
    rw [(a3 _).1]
    exact ss_go (st' := aI (sgI σ k i.toNatClampNeg r) :: st') h hL (ss_cons trivial (ss_tl (ss_tl hst)))
  · cases hs
theorem st_aldJ {k : Nat} (h : ss_H e0 ms mo φ σ τ) (hL : ss_l (sgZ σ) L) (hst : ss_l (sgZ σ) st) (hk3 : k < 30) (hs : (ax_aldJ nx k L st σ).bind ax_pick = some sr) : ss_Q e0 ms mo φ σ τ sr (ax_aldJ nx k (L.map (ss_m φ)) (st.map (ss_m φ)) τ) := by
  unfold ax_aldJ at hs
  split at hs
  · rename_i i r st'
    have hr : r < sgZ σ := ss_hd (ss_tl hst)
    obtain ⟨hp, rfl⟩ := ax_pick_gd hs
    have a3 := (ss_kd h hr hp.1 hk3).2.2
    show ss_Q e0 ms mo φ σ τ _ (some (.inr (.inl (ax_in τ k (φ r) i, .inl ((nx, L.map (ss_m φ), aJ (sgJ τ k i.toNatClampNeg (φ r)) :: st'.map (ss_m φ)), τ)))))
    refine ss_Q.gd (ss_in h hr hk3 hp) ?_
    rw [(a3 _).2.1]
    exact ss_go (st' := aJ (sgJ σ k i.toNatClampNeg r) :: st') h hL (ss_cons trivial (ss_tl (ss_tl hst)))
  · cases hs
theorem st_aldR {k : Nat} (h : ss_H e0 ms mo φ σ τ) (hL : ss_l (sgZ σ) L) (hst : ss_l (sgZ σ) st) (hk3 : k < 30) (hs : (ax_aldR nx k L st σ).bind ax_pick = some sr) : ss_Q e0 ms mo φ σ τ sr (ax_aldR nx k (L.map (ss_m φ)) (st.map (ss_m φ)) τ) := by
  unfold ax_aldR at hs
  split at hs
  · rename_i i r st'
    have hr : r < sgZ σ := ss_hd (ss_tl hst)
    obtain ⟨hp, rfl⟩ := ax_pick_gd hs
    have a3 := (ss_kd h hr hp.1 hk3).2.2
    show ss_Q e0 ms mo φ σ τ _ (some (.inr (.inl (ax_in τ k (φ r) i, .inl ((nx, L.map (ss_m φ), aR (sgR τ k i.toNatClampNeg (φ r)) :: st'.map (ss_m φ)), τ)))))
    refine ss_Q.gd (ss_in h hr hk3 hp) ?_
    rw [(a3 _).2.2]
    exact ss_go (st' := aR (sgR σ k i.toNatClampNeg r) :: st') h hL (ss_cons (h.2.2.2.2.2.1 _ _ _) (ss_tl (ss_tl hst)))
  · cases hs
theorem ss_len0 {k r : Nat} {i : Int32} (h : ax_in σ k r i) : (sgK σ r).2 ≠ 0 := fun z => by
  obtain ⟨-, h2⟩ := h
  unfold vp_in at h2
  exact h2 (Or.inr (by omega))
theorem st_ast (h : ss_H e0 ms mo φ σ τ) (hL : ss_l (sgZ σ) L) (hst : ss_l (sgZ σ) st) (hs : (ax_ast nx L st σ).bind ax_pick = some sr) : ss_Q e0 ms mo φ σ τ sr (ax_ast nx (L.map (ss_m φ)) (st.map (ss_m φ)) τ) := by
  unfold ax_ast at hs
  split at hs
  · rename_i x i r st'
    have hr : r < sgZ σ := ss_hd (ss_tl (ss_tl hst))
    obtain ⟨hp, rfl⟩ := ax_pick_gd hs
    exact (ss_go2 (st' := st') (ss_wI (i := i.toNatClampNeg) (x := x) h hr hp.1 (by decide) (ss_own h (Or.inr (ss_len0 hp)))) hL (ss_tl (ss_tl (ss_tl hst)))).gd (ss_in h hr (by decide) hp)
  · cases hs
theorem st_astZ (h : ss_H e0 ms mo φ σ τ) (hL : ss_l (sgZ σ) L) (hst : ss_l (sgZ σ) st) (hs : (ax_astZ nx L st σ).bind ax_pick = some sr) : ss_Q e0 ms mo φ σ τ sr (ax_astZ nx (L.map (ss_m φ)) (st.map (ss_m φ)) τ) := by
  unfold ax_astZ at hs
  split at hs
  · rename_i x i r st'
    have hr : r < sgZ σ := ss_hd (ss_tl (ss_tl hst))
    obtain ⟨⟨hb, hp⟩, rfl⟩ := ax_pick_gd hs
    exact (ss_go2 (st' := st') (ss_wI (i := i.toNatClampNeg) (x := x) h hr hp.1 (by decide) (ss_own h (Or.inr (ss_len0 hp)))) hL (ss_tl (ss_tl (ss_tl hst)))).gd (show (x = 0 ∨ x = 1) ∧ ax_in τ 21 (φ r) i from ⟨hb, ss_in h hr (by decide) hp⟩)
  · cases hs
theorem st_astJ (h : ss_H e0 ms mo φ σ τ) (hL : ss_l (sgZ σ) L) (hst : ss_l (sgZ σ) st) (hs : (ax_astJ nx L st σ).bind ax_pick = some sr) : ss_Q e0 ms mo φ σ τ sr (ax_astJ nx (L.map (ss_m φ)) (st.map (ss_m φ)) τ) := by
  unfold ax_astJ at hs
  split at hs
  · rename_i x i r st'
    have hr : r < sgZ σ := ss_hd (ss_tl (ss_tl hst))
    obtain ⟨hp, rfl⟩ := ax_pick_gd hs
    exact (ss_go2 (st' := st') (ss_wJ (i := i.toNatClampNeg) (x := x) h hr hp.1 (by decide) (ss_own h (Or.inr (ss_len0 hp)))) hL (ss_tl (ss_tl (ss_tl hst)))).gd (ss_in h hr (by decide) hp)
  · cases hs
theorem ss_fit (h : ss_H e0 ms mo φ σ τ) {k v : Nat} (hv : v < sgZ σ) (hf : ax_fitR σ k v) : ax_fitR τ k (φ v) := by
  rcases hf with hf | ⟨h1, h2⟩ | hf
  · exact Or.inl ((ss_nz h hv).mpr hf)
  · exact Or.inr (Or.inl ⟨h1, by rw [(ss_kd h hv rfl (by omega)).2.1]; exact h2⟩)
  · exact Or.inr (Or.inr (by rw [(ss_kd h hv rfl (by omega)).2.1]; exact hf))
theorem st_astR {k : Nat} (h : ss_H e0 ms mo φ σ τ) (hL : ss_l (sgZ σ) L) (hst : ss_l (sgZ σ) st) (hk3 : k < 30) (hs : (ax_astR nx k L st σ).bind ax_pick = some sr) : ss_Q e0 ms mo φ σ τ sr (ax_astR nx k (L.map (ss_m φ)) (st.map (ss_m φ)) τ) := by
  unfold ax_astR at hs
  split at hs
  · rename_i x i r st'
    have hx : x < sgZ σ := ss_hd hst
    have hr : r < sgZ σ := ss_hd (ss_tl (ss_tl hst))
    obtain ⟨⟨hf, hp⟩, rfl⟩ := ax_pick_gd hs
    exact (ss_go2 (st' := st') (ss_wR (i := i.toNatClampNeg) h hr hx hp.1 hk3 (ss_own h (Or.inr (ss_len0 hp)))) hL (ss_tl (ss_tl (ss_tl hst)))).gd (show ax_fitR τ k (φ x) ∧ ax_in τ k (φ r) i from ⟨ss_fit h hx hf, ss_in h hr hk3 hp⟩)
  · cases hs
theorem st_alen (h : ss_H e0 ms mo φ σ τ) (hL : ss_l (sgZ σ) L) (hst : ss_l (sgZ σ) st) (hs : (ax_alen nx L st σ).bind ax_pick = some sr) : ss_Q e0 ms mo φ σ τ sr (ax_alen nx (L.map (ss_m φ)) (st.map (ss_m φ)) τ) := by
  unfold ax_alen at hs
  split at hs
  · rename_i r st'
    have hr : r < sgZ σ := ss_hd hst
    obtain ⟨hp, rfl⟩ := ax_pick_gd hs
    have a2 := (ss_kd h hr rfl (by omega)).2.1
    show ss_Q e0 ms mo φ σ τ _ (some (.inr (.inl (20 ≤ (sgK τ (φ r)).1 ∧ (sgK τ (φ r)).1 < 26, .inl ((nx, L.map (ss_m φ), aI (Int32.ofNat (sgK τ (φ r)).2) :: st'.map (ss_m φ)), τ)))))
    rw [a2]
    exact (ss_go (st' := aI (Int32.ofNat (sgK σ r).2) :: st') h hL (ss_cons trivial (ss_tl hst))).gd hp
  · cases hs
theorem ss_new {k : Nat} {st' : List AV} (h : ss_H e0 ms mo φ σ τ) (hL : ss_l (sgZ σ) L) (hst : ss_l (sgZ σ) st') : ss_Q e0 ms mo φ σ τ (.inl ((nx, L, aR (sgZ σ) :: st'), mkC σ k n)) (some (.inl (.inl ((nx, L.map (ss_m φ), aR (sgZ τ) :: st'.map (ss_m φ)), mkC τ k n)))) := by
  have g := ss_go2 (nx := nx) (L' := L) (st' := aR (sgZ σ) :: st') (ss_mk h k n) (hL.le (Nat.le_succ _)) (ss_cons (Nat.lt_succ_self _) (hst.le (Nat.le_succ _)))
  have e1 : L.map (ss_m (ss_up φ (sgZ σ) (sgZ τ))) = L.map (ss_m φ) := ss_l_up (fun r hr => ss_up_lt hr) hL
  have e2 : (aR (sgZ σ) :: st').map (ss_m (ss_up φ (sgZ σ) (sgZ τ))) = aR (sgZ τ) :: st'.map (ss_m φ) := by
    show aR (ss_up φ (sgZ σ) (sgZ τ) (sgZ σ)) :: st'.map (ss_m (ss_up φ (sgZ σ) (sgZ τ))) = _
    rw [ss_up_at, ss_l_up (fun r hr => ss_up_lt hr) hst]
  rw [e1, e2] at g
  exact g
theorem st_mka {k : Nat} (h : ss_H e0 ms mo φ σ τ) (hL : ss_l (sgZ σ) L) (hst : ss_l (sgZ σ) st) (hs : (ax_mka nx k L st σ).bind ax_pick = some sr) : ss_Q e0 ms mo φ σ τ sr (ax_mka nx k (L.map (ss_m φ)) (st.map (ss_m φ)) τ) := by
  unfold ax_mka at hs
  split at hs
  · rename_i m st'
    obtain ⟨hp, rfl⟩ := ax_pick_gd hs
    exact (ss_new h hL (ss_tl hst)).gd hp
  · cases hs
theorem st_cast {k : Nat} (h : ss_H e0 ms mo φ σ τ) (hL : ss_l (sgZ σ) L) (hst : ss_l (sgZ σ) st) (hk3 : k < 30) (hs : (ax_cast nx k L st σ).bind ax_pick = some sr) : ss_Q e0 ms mo φ σ τ sr (ax_cast nx k (L.map (ss_m φ)) (st.map (ss_m φ)) τ) := by
  unfold ax_cast at hs
  split at hs
  · rename_i r st'
    have hr : r < sgZ σ := ss_hd hst
    obtain ⟨hp, rfl⟩ := ax_pick_gd hs
    refine (ss_go (st' := aR r :: st') h hL (ss_cons hr (ss_tl hst))).gd (show φ r = 0 ∨ (sgK τ (φ r)).1 = k from ?_)
    rcases hp with hp | hp
    · exact Or.inl ((ss_nz h hr).mpr hp)
    · exact Or.inr (by rw [(ss_kd h hr hp hk3).2.1]; exact hp)
  · cases hs
theorem st_copy (h : ss_H e0 ms mo φ σ τ) (hL : ss_l (sgZ σ) L) (hst : ss_l (sgZ σ) st) (hs : (ax_copy nx L st σ).bind ax_pick = some sr) : ss_Q e0 ms mo φ σ τ sr (ax_copy nx (L.map (ss_m φ)) (st.map (ss_m φ)) τ) := by
  unfold ax_copy at hs
  split at hs
  · rename_i n dp dst sp src st'
    have hd : dst < sgZ σ := ss_hd (ss_tl (ss_tl hst))
    have hr : src < sgZ σ := ss_hd (ss_tl (ss_tl (ss_tl (ss_tl hst))))
    obtain ⟨⟨p1, p2, p3, p4, p5, p6, p7, p8, p9, p10, p11⟩, rfl⟩ := ax_pick_gd hs
    obtain ⟨-, s2, s3⟩ := ss_kd h hr p2 (by decide)
    obtain ⟨-, d2, d3⟩ := ss_kd h hd p3 (by decide)
    refine (ss_go2 (st' := st') (ss_wC (sp := sp.toNatClampNeg) (dp := dp.toNatClampNeg) (n := n.toNatClampNeg) h hr hd p2 p3 (ss_own h (Or.inr (by omega)))) hL (ss_tl (ss_tl (ss_tl (ss_tl (ss_tl hst)))))).gd ?_
    refine ⟨by rw [ss_wt]; exact p1, by rw [s2]; exact p2, by rw [d2]; exact p3, p4, p5, p6, by rw [s2]; exact p7, by rw [d2]; exact p8, by rw [s2]; exact p9, by rw [d2]; exact p10, fun i hi => ?_⟩
    rw [(s3 _).2.2]
    exact ss_fit h (h.2.2.2.2.2.1 _ _ _) (p11 i hi)
  · cases hs
theorem st_call {y n k : Nat} (h : ss_H e0 ms mo φ σ τ) (hL : ss_l (sgZ σ) L) (hst : ss_l (sgZ σ) st) (hk3 : k = 0 → ax_ck y < 30) (hs : (ax_call nx y n k L st σ).bind ax_pick = some sr) : ss_Q e0 ms mo φ σ τ sr (ax_call nx y n k (L.map (ss_m φ)) (st.map (ss_m φ)) τ) := by
  have dr : ∀ j, ss_l (sgZ σ) (st.drop j) := fun j v hv => hst v (List.mem_of_mem_drop hv)
  have tk : ∀ j, ss_l (sgZ σ) (st.take j).reverse := fun j v hv => hst v (List.mem_of_mem_take (List.mem_reverse.mp hv))
  have e2 : ∀ j, (st.map (ss_m φ)).drop j = (st.drop j).map (ss_m φ) := fun j => (List.map_drop ..).symm
  have e3 : ∀ j, (st.map (ss_m φ)).take j = (st.take j).map (ss_m φ) := fun j => (List.map_take ..).symm
  have e4 : ((st.take n).map (ss_m φ)).all (fun v => Nat.beq (ax_cat v) 1) = (st.take n).all (fun v => Nat.beq (ax_cat v) 1) := by
    rw [List.all_map]
    congr 1
    funext v
    show Nat.beq (ax_cat (ss_m φ v)) 1 = _
    rw [ss_cat]
  have ec : (Nat.ble (n + (bif Nat.beq k 1 then 0 else 1)) (st.map (ss_m φ)).length && Nat.ble (ax_wt ((st.map (ss_m φ)).drop (n + (bif Nat.beq k 1 then 0 else 1)))) 8 && Nat.ble (n + (bif Nat.beq k 1 then 0 else 1)) (ax_L y) && ((st.map (ss_m φ)).take n).all (fun v => Nat.beq (ax_cat v) 1)) = (Nat.ble (n + (bif Nat.beq k 1 then 0 else 1)) st.length && Nat.ble (ax_wt (st.drop (n + (bif Nat.beq k 1 then 0 else 1)))) 8 && Nat.ble (n + (bif Nat.beq k 1 then 0 else 1)) (ax_L y) && (st.take n).all (fun v => Nat.beq (ax_cat v) 1)) := by
    rw [List.length_map, e2, ss_wt, e3, e4]
  unfold ax_call at hs ⊢
  rw [ec]
  revert hs
  generalize (Nat.ble (n + (bif Nat.beq k 1 then 0 else 1)) st.length && Nat.ble (ax_wt (st.drop (n + (bif Nat.beq k 1 then 0 else 1)))) 8 && Nat.ble (n + (bif Nat.beq k 1 then 0 else 1)) (ax_L y) && (st.take n).all (fun v => Nat.beq (ax_cat v) 1)) = z
  intro hs
  cases z
  · cases hs
  · simp only [cond_true] at hs ⊢
    split at hs
    · obtain rfl := ax_pick_go hs
      rw [e3, e2, ← List.map_reverse]
      exact ⟨φ, τ, rfl, h, ss_T.refl _ _ _ _, tk n, hL, dr n⟩
    · rename_i hk1
      split at hs
      · rename_i r rest hr
        have hd := dr n
        rw [hr] at hd
        have hr2 : r < sgZ σ := ss_hd hd
        obtain ⟨hp, rfl⟩ := ax_pick_gd hs
        have e5 : (st.map (ss_m φ)).drop n = aR (φ r) :: rest.map (ss_m φ) := by rw [e2, hr]; rfl
        rw [e3, e5, ← List.map_reverse]
        refine ss_Q.gd (s := .inr (.inl (y, (aR r :: (st.take n).reverse).map (ss_m φ), (nx, L.map (ss_m φ), rest.map (ss_m φ)), τ))) ?_ ⟨φ, τ, rfl, h, ss_T.refl _ _ _ _, ss_cons hr2 (tk n), hL, ss_tl hd⟩
        cases q : Nat.beq k 0 with
        | true =>
          rw [q] at hp
          have hp : (sgK σ r).1 = ax_ck y := hp
          show (sgK τ (φ r)).1 = ax_ck y
          rw [(ss_kd h hr2 hp (hk3 (ax_beq q))).2.1]
          exact hp
        | false =>
          rw [q] at hp
          have hp : 0 < r := hp
          show 0 < φ r
          exact Nat.pos_of_ne_zero fun z => by have := (ss_nz h hr2).mp z; omega
      · cases hs
end
end AXSN
