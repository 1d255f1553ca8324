/-! Instructions that read and write the heap. Printed by wip/whole/gen11.py. -/
section AXJ
theorem ax_beq {n m : Nat} (h : Nat.beq n m = true) : n = m := Nat.eq_of_beq_eq_true h
theorem ax_bnq {n m : Nat} (h : Nat.beq n m = false) : n ≠ m := fun q => by rw [q, Nat.beq_refl] at h; cases h
theorem ax_any {α : Type} {P : α → Prop} {l : List α} {f : α → Bool} (h : l.any f = true) (hp : ∀ q ∈ l, P q) : ∃ q, q ∈ l ∧ f q = true ∧ P q := by
  obtain ⟨q, h1, h2⟩ := List.any_eq_true.mp h
  exact ⟨q, h1, h2, hp q h1⟩
theorem ax_uin {k : Nat} (hk : k < 9) : ∀ w ∈ u_ws (ax_kn k) (ax_T k) (ax_N k), w ∈ axW := by
  intro w hw
  obtain ⟨i, hi, rfl⟩ := List.mem_map.mp hw
  exact ax_in_W ((ax_u k hk).1 i (List.mem_range.mp hi))
theorem ax_fvA (σ : SG) {k i f : Nat} (hf : f = ax_fk k i) (r : Nat) : avV (bif Nat.beq f 1 then aR (sgR σ k i r) else aI (sgI σ k i r)) = ax_fv σ k i r := by
  subst hf
  unfold ax_fv
  cases Nat.beq (ax_fk k i) 1 <;> rfl
/-- the four words of a field's link -/
theorem ax_lf {o j a b f : Nat} (h : ax_LF.any (fun q => Nat.beq q.1 o && Nat.beq q.2.1 j && Nat.beq q.2.2.1 a && Nat.beq q.2.2.2.1 b && Nat.beq q.2.2.2.2.1 f) = true) :
    ∃ ref : String, ax_gw (.fieldLink (ax_on o) j ref (ax_T a b).2.1 (ax_T a b).2.2.1) ∧ a < 9 ∧ b < ax_N a ∧ f = ax_fk a b ∧ (ref = (ax_T a b).1 ∨ (ref = "java/util/ArrayList" ∧ a = 8 ∧ b = 0)) := by
  obtain ⟨q, -, h2, h3⟩ := ax_any h ax_LF_w
  obtain ⟨q1, q2, q3, q4, q5, q6, q7⟩ := q
  simp only [Bool.and_eq_true] at h2
  obtain ⟨⟨⟨⟨e1, e2⟩, e3⟩, e4⟩, e5⟩ := h2
  have e1 := ax_beq e1
  have e2 := ax_beq e2
  have e3 := ax_beq e3
  have e4 := ax_beq e4
  have e5 := ax_beq e5
  subst e1; subst e2; subst e3; subst e4; subst e5
  exact ⟨ax_on q6, h3.1, h3.2.1, h3.2.2.1, h3.2.2.2.1, h3.2.2.2.2⟩
theorem ax_smw : ax_gw (.sameField "java/util/ArrayList" "java/util/AbstractList" "modCount" "I") := ⟨ax_t1 (List.mem_of_getElem? (i := 50) rfl), rfl⟩
section
variable {p : Program} {l : Launch} {e : Env} {R : Room} {s : State} {m : MethodId} {args : Array Value} {below : List Frame} {meth : Method} {c : Code} {H : Heap} {locs : List Loc} {cells slots : Nat} {Q : State → Prop}
variable {B e0 mo d y pc : Nat} {D : va_G} {σ : SG} {sr : SR} {L st : List AV} {ls : Array Slot} {nx a b f : Nat}
theorem ax_same {ref : String} {k i : Nat} (hC : ∀ w ∈ axW, w.before args s = true) (h : ref = (ax_T k i).1 ∨ (ref = "java/util/ArrayList" ∧ k = 8 ∧ i = 0)) : ∀ x, s.fieldFound? (ax_T k i).1 (ax_T k i).2.1 (ax_T k i).2.2.1 = some x → s.fieldFound? ref (ax_T k i).2.1 (ax_T k i).2.2.1 = some x := by
  intro x hx
  rcases h with rfl | ⟨rfl, rfl, rfl⟩
  · exact hx
  · exact u_same (hC _ (ax_in_W ax_smw)) x hx
theorem sj_get {j : Nat} (hi : ax_LF.any (fun q => Nat.beq q.1 (ax_own y) && Nat.beq q.2.1 j && Nat.beq q.2.2.1 a && Nat.beq q.2.2.2.1 b && Nat.beq q.2.2.2.2.1 f) = true) (hd : decode (ax_b y) pc = .ok (.getfield j, 3)) (hn : nx = pc + 3) (hs : (ax_get nx a b f L st σ).bind ax_pick = some sr) (hT : ax_Nx p l e R s m args below meth c Q B e0 mo d y pc D cells slots σ sr) (hC : ax_Cx p l R s m args meth c B e0 mo d y D) (hh : ax_hp B D σ s H) (hS : va_S (ax_GA B) s.heap H locs) (hlo : ax_lo ls L) : W p l e R s m args below meth c H locs cells slots Q (F0 m pc ls (st.map avV)) := by
  obtain ⟨hx, hb, hml, hown, hts, hnm, hK, hG, hB, hRf, hRl, hfl, htab, hlk⟩ := id hC
  
  subst hn
  unfold ax_get at hs
  split at hs
  · rename_i r st'
    obtain ⟨h0, rfl⟩ := ax_pick_gd hs
    obtain ⟨ref, g1, g2, g3, g4, g5⟩ := ax_lf hi
    obtain ⟨q, rfl, -, cell, q1, q2, q3, q4⟩ := hh.2.1 r (by rw [h0]; exact g2)
    rw [h0] at q2 q4
    obtain ⟨hKS, hfc, kC, hkC, hkind⟩ := hK.1 a _ (ax_clk a g2)
    obtain ⟨cf, kf, fi, fd, hfi, hsl⟩ := hKS b g3
    refine W.getf (v := ax_fv σ a b (q + 1)) hx hb hown (hts _ (ax_in_W g1)) (ax_same hts g5 _ hfi) (u_facts hfc hkC (u_lays hts (ax_uin g2) g3) hfi).1 q1 (by rw [q3]; exact fun h => by cases h) (by rw [hsl]; exact q4 b g3) rfl rfl hd ?_
    have h9 := hT.same rfl rfl hh hS hlo
    rw [List.map_cons, ax_fvA σ g4] at h9
    exact h9
  · cases hs
theorem sj_putA {j : Nat} {v : Value} {σ1 : SG} {r : Nat} {rest : List Value} (hi : ax_LF.any (fun q => Nat.beq q.1 (ax_own y) && Nat.beq q.2.1 j && Nat.beq q.2.2.1 a && Nat.beq q.2.2.2.1 b && Nat.beq q.2.2.2.2.1 f) = true) (hfn : (ax_T a b).2.2.2 = true → ax_op y = 2 ∧ ax_kn a = ax_on (ax_own y) ∧ (ax_T a b).1 = ax_kn a) (hd : decode (ax_b y) pc = .ok (.putfield j, 3))
    (hv : narrow (ax_ty a b) v = v ∧ fits (ax_ty a b) v = true) (h0 : (sgK σ r).1 = a) (hZ : sgZ σ1 = sgZ σ) (hKs : ∀ q, sgK σ1 q = sgK σ q) (hf : ∀ q, q ≠ r → ∀ k i, ax_fv σ1 k i q = ax_fv σ k i q ∧ ax_ev σ1 k i q = ax_ev σ k i q) (hf2 : ∀ i, ax_fv σ1 a i r = if i = b then v else ax_fv σ a i r)
    (hC : ax_Cx p l R s m args meth c B e0 mo d y D) (hh : ax_hp B D σ s H) (hS : va_S (ax_GA B) s.heap H locs) (k : ∀ (H1 : Heap) (locs1 : List Loc), ax_hp B D σ1 s H1 → va_S (ax_GA B) s.heap H1 locs1 → W p l e R s m args below meth c H1 locs1 cells slots Q (F0 m (pc + 3) ls rest)) : W p l e R s m args below meth c H locs cells slots Q (F0 m pc ls (v :: va_rf (avr r) :: rest)) := by
  obtain ⟨hx, hb, hml, hown, hts, hnm, hK, hG, hB, hRf, hRl, hfl, htab, hlk⟩ := id hC
  obtain ⟨ref, g1, g2, g3, g4, g5⟩ := ax_lf hi
  obtain ⟨q, rfl, qB, cell, q1, q2, q3, q4⟩ := hh.2.1 r (by rw [h0]; exact g2)
  rw [h0] at q2 q4
  have hty : ∀ i, i < ax_N a → parseFieldDescriptor (ax_T a i).2.2.1 = some (ax_ty a i) := fun i hi9 => by
    have h9 := ax_tyk g2 hi9
    unfold ax_tyc at h9
    simp only [Bool.and_eq_true, decide_eq_true_eq] at h9
    exact h9.1
  have hap := va_apart (own := ax_on (ax_own y)) hts (ax_uin g2) (ax_ty a) hty (ax_u a g2).2 hK (ax_clk a g2)
  obtain ⟨hKS, hfc, kC, hkC, hkind⟩ := hK.1 a _ (ax_clk a g2)
  obtain ⟨cf, kf, fi, fd, hfi, hsl⟩ := hKS b g3
  have hlay := hts _ (ax_uin g2 _ (u_in_lay g3))
  have hst := (u_facts hfc hkC (u_lays hts (ax_uin g2) g3) hfi).1
  have fin : ∀ H' : Heap, H'[q]? = some (cell.setSlot fd.slot v) → H'.size = H.size → (∀ z, z ≠ q → H'[z]? = H[z]?) → W p l e R s m args below meth c H' (locs ++ [⟨q, fd.slot⟩]) cells slots Q (F0 m (pc + 3) ls rest) := by
    intro H' e1 e2 e3
    refine k H' _ (hh.upd (a := q) rfl hZ hKs hf e2 e3 (fun _ => ⟨q, rfl, qB, ?_⟩) (fun h1 _ => ?_)) (hS.put e2 e3 qB)
    · rw [hKs, h0]
      rw [hsl] at e1
      refine t_OB.to (V := updV (fun i => ax_fv σ a i (q + 1)) b v) ⟨_, e1, q2, q3, t_set q4 hap g3 v⟩ fun i _ => ?_
      rw [hf2 i]
      unfold updV
      rfl
    · rw [hKs, h0] at h1
      omega
  cases hfin : (ax_T a b).2.2.2 with
  | false =>
    unfold u_lay at hlay
    rw [if_neg (by rw [hfin]; decide)] at hlay
    have h6 := u_store hfc hkC hkind hlay hfi (hty b g3) hv.1 hv.2
    exact W.putK hx hb (f := fd) ⟨hown, hts _ (ax_in_W g1), ⟨_, _, _, ax_same hts g5 _ hfi⟩, hst⟩ (by rw [q2]; exact h6) q1 q3 (by rw [hsl]; exact k2_hasslot (q4 b g3)) rfl rfl hd fin
  | true =>
    obtain ⟨f1, f2, f3⟩ := hfn hfin
    unfold u_lay at hlay
    rw [if_pos hfin] at hlay
    have hcf : m.cls = cf := by
      obtain ⟨_, _, c', _, _, _, -, -, hf', -, -, -, hown2, -⟩ := Cond.laysFinal_spec hlay
      have e1 : c' = cf := by have := hfi.symm.trans hf'; simp at this; exact this.1.symm
      rw [f3, f2] at hown2
      rw [← e1]; exact Option.some.inj (hown.symm.trans hown2)
    have h6 := u_fits hfc hkC hkind (Or.inr hlay) hfi (hty b g3) hv.1 hv.2
    exact W.putFinK hx hb hown (hts _ (ax_in_W g1)) (ax_same hts g5 _ hfi) hst hcf (hnm f1) (by rw [q2]; exact h6) q1 q3 (by rw [hsl]; exact k2_hasslot (q4 b g3)) rfl rfl hd fin
theorem ax_fits0 {x : Int32} : narrow .int (.int x) = .int x ∧ fits .int (.int x) = true := ⟨rfl, rfl⟩
theorem ax_fitsZ {x : Int32} (h : x = 0 ∨ x = 1) : narrow .boolean (.int x) = .int x ∧ fits .boolean (.int x) = true := by
  rcases h with rfl | rfl <;> exact ⟨rfl, rfl⟩
theorem ax_fitsR {ty : FieldType} (r : Nat) (h : (∃ C, ty = .object C) ∨ ∃ t, ty = .array t) : narrow ty (va_rf (avr r)) = va_rf (avr r) ∧ fits ty (va_rf (avr r)) = true := by
  rcases h with ⟨C, rfl⟩ | ⟨t, rfl⟩ <;> cases r <;> exact ⟨rfl, rfl⟩
theorem ax_tyF {k i : Nat} (hk : k < 9) (hi : i < ax_N k) : (ax_fk k i = 0 ∧ ax_ty k i = .int) ∨ (ax_fk k i = 2 ∧ ax_ty k i = .boolean) ∨ (ax_fk k i = 1 ∧ ((∃ C, ax_ty k i = .object C) ∨ ∃ t, ax_ty k i = .array t)) := by
  have h9 := ax_tyk hk hi
  unfold ax_tyc at h9
  simp only [Bool.and_eq_true] at h9
  have h8 := h9.2
  split at h8
  · rename_i h1 h2; exact Or.inl ⟨h1, h2⟩
  · rename_i h1 h2; exact Or.inr (Or.inl ⟨h1, h2⟩)
  · rename_i h1 h2; exact Or.inr (Or.inr ⟨h1, Or.inl ⟨_, h2⟩⟩)
  · rename_i h1 h2; exact Or.inr (Or.inr ⟨h1, Or.inr ⟨_, h2⟩⟩)
  · cases h8
theorem putI_fv (σ : SG) {k i r : Nat} (v : Int32) : (∀ q, q ≠ r → ∀ k' i', ax_fv (putI σ k i r v) k' i' q = ax_fv σ k' i' q ∧ ax_ev (putI σ k i r v) k' i' q = ax_ev σ k' i' q) := by
  intro q hq k' i'
  have h : sgI (putI σ k i r v) k' i' q = sgI σ k' i' q := if_neg fun z => hq z.2.2
  unfold ax_fv ax_ev
  rw [h]
  exact ⟨rfl, rfl⟩
theorem putR_fv (σ : SG) {k i r : Nat} (v : Nat) : (∀ q, q ≠ r → ∀ k' i', ax_fv (putR σ k i r v) k' i' q = ax_fv σ k' i' q ∧ ax_ev (putR σ k i r v) k' i' q = ax_ev σ k' i' q) := by
  intro q hq k' i'
  have h : sgR (putR σ k i r v) k' i' q = sgR σ k' i' q := if_neg fun z => hq z.2.2
  unfold ax_fv ax_ev
  rw [h]
  exact ⟨rfl, rfl⟩
theorem putJ_fv (σ : SG) {k i r : Nat} (v : Int64) : (∀ q, q ≠ r → ∀ k' i', ax_fv (putJ σ k i r v) k' i' q = ax_fv σ k' i' q ∧ ax_ev (putJ σ k i r v) k' i' q = ax_ev σ k' i' q) := by
  intro q hq k' i'
  have h : sgJ (putJ σ k i r v) k' i' q = sgJ σ k' i' q := if_neg fun z => hq z.2.2
  unfold ax_fv ax_ev
  rw [h]
  exact ⟨rfl, rfl⟩
theorem putI_fs (σ : SG) {k i r : Nat} (v : Int32) (hf : ax_fk k i ≠ 1) : ∀ i', ax_fv (putI σ k i r v) k i' r = if i' = i then .int v else ax_fv σ k i' r := by
  intro i'
  by_cases e : i' = i
  · subst e
    rw [if_pos rfl]
    unfold ax_fv
    cases q : Nat.beq (ax_fk k i') 1 with
    | true => exact absurd (ax_beq q) hf
    | false => exact congrArg Value.int (if_pos ⟨rfl, rfl, rfl⟩)
  · rw [if_neg e]
    unfold ax_fv
    have h : sgI (putI σ k i r v) k i' r = sgI σ k i' r := if_neg fun z => e z.2.1
    rw [h]
    rfl
theorem putR_fs (σ : SG) {k i r : Nat} (v : Nat) (hf : ax_fk k i = 1) : ∀ i', ax_fv (putR σ k i r v) k i' r = if i' = i then va_rf (avr v) else ax_fv σ k i' r := by
  intro i'
  by_cases e : i' = i
  · subst e
    rw [if_pos rfl]
    unfold ax_fv
    rw [hf]
    exact congrArg (fun z => va_rf (avr z)) (if_pos ⟨rfl, rfl, rfl⟩)
  · rw [if_neg e]
    unfold ax_fv
    have h : sgR (putR σ k i r v) k i' r = sgR σ k i' r := if_neg fun z => e z.2.1
    rw [h]
    rfl
theorem sj_put {j : Nat} (hi : ax_LF.any (fun q => Nat.beq q.1 (ax_own y) && Nat.beq q.2.1 j && Nat.beq q.2.2.1 a && Nat.beq q.2.2.2.1 b && Nat.beq q.2.2.2.2.1 f) = true) (hfn : (ax_T a b).2.2.2 = true → ax_op y = 2 ∧ ax_kn a = ax_on (ax_own y) ∧ (ax_T a b).1 = ax_kn a) (hd : decode (ax_b y) pc = .ok (.putfield j, 3)) (hn : nx = pc + 3) (hs : (ax_put nx a b f L st σ).bind ax_pick = some sr) (hT : ax_Nx p l e R s m args below meth c Q B e0 mo d y pc D cells slots σ sr) (hC : ax_Cx p l R s m args meth c B e0 mo d y D) (hh : ax_hp B D σ s H) (hS : va_S (ax_GA B) s.heap H locs) (hlo : ax_lo ls L) : W p l e R s m args below meth c H locs cells slots Q (F0 m pc ls (st.map avV)) := by
  subst hn
  obtain ⟨ref, g1, g2, g3, g4, g5⟩ := ax_lf hi
  have hty := ax_tyF g2 g3
  unfold ax_put at hs
  split at hs
  · split at hs
    · rename_i x r st'
      obtain ⟨h0, rfl⟩ := ax_pick_gd hs
      rcases hty with ⟨e1, e2⟩ | ⟨e1, -⟩ | ⟨e1, -⟩
      · exact sj_putA (v := .int x) (σ1 := putI σ a b r x) (r := r) hi hfn hd (by rw [e2]; exact ax_fits0) h0 rfl (fun _ => rfl) (putI_fv σ x) (putI_fs σ x (by rw [e1]; decide)) hC hh hS (fun H1 locs1 h1 h2 => hT.same rfl rfl h1 h2 hlo)
      · omega
      · omega
    · cases hs
  · split at hs
    · rename_i x r st'
      obtain ⟨h0, rfl⟩ := ax_pick_gd hs
      rcases hty with ⟨e1, -⟩ | ⟨e1, -⟩ | ⟨e1, e2⟩
      · omega
      · omega
      · exact sj_putA (v := va_rf (avr x)) (σ1 := putR σ a b r x) (r := r) hi hfn hd (ax_fitsR x e2) h0 rfl (fun _ => rfl) (putR_fv σ x) (putR_fs σ x e1) hC hh hS (fun H1 locs1 h1 h2 => hT.same rfl rfl h1 h2 hlo)
    · cases hs
  · split at hs
    · rename_i x r st'
      obtain ⟨⟨hx01, h0⟩, rfl⟩ := ax_pick_gd hs
      rcases hty with ⟨e1, e2⟩ | ⟨e1, e2⟩ | ⟨e1, -⟩
      · exact sj_putA (v := .int x) (σ1 := putI σ a b r x) (r := r) hi hfn hd (by rw [e2]; exact ax_fits0) h0 rfl (fun _ => rfl) (putI_fv σ x) (putI_fs σ x (by rw [e1]; decide)) hC hh hS (fun H1 locs1 h1 h2 => hT.same rfl rfl h1 h2 hlo)
      · exact sj_putA (v := .int x) (σ1 := putI σ a b r x) (r := r) hi hfn hd (by rw [e2]; exact ax_fitsZ hx01) h0 rfl (fun _ => rfl) (putI_fv σ x) (putI_fs σ x (by rw [e1]; decide)) hC hh hS (fun H1 locs1 h1 h2 => hT.same rfl rfl h1 h2 hlo)
      · exact absurd (g4.trans e1) (by assumption)
    · cases hs
/-- a row's cell -/
theorem ax_row {r : Nat} {i : Int32} {k : Nat} (hh : ax_hp B D σ s H) (h0 : ax_in σ k r i) (hk : 20 ≤ k) (hk2 : k < 26) : ∃ (q : Nat) (cell : Cell), r = q + 1 ∧ (k ≠ 25 → B ≤ q) ∧ H[q]? = some cell ∧ s.isArrayOf cell (ax_aty k) ∧ cell.vm ≠ .unknown ∧ cell.slots.size = (sgK σ r).2 ∧ ¬ (i < 0 ∨ cell.slots.size ≤ i.toNatClampNeg) ∧ i.toNatClampNeg < cell.slots.size ∧ ¬ i < 0 ∧ cell.slots[i.toNatClampNeg]? = some (ax_ev σ k i.toNatClampNeg r) ∧ (∀ j, j < (sgK σ r).2 → cell.slots[j]? = some (ax_ev σ k j r)) ∧ (k = 23 ∨ k = 24 → va_RA s cell.cls (ax_aty k) ∧ cell.vm = .none) := by
  obtain ⟨e1, e2⟩ := h0
  obtain ⟨q, cell, q1, q2, q3, q4, q5, q6, q7, q8⟩ := hh.2.2 r (by rw [e1]; exact hk) (by rw [e1]; exact hk2)
  rw [e1] at q2 q4 q7 q8
  have hi0 : ¬ i < 0 := fun z => e2 (Or.inl z)
  have hi1 : i.toNatClampNeg < (sgK σ r).2 := Nat.not_le.mp fun z => e2 (Or.inr z)
  have hn0 : (sgK σ r).2 ≠ 0 := by omega
  have q6 := q6.1 hn0
  exact ⟨q, cell, q1, fun z => q2 z hn0, q3, q4, q5, q6, by rw [q6]; exact e2, by rw [q6]; exact hi1, hi0, q7 _ hi1, q7, fun z => q8 z hn0⟩
theorem sj_ald (row : ∀ (q : Nat) (cell : Cell) (i : Int32) (v : Value) (rest : List Value), H[q]? = some cell → s.isArrayOf cell (ax_aty a) → cell.vm ≠ .unknown → ¬ (i < 0 ∨ cell.slots.size ≤ i.toNatClampNeg) → cell.slots[i.toNatClampNeg]? = some v → W p l e R s m args below meth c H locs cells slots Q (F0 m nx ls (v :: rest)) → W p l e R s m args below meth c H locs cells slots Q (F0 m pc ls (.int i :: .ref q :: rest))) (ha : a = 20 ∨ a = 21 ∨ a = 25) (hs : (ax_ald nx a L st σ).bind ax_pick = some sr) (hT : ax_Nx p l e R s m args below meth c Q B e0 mo d y pc D cells slots σ sr) (hC : ax_Cx p l R s m args meth c B e0 mo d y D) (hh : ax_hp B D σ s H) (hS : va_S (ax_GA B) s.heap H locs) (hlo : ax_lo ls L) : W p l e R s m args below meth c H locs cells slots Q (F0 m pc ls (st.map avV)) := by
  unfold ax_ald at hs
  split at hs
  · rename_i i r st'
    obtain ⟨h0, rfl⟩ := ax_pick_gd hs
    obtain ⟨q, cell, rfl, -, q3, q4, q5, q6, q7, -, -, q8, -, -⟩ := ax_row hh h0 (by omega) (by omega)
    refine row q cell i _ _ q3 q4 q5 q7 q8 ?_
    have h9 := hT.same rfl rfl hh hS hlo
    rcases ha with rfl | rfl | rfl <;> exact h9
  · cases hs
theorem sj_aldJ (hd : decode (ax_b y) pc = .ok (.laload, 1)) (hn : nx = pc + 1) (hs : (ax_aldJ nx 22 L st σ).bind ax_pick = some sr) (hT : ax_Nx p l e R s m args below meth c Q B e0 mo d y pc D cells slots σ sr) (hC : ax_Cx p l R s m args meth c B e0 mo d y D) (hh : ax_hp B D σ s H) (hS : va_S (ax_GA B) s.heap H locs) (hlo : ax_lo ls L) : W p l e R s m args below meth c H locs cells slots Q (F0 m pc ls (st.map avV)) := by
  obtain ⟨hx, hb, hml, hown, hts, hnm, hK, hG, hB, hRf, hRl, hfl, htab, hlk⟩ := id hC
  
  subst hn
  unfold ax_aldJ at hs
  split at hs
  · rename_i i r st'
    obtain ⟨h0, rfl⟩ := ax_pick_gd hs
    obtain ⟨q, cell, rfl, -, q3, q4, q5, q6, q7, -, -, q8, -, -⟩ := ax_row hh h0 (by omega) (by omega)
    exact W.lald hx hb q3 q4 q5 q7 q8 rfl rfl hd (hT.same rfl rfl hh hS hlo)
  · cases hs
theorem sj_aldR (hd : decode (ax_b y) pc = .ok (.aaload, 1)) (hn : nx = pc + 1) (ha : a = 23 ∨ a = 24) (hs : (ax_aldR nx a L st σ).bind ax_pick = some sr) (hT : ax_Nx p l e R s m args below meth c Q B e0 mo d y pc D cells slots σ sr) (hC : ax_Cx p l R s m args meth c B e0 mo d y D) (hh : ax_hp B D σ s H) (hS : va_S (ax_GA B) s.heap H locs) (hlo : ax_lo ls L) : W p l e R s m args below meth c H locs cells slots Q (F0 m pc ls (st.map avV)) := by
  obtain ⟨hx, hb, hml, hown, hts, hnm, hK, hG, hB, hRf, hRl, hfl, htab, hlk⟩ := id hC
  
  subst hn
  unfold ax_aldR at hs
  split at hs
  · rename_i i r st'
    obtain ⟨h0, rfl⟩ := ax_pick_gd hs
    obtain ⟨q, cell, rfl, -, q3, q4, q5, q6, q7, -, -, q8, -, -⟩ := ax_row hh h0 (by omega) (by omega)
    have h9 := hT.same rfl rfl hh hS hlo
    rcases ha with rfl | rfl <;> exact W.aald hx hb q3 q4 rfl q5 q7 q8 rfl rfl hd h9
  · cases hs
/-- a row's cell, one place written -/
theorem ax_hp.row {r q : Nat} {cell : Cell} {k j : Nat} {v : Value} {σ1 : SG} {H' : Heap} (hh : ax_hp B D σ s H) (e1 : (sgK σ r).1 = k) (hk : 20 ≤ k) (hk2 : k < 26) (hr : r = q + 1) (hB : k ≠ 25 → B ≤ q) (q4 : s.isArrayOf cell (ax_aty k)) (q5 : cell.vm ≠ .unknown) (q6 : cell.slots.size = (sgK σ r).2) (hj : j < cell.slots.size) (q7 : ∀ j, j < (sgK σ r).2 → cell.slots[j]? = some (ax_ev σ k j r)) (q8 : k = 23 ∨ k = 24 → va_RA s cell.cls (ax_aty k) ∧ cell.vm = .none)
    (hZ : sgZ σ1 = sgZ σ) (hKs : ∀ q, sgK σ1 q = sgK σ q) (hf : ∀ q, q ≠ r → ∀ k i, ax_fv σ1 k i q = ax_fv σ k i q ∧ ax_ev σ1 k i q = ax_ev σ k i q) (hf2 : ∀ i, ax_ev σ1 k i r = if i = j then v else ax_ev σ k i r) (g1 : H'[q]? = some (cell.setSlot j v)) (g2 : H'.size = H.size) (g3 : ∀ z, z ≠ q → H'[z]? = H[z]?) : ax_hp B D σ1 s H' := by
  refine hh.upd (r := r) (a := q) hr hZ hKs hf g2 g3 (fun h => ?_) (fun _ _ => ?_)
  · rw [hKs, e1] at h; omega
  · rw [hKs, e1]
    refine ⟨q, _, hr, fun z _ => hB z, g1, ?_, ?_, ?_, fun i hi => ?_, fun z _ => q8 z⟩
    · exact q4
    · exact q5
    · have hz : (cell.setSlot j v).slots.size = (sgK σ r).2 := by rw [← q6]; simp [Cell.setSlot]
      exact ⟨fun _ => hz, by rw [hz]⟩
    · rw [hf2 i]
      by_cases e : i = j
      · subst e
        rw [if_pos rfl]
        exact Cell.slots_setSlot_self _ hj
      · rw [if_neg e, slot_ne _ _ (Ne.symm e)]
        exact q7 i hi
theorem putI_es (σ : SG) {k j r : Nat} (v : Int32) (hk : k ≠ 22 ∧ k ≠ 23 ∧ k ≠ 24) : ∀ i, ax_ev (putI σ k j r v) k i r = if i = j then .int v else ax_ev σ k i r := by
  intro i
  have h1 : Nat.beq k 22 = false := by cases q : Nat.beq k 22 with | false => rfl | true => exact absurd (ax_beq q) hk.1
  have h2 : Nat.beq k 23 = false := by cases q : Nat.beq k 23 with | false => rfl | true => exact absurd (ax_beq q) hk.2.1
  have h3 : Nat.beq k 24 = false := by cases q : Nat.beq k 24 with | false => rfl | true => exact absurd (ax_beq q) hk.2.2
  unfold ax_ev
  rw [h1, h2, h3]
  by_cases e : i = j
  · subst e
    rw [if_pos rfl]
    exact congrArg Value.int (if_pos ⟨rfl, rfl, rfl⟩)
  · rw [if_neg e]
    exact congrArg Value.int (if_neg fun z => e z.2.1)
theorem putJ_es (σ : SG) {j r : Nat} (v : Int64) : ∀ i, ax_ev (putJ σ 22 j r v) 22 i r = if i = j then .long v else ax_ev σ 22 i r := by
  intro i
  by_cases e : i = j
  · subst e
    rw [if_pos rfl]
    exact congrArg Value.long (if_pos ⟨rfl, rfl, rfl⟩)
  · rw [if_neg e]
    exact congrArg Value.long (if_neg fun z => e z.2.1)
theorem putR_es (σ : SG) {k j r : Nat} (v : Nat) (hk : k = 23 ∨ k = 24) : ∀ i, ax_ev (putR σ k j r v) k i r = if i = j then va_rf (avr v) else ax_ev σ k i r := by
  intro i
  rcases hk with rfl | rfl <;>
  · by_cases e : i = j
    · subst e
      rw [if_pos rfl]
      exact congrArg (fun z => va_rf (avr z)) (if_pos ⟨rfl, rfl, rfl⟩)
    · rw [if_neg e]
      exact congrArg (fun z => va_rf (avr z)) (if_neg fun z => e z.2.1)
theorem sj_ast (hd : decode (ax_b y) pc = .ok (.iastore, 1)) (hn : nx = pc + 1) (hs : (ax_ast nx L st σ).bind ax_pick = some sr) (hT : ax_Nx p l e R s m args below meth c Q B e0 mo d y pc D cells slots σ sr) (hC : ax_Cx p l R s m args meth c B e0 mo d y D) (hh : ax_hp B D σ s H) (hS : va_S (ax_GA B) s.heap H locs) (hlo : ax_lo ls L) : W p l e R s m args below meth c H locs cells slots Q (F0 m pc ls (st.map avV)) := by
  obtain ⟨hx, hb, hml, hown, hts, hnm, hK, hG, hB, hRf, hRl, hfl, htab, hlk⟩ := id hC
  
  subst hn
  unfold ax_ast at hs
  split at hs
  · rename_i x i r st'
    obtain ⟨h0, rfl⟩ := ax_pick_gd hs
    obtain ⟨q, cell, q1, qB, q3, q4, q5, q6, q7, qi, -, q8, q9, q10⟩ := ax_row hh h0 (by omega) (by omega)
    subst q1
    refine W.iast hx hb q3 q4 q5 q7 rfl rfl hd fun H1 g1 g2 g3 => ?_
    exact hT.same rfl rfl (hh.row h0.1 (by omega) (by omega) rfl qB q4 q5 q6 qi q9 q10 rfl (fun _ => rfl) (putI_fv σ x) (putI_es σ x (by decide)) g1 g2 g3) (hS.put g2 g3 (qB (by decide))) hlo
  · cases hs
theorem sj_astZ (hd : decode (ax_b y) pc = .ok (.bastore, 1)) (hn : nx = pc + 1) (hs : (ax_astZ nx L st σ).bind ax_pick = some sr) (hT : ax_Nx p l e R s m args below meth c Q B e0 mo d y pc D cells slots σ sr) (hC : ax_Cx p l R s m args meth c B e0 mo d y D) (hh : ax_hp B D σ s H) (hS : va_S (ax_GA B) s.heap H locs) (hlo : ax_lo ls L) : W p l e R s m args below meth c H locs cells slots Q (F0 m pc ls (st.map avV)) := by
  obtain ⟨hx, hb, hml, hown, hts, hnm, hK, hG, hB, hRf, hRl, hfl, htab, hlk⟩ := id hC
  
  subst hn
  unfold ax_astZ at hs
  split at hs
  · rename_i x i r st'
    obtain ⟨⟨hx01, h0⟩, rfl⟩ := ax_pick_gd hs
    obtain ⟨q, cell, q1, qB, q3, q4, q5, q6, q7, qi, -, q8, q9, q10⟩ := ax_row hh h0 (by omega) (by omega)
    subst q1
    refine W.zast hx hb q3 q4 q5 q7 rfl rfl hd fun H1 g1 g2 g3 => ?_
    rw [(ax_fitsZ hx01).1] at g1
    exact hT.same rfl rfl (hh.row h0.1 (by omega) (by omega) rfl qB q4 q5 q6 qi q9 q10 rfl (fun _ => rfl) (putI_fv σ x) (putI_es σ x (by decide)) g1 g2 g3) (hS.put g2 g3 (qB (by decide))) hlo
  · cases hs
theorem sj_astJ (hd : decode (ax_b y) pc = .ok (.lastore, 1)) (hn : nx = pc + 1) (hs : (ax_astJ nx L st σ).bind ax_pick = some sr) (hT : ax_Nx p l e R s m args below meth c Q B e0 mo d y pc D cells slots σ sr) (hC : ax_Cx p l R s m args meth c B e0 mo d y D) (hh : ax_hp B D σ s H) (hS : va_S (ax_GA B) s.heap H locs) (hlo : ax_lo ls L) : W p l e R s m args below meth c H locs cells slots Q (F0 m pc ls (st.map avV)) := by
  obtain ⟨hx, hb, hml, hown, hts, hnm, hK, hG, hB, hRf, hRl, hfl, htab, hlk⟩ := id hC
  
  subst hn
  unfold ax_astJ at hs
  split at hs
  · rename_i x i r st'
    obtain ⟨h0, rfl⟩ := ax_pick_gd hs
    obtain ⟨q, cell, q1, qB, q3, q4, q5, q6, q7, qi, -, q8, q9, q10⟩ := ax_row hh h0 (by omega) (by omega)
    subst q1
    refine W.last hx hb q3 q4 q5 q7 rfl rfl hd fun H1 g1 g2 g3 => ?_
    exact hT.same rfl rfl (hh.row h0.1 (by omega) (by omega) rfl qB q4 q5 q6 qi q9 q10 rfl (fun _ => rfl) (putJ_fv σ x) (putJ_es σ x) g1 g2 g3) (hS.put g2 g3 (qB (by decide))) hlo
  · cases hs
end
end AXJ
