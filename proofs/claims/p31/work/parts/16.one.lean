/-! Every instruction of the abstract machine is one of the machine. Printed by wip/whole/gen16.py. -/
section AXS1
theorem ax_ctl : (List.range 195).all (fun y => bif Nat.beq (ax_op y) 2 then [0, 4, 6, 10, 18, 27, 32, 152, 153, 154].any (fun z => Nat.beq z y) else true) = true := by decide +kernel
theorem ax_cto {y : Nat} (hy : y < 196) (h : ax_op y = 2) (h9 : ax_ck y < 9) : ax_kn (ax_ck y) = ax_on (ax_own y) := by
  have hy' : y < 195 := by
    rcases Nat.lt_or_ge y 195 with q | q
    · exact q
    · obtain rfl : y = 195 := by omega
      exact absurd h (by decide)
  have h1 := List.all_eq_true.mp ax_ctl y (List.mem_range.mpr hy')
  rw [h] at h1
  obtain ⟨z, hz, e⟩ := List.any_eq_true.mp (show [0, 4, 6, 10, 18, 27, 32, 152, 153, 154].any (fun z => Nat.beq z y) = true from h1)
  obtain rfl := ax_beq e
  simp only [List.mem_cons, List.not_mem_nil, or_false] at hz
  rcases hz with rfl | rfl | rfl | rfl | rfl | rfl | rfl | rfl | rfl | rfl
  · exact rfl
  · exact rfl
  · exact rfl
  · exact rfl
  · exact rfl
  · exact rfl
  · exact rfl
  · exact absurd h9 (by decide)
  · exact absurd h9 (by decide)
  · exact rfl
theorem ax_tf0 : ∀ b, (ax_T0 b).2.2.2 = true → (ax_T0 b).1 = "PipelineRunner$Cache" := fun b => match b with
  | _ => fun _ => rfl
theorem ax_tf1 : ∀ b, (ax_T1 b).2.2.2 = true → (ax_T1 b).1 = "PipelineRunner$Entry" := fun b => match b with
  | 0 => fun _ => rfl
  | 1 => fun _ => rfl
  | _ + 2 => fun _ => rfl
theorem ax_tf2 : ∀ b, (ax_T2 b).2.2.2 = true → (ax_T2 b).1 = "PipelineRunner$Job" := fun b => match b with
  | 0 => fun _ => rfl
  | 1 => fun _ => rfl
  | 2 => fun _ => rfl
  | 3 => fun _ => rfl
  | 4 => fun _ => rfl
  | 5 => fun _ => rfl
  | _ + 6 => fun _ => rfl
theorem ax_tf3 : ∀ b, (ax_T3 b).2.2.2 = true → (ax_T3 b).1 = "PipelineRunner$Part" := fun b => match b with
  | 0 => fun _ => rfl
  | 1 => fun _ => rfl
  | _ + 2 => fun _ => rfl
theorem ax_tf4 : ∀ b, (ax_T4 b).2.2.2 = true → (ax_T4 b).1 = "PipelineRunner$Run" := fun b => match b with
  | 0 => fun _ => rfl
  | 1 => fun _ => rfl
  | 2 => fun _ => rfl
  | 3 => fun _ => rfl
  | _ + 4 => fun _ => rfl
theorem ax_tf5 : ∀ b, (ax_T5 b).2.2.2 = true → (ax_T5 b).1 = "PipelineRunner$Stage" := fun b => match b with
  | 0 => fun _ => rfl
  | 1 => fun _ => rfl
  | 2 => fun _ => rfl
  | 3 => fun _ => rfl
  | 4 => fun _ => rfl
  | 5 => fun _ => rfl
  | 6 => fun _ => rfl
  | 7 => fun _ => rfl
  | 8 => fun _ => rfl
  | _ + 9 => fun _ => rfl
theorem ax_tf6 : ∀ b, (ax_T6 b).2.2.2 = true → (ax_T6 b).1 = "PipelineRunner" := fun b => match b with
  | 0 => fun _ => rfl
  | 1 => fun _ => rfl
  | 2 => fun _ => rfl
  | 3 => fun _ => rfl
  | _ + 4 => fun _ => rfl
theorem ax_tf7 : ∀ b, (ax_T7 b).2.2.2 = true → (ax_T7 b).1 = "PipelineRunner$Cache" := fun b => match b with
  | _ => fun _ => rfl
theorem ax_tf8 : ∀ b, (ax_T8 b).2.2.2 = true → (ax_T8 b).1 = "java/util/ArrayList" := fun b => match b with
  | 0 => fun h => absurd h (by decide)
  | 1 => fun _ => rfl
  | _ + 2 => fun _ => rfl
theorem ax_tf {a b : Nat} (ha : a < 9) (h : (ax_T a b).2.2.2 = true) : (ax_T a b).1 = ax_kn a := by
  have hE : a = 0 ∨ a = 1 ∨ a = 2 ∨ a = 3 ∨ a = 4 ∨ a = 5 ∨ a = 6 ∨ a = 7 ∨ a = 8 := by omega
  rcases hE with rfl | rfl | rfl | rfl | rfl | rfl | rfl | rfl | rfl
  · exact ax_tf0 b h
  · exact ax_tf1 b h
  · exact ax_tf2 b h
  · exact ax_tf3 b h
  · exact ax_tf4 b h
  · exact ax_tf5 b h
  · exact ax_tf6 b h
  · exact ax_tf7 b h
  · exact ax_tf8 b h
theorem ax_avr {x y : Nat} : avr x = avr y ↔ x = y := by
  cases x <;> cases y <;> simp [avr]
theorem ax_ld_any {o j : Nat} {v : Int32} (h : ax_LD.any (fun q => Nat.beq q.1 o && Nat.beq q.2.1 j && decide (q.2.2.1 = v)) = true) : ax_gw (.constant (ax_on o) j v) := by
  obtain ⟨⟨q1, q2, q3, q4⟩, -, h2, h3⟩ := ax_any h ax_LD_w
  simp only [Bool.and_eq_true, decide_eq_true_eq] at h2
  obtain ⟨⟨e1, e2⟩, e3⟩ := h2
  have e1 := ax_beq e1
  have e2 := ax_beq e2
  subst e1; subst e2; subst e3
  exact h3
theorem ax_dec {y pc : Nat} {i : Instr} {nx a b f : Nat} {v : Int32} (h : ax_code y pc = some (i, nx, a, b, f, v)) (h0 : ax_il1 i = 0) : nx = pc + ax_il i ∧ decode (ax_b y) pc = .ok (i, ax_il i) := by
  obtain ⟨-, h1, h2, -, -⟩ := ax_code_ok h
  have h3 := h2 h0
  refine ⟨h3, ?_⟩
  rw [h1, h3, Nat.add_sub_cancel_left]
section
variable {p : Program} {l : Launch} {e : Env} {R : Room} {s : State} {m : MethodId} {args : Array Value} {below : List Frame} {meth : Method} {c : Code} {H : Heap} {locs : List Loc} {cells slots : Nat} {Q : State → Prop}
variable {B e0 mo d y pc : Nat} {D : va_G} {σ : SG} {sr : SR} {L st : List AV} {ls : Array Slot} {nx a b f : Nat} {v : Int32}
theorem sx_aconst_null (hcd : ax_code y pc = some (.aconst_null, nx, a, b, f, v)) (hs : (ax_sem e0 mo (.aconst_null, nx, a, b, f, v) L st σ).bind ax_pick = some sr) (hT : ax_Nx p l e R s m args below meth c Q B e0 mo d y pc D cells slots σ sr) (hC : ax_Cx p l R s m args meth c B e0 mo d y D) (hh : ax_hp B D σ s H) (hS : va_S (ax_GA B) s.heap H locs) (hlo : ax_lo ls L) (hLs : L.length = ax_L y) (hcs : cells ≤ R.cells ∧ slots ≤ R.slots) : W p l e R s m args below meth c H locs cells slots Q (F0 m pc ls (st.map avV)) := by
  obtain ⟨hx, hb, hml, hown, hts, hnm, hK, hG, hB, hRf, hRl, hfl, htab, hlk⟩ := id hC
  obtain ⟨hy9, -, -, hle, hk⟩ := ax_code_ok hcd
  obtain ⟨hn, hd⟩ := ax_dec hcd rfl
  subst hn
  exact si_go (v := aR 0) (fun k => lv_null hx hb hd k) hs hT hh hS hlo
theorem sx_iconst {n : Int} (hcd : ax_code y pc = some (.iconst n, nx, a, b, f, v)) (hs : (ax_sem e0 mo (.iconst n, nx, a, b, f, v) L st σ).bind ax_pick = some sr) (hT : ax_Nx p l e R s m args below meth c Q B e0 mo d y pc D cells slots σ sr) (hC : ax_Cx p l R s m args meth c B e0 mo d y D) (hh : ax_hp B D σ s H) (hS : va_S (ax_GA B) s.heap H locs) (hlo : ax_lo ls L) (hLs : L.length = ax_L y) (hcs : cells ≤ R.cells ∧ slots ≤ R.slots) : W p l e R s m args below meth c H locs cells slots Q (F0 m pc ls (st.map avV)) := by
  obtain ⟨hx, hb, hml, hown, hts, hnm, hK, hG, hB, hRf, hRl, hfl, htab, hlk⟩ := id hC
  obtain ⟨hy9, -, -, hle, hk⟩ := ax_code_ok hcd
  obtain ⟨hn, hd⟩ := ax_dec hcd rfl
  subst hn
  exact si_go (v := aI v) (fun k => lv_iconst hx hb hd (of_decide_eq_true hk) k) hs hT hh hS hlo
theorem sx_bipush {n : Int} (hcd : ax_code y pc = some (.bipush n, nx, a, b, f, v)) (hs : (ax_sem e0 mo (.bipush n, nx, a, b, f, v) L st σ).bind ax_pick = some sr) (hT : ax_Nx p l e R s m args below meth c Q B e0 mo d y pc D cells slots σ sr) (hC : ax_Cx p l R s m args meth c B e0 mo d y D) (hh : ax_hp B D σ s H) (hS : va_S (ax_GA B) s.heap H locs) (hlo : ax_lo ls L) (hLs : L.length = ax_L y) (hcs : cells ≤ R.cells ∧ slots ≤ R.slots) : W p l e R s m args below meth c H locs cells slots Q (F0 m pc ls (st.map avV)) := by
  obtain ⟨hx, hb, hml, hown, hts, hnm, hK, hG, hB, hRf, hRl, hfl, htab, hlk⟩ := id hC
  obtain ⟨hy9, -, -, hle, hk⟩ := ax_code_ok hcd
  obtain ⟨hn, hd⟩ := ax_dec hcd rfl
  subst hn
  exact si_go (v := aI v) (fun k => lv_bipush hx hb hd (of_decide_eq_true hk) k) hs hT hh hS hlo
theorem sx_sipush {n : Int} (hcd : ax_code y pc = some (.sipush n, nx, a, b, f, v)) (hs : (ax_sem e0 mo (.sipush n, nx, a, b, f, v) L st σ).bind ax_pick = some sr) (hT : ax_Nx p l e R s m args below meth c Q B e0 mo d y pc D cells slots σ sr) (hC : ax_Cx p l R s m args meth c B e0 mo d y D) (hh : ax_hp B D σ s H) (hS : va_S (ax_GA B) s.heap H locs) (hlo : ax_lo ls L) (hLs : L.length = ax_L y) (hcs : cells ≤ R.cells ∧ slots ≤ R.slots) : W p l e R s m args below meth c H locs cells slots Q (F0 m pc ls (st.map avV)) := by
  obtain ⟨hx, hb, hml, hown, hts, hnm, hK, hG, hB, hRf, hRl, hfl, htab, hlk⟩ := id hC
  obtain ⟨hy9, -, -, hle, hk⟩ := ax_code_ok hcd
  obtain ⟨hn, hd⟩ := ax_dec hcd rfl
  subst hn
  exact si_go (v := aI v) (fun k => lv_sipush hx hb hd (of_decide_eq_true hk) k) hs hT hh hS hlo
theorem sx_lconst {n : Fin 2} (hcd : ax_code y pc = some (.lconst n, nx, a, b, f, v)) (hs : (ax_sem e0 mo (.lconst n, nx, a, b, f, v) L st σ).bind ax_pick = some sr) (hT : ax_Nx p l e R s m args below meth c Q B e0 mo d y pc D cells slots σ sr) (hC : ax_Cx p l R s m args meth c B e0 mo d y D) (hh : ax_hp B D σ s H) (hS : va_S (ax_GA B) s.heap H locs) (hlo : ax_lo ls L) (hLs : L.length = ax_L y) (hcs : cells ≤ R.cells ∧ slots ≤ R.slots) : W p l e R s m args below meth c H locs cells slots Q (F0 m pc ls (st.map avV)) := by
  obtain ⟨hx, hb, hml, hown, hts, hnm, hK, hG, hB, hRf, hRl, hfl, htab, hlk⟩ := id hC
  obtain ⟨hy9, -, -, hle, hk⟩ := ax_code_ok hcd
  obtain ⟨hn, hd⟩ := ax_dec hcd rfl
  subst hn
  exact si_go (v := aJ (Int64.ofNat (n : Nat))) (fun k => lv_lconst hx hb hd rfl k) hs hT hh hS hlo
theorem sx_ldc {j : Nat} (hcd : ax_code y pc = some (.ldc j, nx, a, b, f, v)) (hs : (ax_sem e0 mo (.ldc j, nx, a, b, f, v) L st σ).bind ax_pick = some sr) (hT : ax_Nx p l e R s m args below meth c Q B e0 mo d y pc D cells slots σ sr) (hC : ax_Cx p l R s m args meth c B e0 mo d y D) (hh : ax_hp B D σ s H) (hS : va_S (ax_GA B) s.heap H locs) (hlo : ax_lo ls L) (hLs : L.length = ax_L y) (hcs : cells ≤ R.cells ∧ slots ≤ R.slots) : W p l e R s m args below meth c H locs cells slots Q (F0 m pc ls (st.map avV)) := by
  obtain ⟨hx, hb, hml, hown, hts, hnm, hK, hG, hB, hRf, hRl, hfl, htab, hlk⟩ := id hC
  obtain ⟨hy9, -, -, hle, hk⟩ := ax_code_ok hcd
  obtain ⟨hn, hd⟩ := ax_dec hcd rfl
  have hk2 : (bif Nat.beq f 1 then Nat.beq j 110 && Nat.beq (ax_own y) 12 else ax_LD.any (fun q => Nat.beq q.1 (ax_own y) && Nat.beq q.2.1 j && decide (q.2.2.1 = v))) = true := hk
  have hs : (bif Nat.beq f 1 then ax_go nx L (aR mo :: st) σ else ax_go nx L (aI v :: st) σ).bind ax_pick = some sr := hs
  cases q : Nat.beq f 1 with
  | true =>
    rw [q] at hk2 hs
    have hk : (Nat.beq j 110 && Nat.beq (ax_own y) 12) = true := hk2
    simp only [Bool.and_eq_true] at hk
    exact sk_ldcM ⟨ax_beq hk.1, by rw [ax_beq hk.2]; rfl⟩ hd hn hs hT hC hh hS hlo
  | false =>
    rw [q] at hk2 hs
    subst hn
    exact si_go (v := aI v) (fun k => lv_ldc hx hb hown (hts _ (ax_in_W (ax_ld_any hk2))) hd k) hs hT hh hS hlo
theorem sx_ldc_w {j : Nat} (hcd : ax_code y pc = some (.ldc_w j, nx, a, b, f, v)) (hs : (ax_sem e0 mo (.ldc_w j, nx, a, b, f, v) L st σ).bind ax_pick = some sr) (hT : ax_Nx p l e R s m args below meth c Q B e0 mo d y pc D cells slots σ sr) (hC : ax_Cx p l R s m args meth c B e0 mo d y D) (hh : ax_hp B D σ s H) (hS : va_S (ax_GA B) s.heap H locs) (hlo : ax_lo ls L) (hLs : L.length = ax_L y) (hcs : cells ≤ R.cells ∧ slots ≤ R.slots) : W p l e R s m args below meth c H locs cells slots Q (F0 m pc ls (st.map avV)) := by
  obtain ⟨hx, hb, hml, hown, hts, hnm, hK, hG, hB, hRf, hRl, hfl, htab, hlk⟩ := id hC
  obtain ⟨hy9, -, -, hle, hk⟩ := ax_code_ok hcd
  obtain ⟨hn, hd⟩ := ax_dec hcd rfl
  have hk2 : (bif Nat.beq f 1 then true else ax_LD.any (fun q => Nat.beq q.1 (ax_own y) && Nat.beq q.2.1 j && decide (q.2.2.1 = v))) = true := hk
  have hs : (bif Nat.beq f 1 then none else ax_go nx L (aI v :: st) σ).bind ax_pick = some sr := hs
  cases q : Nat.beq f 1 with
  | true => rw [q] at hs; cases hs
  | false =>
    rw [q] at hk2 hs
    subst hn
    exact si_go (v := aI v) (fun k => lv_ldcw hx hb hown (hts _ (ax_in_W (ax_ld_any hk2))) hd k) hs hT hh hS hlo
theorem sx_iload_n {k : Fin 4} (hcd : ax_code y pc = some (.iload_n k, nx, a, b, f, v)) (hs : (ax_sem e0 mo (.iload_n k, nx, a, b, f, v) L st σ).bind ax_pick = some sr) (hT : ax_Nx p l e R s m args below meth c Q B e0 mo d y pc D cells slots σ sr) (hC : ax_Cx p l R s m args meth c B e0 mo d y D) (hh : ax_hp B D σ s H) (hS : va_S (ax_GA B) s.heap H locs) (hlo : ax_lo ls L) (hLs : L.length = ax_L y) (hcs : cells ≤ R.cells ∧ slots ≤ R.slots) : W p l e R s m args below meth c H locs cells slots Q (F0 m pc ls (st.map avV)) := by
  obtain ⟨hx, hb, hml, hown, hts, hnm, hK, hG, hB, hRf, hRl, hfl, htab, hlk⟩ := id hC
  obtain ⟨hy9, -, -, hle, hk⟩ := ax_code_ok hcd
  obtain ⟨hn, hd⟩ := ax_dec hcd rfl
  subst hn
  exact si_ld (fun x hl9 k9 => lv_iload_n hx hb hd (ax_beq hk) hl9 k9) hs hT hh hS hlo
theorem sx_iload {k : Nat} (hcd : ax_code y pc = some (.iload k, nx, a, b, f, v)) (hs : (ax_sem e0 mo (.iload k, nx, a, b, f, v) L st σ).bind ax_pick = some sr) (hT : ax_Nx p l e R s m args below meth c Q B e0 mo d y pc D cells slots σ sr) (hC : ax_Cx p l R s m args meth c B e0 mo d y D) (hh : ax_hp B D σ s H) (hS : va_S (ax_GA B) s.heap H locs) (hlo : ax_lo ls L) (hLs : L.length = ax_L y) (hcs : cells ≤ R.cells ∧ slots ≤ R.slots) : W p l e R s m args below meth c H locs cells slots Q (F0 m pc ls (st.map avV)) := by
  obtain ⟨hx, hb, hml, hown, hts, hnm, hK, hG, hB, hRf, hRl, hfl, htab, hlk⟩ := id hC
  obtain ⟨hy9, -, -, hle, hk⟩ := ax_code_ok hcd
  obtain ⟨hn, hd⟩ := ax_dec hcd rfl
  subst hn
  obtain rfl := ax_beq hk
  exact si_ld (fun x hl9 k9 => lv_iload hx hb hd hl9 k9) hs hT hh hS hlo
theorem sx_aload_n {k : Fin 4} (hcd : ax_code y pc = some (.aload_n k, nx, a, b, f, v)) (hs : (ax_sem e0 mo (.aload_n k, nx, a, b, f, v) L st σ).bind ax_pick = some sr) (hT : ax_Nx p l e R s m args below meth c Q B e0 mo d y pc D cells slots σ sr) (hC : ax_Cx p l R s m args meth c B e0 mo d y D) (hh : ax_hp B D σ s H) (hS : va_S (ax_GA B) s.heap H locs) (hlo : ax_lo ls L) (hLs : L.length = ax_L y) (hcs : cells ≤ R.cells ∧ slots ≤ R.slots) : W p l e R s m args below meth c H locs cells slots Q (F0 m pc ls (st.map avV)) := by
  obtain ⟨hx, hb, hml, hown, hts, hnm, hK, hG, hB, hRf, hRl, hfl, htab, hlk⟩ := id hC
  obtain ⟨hy9, -, -, hle, hk⟩ := ax_code_ok hcd
  obtain ⟨hn, hd⟩ := ax_dec hcd rfl
  subst hn
  refine si_lda (fun x hl9 k9 => ?_) hs hT hh hS hlo
  cases x with
  | zero => exact lv_aload_nN hx hb hd (ax_beq hk) hl9 k9
  | succ x => exact lv_aload_n hx hb hd (ax_beq hk) hl9 k9
theorem sx_aload {k : Nat} (hcd : ax_code y pc = some (.aload k, nx, a, b, f, v)) (hs : (ax_sem e0 mo (.aload k, nx, a, b, f, v) L st σ).bind ax_pick = some sr) (hT : ax_Nx p l e R s m args below meth c Q B e0 mo d y pc D cells slots σ sr) (hC : ax_Cx p l R s m args meth c B e0 mo d y D) (hh : ax_hp B D σ s H) (hS : va_S (ax_GA B) s.heap H locs) (hlo : ax_lo ls L) (hLs : L.length = ax_L y) (hcs : cells ≤ R.cells ∧ slots ≤ R.slots) : W p l e R s m args below meth c H locs cells slots Q (F0 m pc ls (st.map avV)) := by
  obtain ⟨hx, hb, hml, hown, hts, hnm, hK, hG, hB, hRf, hRl, hfl, htab, hlk⟩ := id hC
  obtain ⟨hy9, -, -, hle, hk⟩ := ax_code_ok hcd
  obtain ⟨hn, hd⟩ := ax_dec hcd rfl
  subst hn
  obtain rfl := ax_beq hk
  refine si_lda (fun x hl9 k9 => ?_) hs hT hh hS hlo
  cases x with
  | zero => exact lv_aloadN hx hb hd hl9 k9
  | succ x => exact lv_aload hx hb hd hl9 k9
theorem sx_istore_n {k : Fin 4} (hcd : ax_code y pc = some (.istore_n k, nx, a, b, f, v)) (hs : (ax_sem e0 mo (.istore_n k, nx, a, b, f, v) L st σ).bind ax_pick = some sr) (hT : ax_Nx p l e R s m args below meth c Q B e0 mo d y pc D cells slots σ sr) (hC : ax_Cx p l R s m args meth c B e0 mo d y D) (hh : ax_hp B D σ s H) (hS : va_S (ax_GA B) s.heap H locs) (hlo : ax_lo ls L) (hLs : L.length = ax_L y) (hcs : cells ≤ R.cells ∧ slots ≤ R.slots) : W p l e R s m args below meth c H locs cells slots Q (F0 m pc ls (st.map avV)) := by
  obtain ⟨hx, hb, hml, hown, hts, hnm, hK, hG, hB, hRf, hRl, hfl, htab, hlk⟩ := id hC
  obtain ⟨hy9, -, -, hle, hk⟩ := ax_code_ok hcd
  obtain ⟨hn, hd⟩ := ax_dec hcd rfl
  subst hn
  exact si_sto (fun x rest ha hlv k9 => lv_istore_n hx hb hd (ax_beq hk) hlv ha rfl k9) hs hT hh hS hlo
theorem sx_istore {k : Nat} (hcd : ax_code y pc = some (.istore k, nx, a, b, f, v)) (hs : (ax_sem e0 mo (.istore k, nx, a, b, f, v) L st σ).bind ax_pick = some sr) (hT : ax_Nx p l e R s m args below meth c Q B e0 mo d y pc D cells slots σ sr) (hC : ax_Cx p l R s m args meth c B e0 mo d y D) (hh : ax_hp B D σ s H) (hS : va_S (ax_GA B) s.heap H locs) (hlo : ax_lo ls L) (hLs : L.length = ax_L y) (hcs : cells ≤ R.cells ∧ slots ≤ R.slots) : W p l e R s m args below meth c H locs cells slots Q (F0 m pc ls (st.map avV)) := by
  obtain ⟨hx, hb, hml, hown, hts, hnm, hK, hG, hB, hRf, hRl, hfl, htab, hlk⟩ := id hC
  obtain ⟨hy9, -, -, hle, hk⟩ := ax_code_ok hcd
  obtain ⟨hn, hd⟩ := ax_dec hcd rfl
  subst hn
  obtain rfl := ax_beq hk
  exact si_sto (fun x rest ha hlv k9 => lv_istore hx hb hd hlv ha rfl k9) hs hT hh hS hlo
theorem sx_astore_n {k : Fin 4} (hcd : ax_code y pc = some (.astore_n k, nx, a, b, f, v)) (hs : (ax_sem e0 mo (.astore_n k, nx, a, b, f, v) L st σ).bind ax_pick = some sr) (hT : ax_Nx p l e R s m args below meth c Q B e0 mo d y pc D cells slots σ sr) (hC : ax_Cx p l R s m args meth c B e0 mo d y D) (hh : ax_hp B D σ s H) (hS : va_S (ax_GA B) s.heap H locs) (hlo : ax_lo ls L) (hLs : L.length = ax_L y) (hcs : cells ≤ R.cells ∧ slots ≤ R.slots) : W p l e R s m args below meth c H locs cells slots Q (F0 m pc ls (st.map avV)) := by
  obtain ⟨hx, hb, hml, hown, hts, hnm, hK, hG, hB, hRf, hRl, hfl, htab, hlk⟩ := id hC
  obtain ⟨hy9, -, -, hle, hk⟩ := ax_code_ok hcd
  obtain ⟨hn, hd⟩ := ax_dec hcd rfl
  subst hn
  refine si_stoa (fun x rest ha hlv k9 => ?_) hs hT hh hS hlo
  cases x with
  | zero => exact lv_astore_nN hx hb hd (ax_beq hk) hlv ha rfl k9
  | succ x => exact lv_astore_n hx hb hd (ax_beq hk) hlv ha rfl k9
theorem sx_astore {k : Nat} (hcd : ax_code y pc = some (.astore k, nx, a, b, f, v)) (hs : (ax_sem e0 mo (.astore k, nx, a, b, f, v) L st σ).bind ax_pick = some sr) (hT : ax_Nx p l e R s m args below meth c Q B e0 mo d y pc D cells slots σ sr) (hC : ax_Cx p l R s m args meth c B e0 mo d y D) (hh : ax_hp B D σ s H) (hS : va_S (ax_GA B) s.heap H locs) (hlo : ax_lo ls L) (hLs : L.length = ax_L y) (hcs : cells ≤ R.cells ∧ slots ≤ R.slots) : W p l e R s m args below meth c H locs cells slots Q (F0 m pc ls (st.map avV)) := by
  obtain ⟨hx, hb, hml, hown, hts, hnm, hK, hG, hB, hRf, hRl, hfl, htab, hlk⟩ := id hC
  obtain ⟨hy9, -, -, hle, hk⟩ := ax_code_ok hcd
  obtain ⟨hn, hd⟩ := ax_dec hcd rfl
  subst hn
  obtain rfl := ax_beq hk
  refine si_stoa (fun x rest ha hlv k9 => ?_) hs hT hh hS hlo
  cases x with
  | zero => exact lv_astoreN hx hb hd hlv ha rfl k9
  | succ x => exact lv_astore hx hb hd hlv ha rfl k9
theorem sx_iinc {k : Nat} {n : Int} (hcd : ax_code y pc = some (.iinc k n, nx, a, b, f, v)) (hs : (ax_sem e0 mo (.iinc k n, nx, a, b, f, v) L st σ).bind ax_pick = some sr) (hT : ax_Nx p l e R s m args below meth c Q B e0 mo d y pc D cells slots σ sr) (hC : ax_Cx p l R s m args meth c B e0 mo d y D) (hh : ax_hp B D σ s H) (hS : va_S (ax_GA B) s.heap H locs) (hlo : ax_lo ls L) (hLs : L.length = ax_L y) (hcs : cells ≤ R.cells ∧ slots ≤ R.slots) : W p l e R s m args below meth c H locs cells slots Q (F0 m pc ls (st.map avV)) := by
  obtain ⟨hx, hb, hml, hown, hts, hnm, hK, hG, hB, hRf, hRl, hfl, htab, hlk⟩ := id hC
  obtain ⟨hy9, -, -, hle, hk⟩ := ax_code_ok hcd
  obtain ⟨hn, hd⟩ := ax_dec hcd rfl
  subst hn
  have hk : (Nat.beq k a && decide (Int32.ofInt n = v)) = true := hk
  simp only [Bool.and_eq_true, decide_eq_true_eq] at hk
  obtain ⟨h1, h2⟩ := hk
  obtain rfl := ax_beq h1
  subst h2
  exact si_inc (fun x k0 hk0 ha hlv k9 => lv_iinc hx hb hd hlv hk0 rfl ha rfl k9) hs hT hh hS hlo
theorem sx_iadd (hcd : ax_code y pc = some (.iadd, nx, a, b, f, v)) (hs : (ax_sem e0 mo (.iadd, nx, a, b, f, v) L st σ).bind ax_pick = some sr) (hT : ax_Nx p l e R s m args below meth c Q B e0 mo d y pc D cells slots σ sr) (hC : ax_Cx p l R s m args meth c B e0 mo d y D) (hh : ax_hp B D σ s H) (hS : va_S (ax_GA B) s.heap H locs) (hlo : ax_lo ls L) (hLs : L.length = ax_L y) (hcs : cells ≤ R.cells ∧ slots ≤ R.slots) : W p l e R s m args below meth c H locs cells slots Q (F0 m pc ls (st.map avV)) := by
  obtain ⟨hx, hb, hml, hown, hts, hnm, hK, hG, hB, hRf, hRl, hfl, htab, hlk⟩ := id hC
  obtain ⟨hy9, -, -, hle, hk⟩ := ax_code_ok hcd
  obtain ⟨hn, hd⟩ := ax_dec hcd rfl
  subst hn
  exact si_bin (fun x y rest k => lv_iadd hx hb hd k) hs hT hh hS hlo
theorem sx_isub (hcd : ax_code y pc = some (.isub, nx, a, b, f, v)) (hs : (ax_sem e0 mo (.isub, nx, a, b, f, v) L st σ).bind ax_pick = some sr) (hT : ax_Nx p l e R s m args below meth c Q B e0 mo d y pc D cells slots σ sr) (hC : ax_Cx p l R s m args meth c B e0 mo d y D) (hh : ax_hp B D σ s H) (hS : va_S (ax_GA B) s.heap H locs) (hlo : ax_lo ls L) (hLs : L.length = ax_L y) (hcs : cells ≤ R.cells ∧ slots ≤ R.slots) : W p l e R s m args below meth c H locs cells slots Q (F0 m pc ls (st.map avV)) := by
  obtain ⟨hx, hb, hml, hown, hts, hnm, hK, hG, hB, hRf, hRl, hfl, htab, hlk⟩ := id hC
  obtain ⟨hy9, -, -, hle, hk⟩ := ax_code_ok hcd
  obtain ⟨hn, hd⟩ := ax_dec hcd rfl
  subst hn
  exact si_bin (fun x y rest k => lv_isub hx hb hd k) hs hT hh hS hlo
theorem sx_imul (hcd : ax_code y pc = some (.imul, nx, a, b, f, v)) (hs : (ax_sem e0 mo (.imul, nx, a, b, f, v) L st σ).bind ax_pick = some sr) (hT : ax_Nx p l e R s m args below meth c Q B e0 mo d y pc D cells slots σ sr) (hC : ax_Cx p l R s m args meth c B e0 mo d y D) (hh : ax_hp B D σ s H) (hS : va_S (ax_GA B) s.heap H locs) (hlo : ax_lo ls L) (hLs : L.length = ax_L y) (hcs : cells ≤ R.cells ∧ slots ≤ R.slots) : W p l e R s m args below meth c H locs cells slots Q (F0 m pc ls (st.map avV)) := by
  obtain ⟨hx, hb, hml, hown, hts, hnm, hK, hG, hB, hRf, hRl, hfl, htab, hlk⟩ := id hC
  obtain ⟨hy9, -, -, hle, hk⟩ := ax_code_ok hcd
  obtain ⟨hn, hd⟩ := ax_dec hcd rfl
  subst hn
  exact si_bin (fun x y rest k => lv_imul hx hb hd k) hs hT hh hS hlo
theorem sx_iand (hcd : ax_code y pc = some (.iand, nx, a, b, f, v)) (hs : (ax_sem e0 mo (.iand, nx, a, b, f, v) L st σ).bind ax_pick = some sr) (hT : ax_Nx p l e R s m args below meth c Q B e0 mo d y pc D cells slots σ sr) (hC : ax_Cx p l R s m args meth c B e0 mo d y D) (hh : ax_hp B D σ s H) (hS : va_S (ax_GA B) s.heap H locs) (hlo : ax_lo ls L) (hLs : L.length = ax_L y) (hcs : cells ≤ R.cells ∧ slots ≤ R.slots) : W p l e R s m args below meth c H locs cells slots Q (F0 m pc ls (st.map avV)) := by
  obtain ⟨hx, hb, hml, hown, hts, hnm, hK, hG, hB, hRf, hRl, hfl, htab, hlk⟩ := id hC
  obtain ⟨hy9, -, -, hle, hk⟩ := ax_code_ok hcd
  obtain ⟨hn, hd⟩ := ax_dec hcd rfl
  subst hn
  exact si_bin (fun x y rest k => lv_iand hx hb hd k) hs hT hh hS hlo
theorem sx_ior (hcd : ax_code y pc = some (.ior, nx, a, b, f, v)) (hs : (ax_sem e0 mo (.ior, nx, a, b, f, v) L st σ).bind ax_pick = some sr) (hT : ax_Nx p l e R s m args below meth c Q B e0 mo d y pc D cells slots σ sr) (hC : ax_Cx p l R s m args meth c B e0 mo d y D) (hh : ax_hp B D σ s H) (hS : va_S (ax_GA B) s.heap H locs) (hlo : ax_lo ls L) (hLs : L.length = ax_L y) (hcs : cells ≤ R.cells ∧ slots ≤ R.slots) : W p l e R s m args below meth c H locs cells slots Q (F0 m pc ls (st.map avV)) := by
  obtain ⟨hx, hb, hml, hown, hts, hnm, hK, hG, hB, hRf, hRl, hfl, htab, hlk⟩ := id hC
  obtain ⟨hy9, -, -, hle, hk⟩ := ax_code_ok hcd
  obtain ⟨hn, hd⟩ := ax_dec hcd rfl
  subst hn
  exact si_bin (fun x y rest k => lv_ior hx hb hd k) hs hT hh hS hlo
theorem sx_ishl (hcd : ax_code y pc = some (.ishl, nx, a, b, f, v)) (hs : (ax_sem e0 mo (.ishl, nx, a, b, f, v) L st σ).bind ax_pick = some sr) (hT : ax_Nx p l e R s m args below meth c Q B e0 mo d y pc D cells slots σ sr) (hC : ax_Cx p l R s m args meth c B e0 mo d y D) (hh : ax_hp B D σ s H) (hS : va_S (ax_GA B) s.heap H locs) (hlo : ax_lo ls L) (hLs : L.length = ax_L y) (hcs : cells ≤ R.cells ∧ slots ≤ R.slots) : W p l e R s m args below meth c H locs cells slots Q (F0 m pc ls (st.map avV)) := by
  obtain ⟨hx, hb, hml, hown, hts, hnm, hK, hG, hB, hRf, hRl, hfl, htab, hlk⟩ := id hC
  obtain ⟨hy9, -, -, hle, hk⟩ := ax_code_ok hcd
  obtain ⟨hn, hd⟩ := ax_dec hcd rfl
  subst hn
  exact si_bin (fun x y rest k => lv_ishl hx hb hd k) hs hT hh hS hlo
theorem sx_ishr (hcd : ax_code y pc = some (.ishr, nx, a, b, f, v)) (hs : (ax_sem e0 mo (.ishr, nx, a, b, f, v) L st σ).bind ax_pick = some sr) (hT : ax_Nx p l e R s m args below meth c Q B e0 mo d y pc D cells slots σ sr) (hC : ax_Cx p l R s m args meth c B e0 mo d y D) (hh : ax_hp B D σ s H) (hS : va_S (ax_GA B) s.heap H locs) (hlo : ax_lo ls L) (hLs : L.length = ax_L y) (hcs : cells ≤ R.cells ∧ slots ≤ R.slots) : W p l e R s m args below meth c H locs cells slots Q (F0 m pc ls (st.map avV)) := by
  obtain ⟨hx, hb, hml, hown, hts, hnm, hK, hG, hB, hRf, hRl, hfl, htab, hlk⟩ := id hC
  obtain ⟨hy9, -, -, hle, hk⟩ := ax_code_ok hcd
  obtain ⟨hn, hd⟩ := ax_dec hcd rfl
  subst hn
  exact si_bin (fun x y rest k => lv_ishr hx hb hd k) hs hT hh hS hlo
theorem sx_iushr (hcd : ax_code y pc = some (.iushr, nx, a, b, f, v)) (hs : (ax_sem e0 mo (.iushr, nx, a, b, f, v) L st σ).bind ax_pick = some sr) (hT : ax_Nx p l e R s m args below meth c Q B e0 mo d y pc D cells slots σ sr) (hC : ax_Cx p l R s m args meth c B e0 mo d y D) (hh : ax_hp B D σ s H) (hS : va_S (ax_GA B) s.heap H locs) (hlo : ax_lo ls L) (hLs : L.length = ax_L y) (hcs : cells ≤ R.cells ∧ slots ≤ R.slots) : W p l e R s m args below meth c H locs cells slots Q (F0 m pc ls (st.map avV)) := by
  obtain ⟨hx, hb, hml, hown, hts, hnm, hK, hG, hB, hRf, hRl, hfl, htab, hlk⟩ := id hC
  obtain ⟨hy9, -, -, hle, hk⟩ := ax_code_ok hcd
  obtain ⟨hn, hd⟩ := ax_dec hcd rfl
  subst hn
  exact si_bin (fun x y rest k => lv_iushr hx hb hd rfl k) hs hT hh hS hlo
theorem sx_idiv (hcd : ax_code y pc = some (.idiv, nx, a, b, f, v)) (hs : (ax_sem e0 mo (.idiv, nx, a, b, f, v) L st σ).bind ax_pick = some sr) (hT : ax_Nx p l e R s m args below meth c Q B e0 mo d y pc D cells slots σ sr) (hC : ax_Cx p l R s m args meth c B e0 mo d y D) (hh : ax_hp B D σ s H) (hS : va_S (ax_GA B) s.heap H locs) (hlo : ax_lo ls L) (hLs : L.length = ax_L y) (hcs : cells ≤ R.cells ∧ slots ≤ R.slots) : W p l e R s m args below meth c H locs cells slots Q (F0 m pc ls (st.map avV)) := by
  obtain ⟨hx, hb, hml, hown, hts, hnm, hK, hG, hB, hRf, hRl, hfl, htab, hlk⟩ := id hC
  obtain ⟨hy9, -, -, hle, hk⟩ := ax_code_ok hcd
  obtain ⟨hn, hd⟩ := ax_dec hcd rfl
  subst hn
  exact si_dv (fun x y rest h k => lv_idiv hx hb hd h k) hs hT hh hS hlo
theorem sx_irem (hcd : ax_code y pc = some (.irem, nx, a, b, f, v)) (hs : (ax_sem e0 mo (.irem, nx, a, b, f, v) L st σ).bind ax_pick = some sr) (hT : ax_Nx p l e R s m args below meth c Q B e0 mo d y pc D cells slots σ sr) (hC : ax_Cx p l R s m args meth c B e0 mo d y D) (hh : ax_hp B D σ s H) (hS : va_S (ax_GA B) s.heap H locs) (hlo : ax_lo ls L) (hLs : L.length = ax_L y) (hcs : cells ≤ R.cells ∧ slots ≤ R.slots) : W p l e R s m args below meth c H locs cells slots Q (F0 m pc ls (st.map avV)) := by
  obtain ⟨hx, hb, hml, hown, hts, hnm, hK, hG, hB, hRf, hRl, hfl, htab, hlk⟩ := id hC
  obtain ⟨hy9, -, -, hle, hk⟩ := ax_code_ok hcd
  obtain ⟨hn, hd⟩ := ax_dec hcd rfl
  subst hn
  exact si_dv (fun x y rest h k => lv_irem hx hb hd h k) hs hT hh hS hlo
theorem sx_land (hcd : ax_code y pc = some (.land, nx, a, b, f, v)) (hs : (ax_sem e0 mo (.land, nx, a, b, f, v) L st σ).bind ax_pick = some sr) (hT : ax_Nx p l e R s m args below meth c Q B e0 mo d y pc D cells slots σ sr) (hC : ax_Cx p l R s m args meth c B e0 mo d y D) (hh : ax_hp B D σ s H) (hS : va_S (ax_GA B) s.heap H locs) (hlo : ax_lo ls L) (hLs : L.length = ax_L y) (hcs : cells ≤ R.cells ∧ slots ≤ R.slots) : W p l e R s m args below meth c H locs cells slots Q (F0 m pc ls (st.map avV)) := by
  obtain ⟨hx, hb, hml, hown, hts, hnm, hK, hG, hB, hRf, hRl, hfl, htab, hlk⟩ := id hC
  obtain ⟨hy9, -, -, hle, hk⟩ := ax_code_ok hcd
  obtain ⟨hn, hd⟩ := ax_dec hcd rfl
  subst hn
  exact si_binJ (fun x y rest k => lv_land hx hb hd k) hs hT hh hS hlo
theorem sx_lor (hcd : ax_code y pc = some (.lor, nx, a, b, f, v)) (hs : (ax_sem e0 mo (.lor, nx, a, b, f, v) L st σ).bind ax_pick = some sr) (hT : ax_Nx p l e R s m args below meth c Q B e0 mo d y pc D cells slots σ sr) (hC : ax_Cx p l R s m args meth c B e0 mo d y D) (hh : ax_hp B D σ s H) (hS : va_S (ax_GA B) s.heap H locs) (hlo : ax_lo ls L) (hLs : L.length = ax_L y) (hcs : cells ≤ R.cells ∧ slots ≤ R.slots) : W p l e R s m args below meth c H locs cells slots Q (F0 m pc ls (st.map avV)) := by
  obtain ⟨hx, hb, hml, hown, hts, hnm, hK, hG, hB, hRf, hRl, hfl, htab, hlk⟩ := id hC
  obtain ⟨hy9, -, -, hle, hk⟩ := ax_code_ok hcd
  obtain ⟨hn, hd⟩ := ax_dec hcd rfl
  subst hn
  exact si_binJ (fun x y rest k => lv_lor hx hb hd k) hs hT hh hS hlo
theorem sx_lshl (hcd : ax_code y pc = some (.lshl, nx, a, b, f, v)) (hs : (ax_sem e0 mo (.lshl, nx, a, b, f, v) L st σ).bind ax_pick = some sr) (hT : ax_Nx p l e R s m args below meth c Q B e0 mo d y pc D cells slots σ sr) (hC : ax_Cx p l R s m args meth c B e0 mo d y D) (hh : ax_hp B D σ s H) (hS : va_S (ax_GA B) s.heap H locs) (hlo : ax_lo ls L) (hLs : L.length = ax_L y) (hcs : cells ≤ R.cells ∧ slots ≤ R.slots) : W p l e R s m args below meth c H locs cells slots Q (F0 m pc ls (st.map avV)) := by
  obtain ⟨hx, hb, hml, hown, hts, hnm, hK, hG, hB, hRf, hRl, hfl, htab, hlk⟩ := id hC
  obtain ⟨hy9, -, -, hle, hk⟩ := ax_code_ok hcd
  obtain ⟨hn, hd⟩ := ax_dec hcd rfl
  subst hn
  exact si_shJ (fun x y rest k => lv_lshl hx hb hd rfl k) hs hT hh hS hlo
theorem sx_lushr (hcd : ax_code y pc = some (.lushr, nx, a, b, f, v)) (hs : (ax_sem e0 mo (.lushr, nx, a, b, f, v) L st σ).bind ax_pick = some sr) (hT : ax_Nx p l e R s m args below meth c Q B e0 mo d y pc D cells slots σ sr) (hC : ax_Cx p l R s m args meth c B e0 mo d y D) (hh : ax_hp B D σ s H) (hS : va_S (ax_GA B) s.heap H locs) (hlo : ax_lo ls L) (hLs : L.length = ax_L y) (hcs : cells ≤ R.cells ∧ slots ≤ R.slots) : W p l e R s m args below meth c H locs cells slots Q (F0 m pc ls (st.map avV)) := by
  obtain ⟨hx, hb, hml, hown, hts, hnm, hK, hG, hB, hRf, hRl, hfl, htab, hlk⟩ := id hC
  obtain ⟨hy9, -, -, hle, hk⟩ := ax_code_ok hcd
  obtain ⟨hn, hd⟩ := ax_dec hcd rfl
  subst hn
  exact si_shJ (fun x y rest k => lv_lushr hx hb hd rfl k) hs hT hh hS hlo
theorem sx_i2l (hcd : ax_code y pc = some (.i2l, nx, a, b, f, v)) (hs : (ax_sem e0 mo (.i2l, nx, a, b, f, v) L st σ).bind ax_pick = some sr) (hT : ax_Nx p l e R s m args below meth c Q B e0 mo d y pc D cells slots σ sr) (hC : ax_Cx p l R s m args meth c B e0 mo d y D) (hh : ax_hp B D σ s H) (hS : va_S (ax_GA B) s.heap H locs) (hlo : ax_lo ls L) (hLs : L.length = ax_L y) (hcs : cells ≤ R.cells ∧ slots ≤ R.slots) : W p l e R s m args below meth c H locs cells slots Q (F0 m pc ls (st.map avV)) := by
  obtain ⟨hx, hb, hml, hown, hts, hnm, hK, hG, hB, hRf, hRl, hfl, htab, hlk⟩ := id hC
  obtain ⟨hy9, -, -, hle, hk⟩ := ax_code_ok hcd
  obtain ⟨hn, hd⟩ := ax_dec hcd rfl
  subst hn
  unfold ax_sem at hs
  dsimp only at hs
  split at hs
  · obtain rfl := ax_pick_go hs
    exact lv_i2l hx hb hd rfl (hT.same rfl rfl hh hS hlo)
  · cases hs
theorem sx_lcmp (hcd : ax_code y pc = some (.lcmp, nx, a, b, f, v)) (hs : (ax_sem e0 mo (.lcmp, nx, a, b, f, v) L st σ).bind ax_pick = some sr) (hT : ax_Nx p l e R s m args below meth c Q B e0 mo d y pc D cells slots σ sr) (hC : ax_Cx p l R s m args meth c B e0 mo d y D) (hh : ax_hp B D σ s H) (hS : va_S (ax_GA B) s.heap H locs) (hlo : ax_lo ls L) (hLs : L.length = ax_L y) (hcs : cells ≤ R.cells ∧ slots ≤ R.slots) : W p l e R s m args below meth c H locs cells slots Q (F0 m pc ls (st.map avV)) := by
  obtain ⟨hx, hb, hml, hown, hts, hnm, hK, hG, hB, hRf, hRl, hfl, htab, hlk⟩ := id hC
  obtain ⟨hy9, -, -, hle, hk⟩ := ax_code_ok hcd
  obtain ⟨hn, hd⟩ := ax_dec hcd rfl
  subst hn
  unfold ax_sem at hs
  dsimp only at hs
  split at hs
  · obtain rfl := ax_pick_go hs
    exact W.lcmp hx hb hd (hT.same rfl rfl hh hS hlo)
  · cases hs
theorem sx_dup (hcd : ax_code y pc = some (.dup, nx, a, b, f, v)) (hs : (ax_sem e0 mo (.dup, nx, a, b, f, v) L st σ).bind ax_pick = some sr) (hT : ax_Nx p l e R s m args below meth c Q B e0 mo d y pc D cells slots σ sr) (hC : ax_Cx p l R s m args meth c B e0 mo d y D) (hh : ax_hp B D σ s H) (hS : va_S (ax_GA B) s.heap H locs) (hlo : ax_lo ls L) (hLs : L.length = ax_L y) (hcs : cells ≤ R.cells ∧ slots ≤ R.slots) : W p l e R s m args below meth c H locs cells slots Q (F0 m pc ls (st.map avV)) := by
  obtain ⟨hx, hb, hml, hown, hts, hnm, hK, hG, hB, hRf, hRl, hfl, htab, hlk⟩ := id hC
  obtain ⟨hy9, -, -, hle, hk⟩ := ax_code_ok hcd
  obtain ⟨hn, hd⟩ := ax_dec hcd rfl
  subst hn
  unfold ax_sem at hs
  dsimp only at hs
  split at hs
  · rename_i w st'
    cases q : Nat.beq (ax_cat w) 1 with
    | false => rw [q] at hs; cases hs
    | true =>
      rw [q] at hs
      obtain rfl := ax_pick_go hs
      exact lv_dup hx hb hd (by rw [ax_cat_eq]; exact ax_beq q) (hT.same rfl rfl hh hS hlo)
  · cases hs
theorem sx_pop (hcd : ax_code y pc = some (.pop, nx, a, b, f, v)) (hs : (ax_sem e0 mo (.pop, nx, a, b, f, v) L st σ).bind ax_pick = some sr) (hT : ax_Nx p l e R s m args below meth c Q B e0 mo d y pc D cells slots σ sr) (hC : ax_Cx p l R s m args meth c B e0 mo d y D) (hh : ax_hp B D σ s H) (hS : va_S (ax_GA B) s.heap H locs) (hlo : ax_lo ls L) (hLs : L.length = ax_L y) (hcs : cells ≤ R.cells ∧ slots ≤ R.slots) : W p l e R s m args below meth c H locs cells slots Q (F0 m pc ls (st.map avV)) := by
  obtain ⟨hx, hb, hml, hown, hts, hnm, hK, hG, hB, hRf, hRl, hfl, htab, hlk⟩ := id hC
  obtain ⟨hy9, -, -, hle, hk⟩ := ax_code_ok hcd
  obtain ⟨hn, hd⟩ := ax_dec hcd rfl
  subst hn
  unfold ax_sem at hs
  dsimp only at hs
  split at hs
  · rename_i w st'
    cases q : Nat.beq (ax_cat w) 1 with
    | false => rw [q] at hs; cases hs
    | true =>
      rw [q] at hs
      obtain rfl := ax_pick_go hs
      exact lv_pop hx hb hd (by rw [ax_cat_eq]; exact ax_beq q) (hT.same rfl rfl hh hS hlo)
  · cases hs
theorem sx_dup2 (hcd : ax_code y pc = some (.dup2, nx, a, b, f, v)) (hs : (ax_sem e0 mo (.dup2, nx, a, b, f, v) L st σ).bind ax_pick = some sr) (hT : ax_Nx p l e R s m args below meth c Q B e0 mo d y pc D cells slots σ sr) (hC : ax_Cx p l R s m args meth c B e0 mo d y D) (hh : ax_hp B D σ s H) (hS : va_S (ax_GA B) s.heap H locs) (hlo : ax_lo ls L) (hLs : L.length = ax_L y) (hcs : cells ≤ R.cells ∧ slots ≤ R.slots) : W p l e R s m args below meth c H locs cells slots Q (F0 m pc ls (st.map avV)) := by
  obtain ⟨hx, hb, hml, hown, hts, hnm, hK, hG, hB, hRf, hRl, hfl, htab, hlk⟩ := id hC
  obtain ⟨hy9, -, -, hle, hk⟩ := ax_code_ok hcd
  obtain ⟨hn, hd⟩ := ax_dec hcd rfl
  subst hn
  unfold ax_sem at hs
  dsimp only at hs
  split at hs
  · rename_i w w2 st'
    cases q : (Nat.beq (ax_cat w) 1 && Nat.beq (ax_cat w2) 1) with
    | false => rw [q] at hs; cases hs
    | true =>
      rw [q] at hs
      obtain rfl := ax_pick_go hs
      simp only [Bool.and_eq_true] at q
      exact lv_dup2_11 hx hb hd (by rw [ax_cat_eq]; exact ax_beq q.1) (by rw [ax_cat_eq]; exact ax_beq q.2) (hT.same rfl rfl hh hS hlo)
  · cases hs
theorem sx_dup_x1 (hcd : ax_code y pc = some (.dup_x1, nx, a, b, f, v)) (hs : (ax_sem e0 mo (.dup_x1, nx, a, b, f, v) L st σ).bind ax_pick = some sr) (hT : ax_Nx p l e R s m args below meth c Q B e0 mo d y pc D cells slots σ sr) (hC : ax_Cx p l R s m args meth c B e0 mo d y D) (hh : ax_hp B D σ s H) (hS : va_S (ax_GA B) s.heap H locs) (hlo : ax_lo ls L) (hLs : L.length = ax_L y) (hcs : cells ≤ R.cells ∧ slots ≤ R.slots) : W p l e R s m args below meth c H locs cells slots Q (F0 m pc ls (st.map avV)) := by
  obtain ⟨hx, hb, hml, hown, hts, hnm, hK, hG, hB, hRf, hRl, hfl, htab, hlk⟩ := id hC
  obtain ⟨hy9, -, -, hle, hk⟩ := ax_code_ok hcd
  obtain ⟨hn, hd⟩ := ax_dec hcd rfl
  subst hn
  unfold ax_sem at hs
  dsimp only at hs
  split at hs
  · rename_i w w2 st'
    cases q : (Nat.beq (ax_cat w) 1 && Nat.beq (ax_cat w2) 1) with
    | false => rw [q] at hs; cases hs
    | true =>
      rw [q] at hs
      obtain rfl := ax_pick_go hs
      simp only [Bool.and_eq_true] at q
      exact lv_dup_x1 hx hb hd (by rw [ax_cat_eq]; exact ax_beq q.1) (by rw [ax_cat_eq]; exact ax_beq q.2) (hT.same rfl rfl hh hS hlo)
  · cases hs
theorem sx_goto {z : Int} (hcd : ax_code y pc = some (.goto z, nx, a, b, f, v)) (hs : (ax_sem e0 mo (.goto z, nx, a, b, f, v) L st σ).bind ax_pick = some sr) (hT : ax_Nx p l e R s m args below meth c Q B e0 mo d y pc D cells slots σ sr) (hC : ax_Cx p l R s m args meth c B e0 mo d y D) (hh : ax_hp B D σ s H) (hS : va_S (ax_GA B) s.heap H locs) (hlo : ax_lo ls L) (hLs : L.length = ax_L y) (hcs : cells ≤ R.cells ∧ slots ≤ R.slots) : W p l e R s m args below meth c H locs cells slots Q (F0 m pc ls (st.map avV)) := by
  obtain ⟨hx, hb, hml, hown, hts, hnm, hK, hG, hB, hRf, hRl, hfl, htab, hlk⟩ := id hC
  obtain ⟨hy9, -, -, hle, hk⟩ := ax_code_ok hcd
  obtain ⟨hn, hd⟩ := ax_dec hcd rfl
  obtain rfl := ax_pick_go hs
  exact lv_goto hx hb hd (of_decide_eq_true hk) (hT.same rfl rfl hh hS hlo)
theorem sx_if_eq {z : Int} (hcd : ax_code y pc = some (.ifCond .eq z, nx, a, b, f, v)) (hs : (ax_sem e0 mo (.ifCond .eq z, nx, a, b, f, v) L st σ).bind ax_pick = some sr) (hT : ax_Nx p l e R s m args below meth c Q B e0 mo d y pc D cells slots σ sr) (hC : ax_Cx p l R s m args meth c B e0 mo d y D) (hh : ax_hp B D σ s H) (hS : va_S (ax_GA B) s.heap H locs) (hlo : ax_lo ls L) (hLs : L.length = ax_L y) (hcs : cells ≤ R.cells ∧ slots ≤ R.slots) : W p l e R s m args below meth c H locs cells slots Q (F0 m pc ls (st.map avV)) := by
  obtain ⟨hx, hb, hml, hown, hts, hnm, hK, hG, hB, hRf, hRl, hfl, htab, hlk⟩ := id hC
  obtain ⟨hy9, -, -, hle, hk⟩ := ax_code_ok hcd
  obtain ⟨hn, hd⟩ := ax_dec hcd rfl
  subst hn
  exact si_if (fun x rest k1 k2 => lv_if_eq hx hb hd (of_decide_eq_true hk) k1 k2) hs hT hh hS hlo
theorem sx_if_ne {z : Int} (hcd : ax_code y pc = some (.ifCond .ne z, nx, a, b, f, v)) (hs : (ax_sem e0 mo (.ifCond .ne z, nx, a, b, f, v) L st σ).bind ax_pick = some sr) (hT : ax_Nx p l e R s m args below meth c Q B e0 mo d y pc D cells slots σ sr) (hC : ax_Cx p l R s m args meth c B e0 mo d y D) (hh : ax_hp B D σ s H) (hS : va_S (ax_GA B) s.heap H locs) (hlo : ax_lo ls L) (hLs : L.length = ax_L y) (hcs : cells ≤ R.cells ∧ slots ≤ R.slots) : W p l e R s m args below meth c H locs cells slots Q (F0 m pc ls (st.map avV)) := by
  obtain ⟨hx, hb, hml, hown, hts, hnm, hK, hG, hB, hRf, hRl, hfl, htab, hlk⟩ := id hC
  obtain ⟨hy9, -, -, hle, hk⟩ := ax_code_ok hcd
  obtain ⟨hn, hd⟩ := ax_dec hcd rfl
  subst hn
  exact si_if (fun x rest k1 k2 => lv_if_ne hx hb hd (of_decide_eq_true hk) k2 k1) hs hT hh hS hlo
theorem sx_if_lt {z : Int} (hcd : ax_code y pc = some (.ifCond .lt z, nx, a, b, f, v)) (hs : (ax_sem e0 mo (.ifCond .lt z, nx, a, b, f, v) L st σ).bind ax_pick = some sr) (hT : ax_Nx p l e R s m args below meth c Q B e0 mo d y pc D cells slots σ sr) (hC : ax_Cx p l R s m args meth c B e0 mo d y D) (hh : ax_hp B D σ s H) (hS : va_S (ax_GA B) s.heap H locs) (hlo : ax_lo ls L) (hLs : L.length = ax_L y) (hcs : cells ≤ R.cells ∧ slots ≤ R.slots) : W p l e R s m args below meth c H locs cells slots Q (F0 m pc ls (st.map avV)) := by
  obtain ⟨hx, hb, hml, hown, hts, hnm, hK, hG, hB, hRf, hRl, hfl, htab, hlk⟩ := id hC
  obtain ⟨hy9, -, -, hle, hk⟩ := ax_code_ok hcd
  obtain ⟨hn, hd⟩ := ax_dec hcd rfl
  subst hn
  exact si_if (fun x rest k1 k2 => lv_if_lt hx hb hd (of_decide_eq_true hk) k1 k2) hs hT hh hS hlo
theorem sx_if_ge {z : Int} (hcd : ax_code y pc = some (.ifCond .ge z, nx, a, b, f, v)) (hs : (ax_sem e0 mo (.ifCond .ge z, nx, a, b, f, v) L st σ).bind ax_pick = some sr) (hT : ax_Nx p l e R s m args below meth c Q B e0 mo d y pc D cells slots σ sr) (hC : ax_Cx p l R s m args meth c B e0 mo d y D) (hh : ax_hp B D σ s H) (hS : va_S (ax_GA B) s.heap H locs) (hlo : ax_lo ls L) (hLs : L.length = ax_L y) (hcs : cells ≤ R.cells ∧ slots ≤ R.slots) : W p l e R s m args below meth c H locs cells slots Q (F0 m pc ls (st.map avV)) := by
  obtain ⟨hx, hb, hml, hown, hts, hnm, hK, hG, hB, hRf, hRl, hfl, htab, hlk⟩ := id hC
  obtain ⟨hy9, -, -, hle, hk⟩ := ax_code_ok hcd
  obtain ⟨hn, hd⟩ := ax_dec hcd rfl
  subst hn
  exact si_if (fun x rest k1 k2 => lv_if_ge hx hb hd (of_decide_eq_true hk) (fun h => k2 (Int32.not_lt.mpr h)) (fun h => k1 (Int32.not_le.mp h))) hs hT hh hS hlo
theorem sx_if_gt {z : Int} (hcd : ax_code y pc = some (.ifCond .gt z, nx, a, b, f, v)) (hs : (ax_sem e0 mo (.ifCond .gt z, nx, a, b, f, v) L st σ).bind ax_pick = some sr) (hT : ax_Nx p l e R s m args below meth c Q B e0 mo d y pc D cells slots σ sr) (hC : ax_Cx p l R s m args meth c B e0 mo d y D) (hh : ax_hp B D σ s H) (hS : va_S (ax_GA B) s.heap H locs) (hlo : ax_lo ls L) (hLs : L.length = ax_L y) (hcs : cells ≤ R.cells ∧ slots ≤ R.slots) : W p l e R s m args below meth c H locs cells slots Q (F0 m pc ls (st.map avV)) := by
  obtain ⟨hx, hb, hml, hown, hts, hnm, hK, hG, hB, hRf, hRl, hfl, htab, hlk⟩ := id hC
  obtain ⟨hy9, -, -, hle, hk⟩ := ax_code_ok hcd
  obtain ⟨hn, hd⟩ := ax_dec hcd rfl
  subst hn
  exact si_if (fun x rest k1 k2 => lv_if_gt hx hb hd (of_decide_eq_true hk) k1 k2) hs hT hh hS hlo
theorem sx_if_le {z : Int} (hcd : ax_code y pc = some (.ifCond .le z, nx, a, b, f, v)) (hs : (ax_sem e0 mo (.ifCond .le z, nx, a, b, f, v) L st σ).bind ax_pick = some sr) (hT : ax_Nx p l e R s m args below meth c Q B e0 mo d y pc D cells slots σ sr) (hC : ax_Cx p l R s m args meth c B e0 mo d y D) (hh : ax_hp B D σ s H) (hS : va_S (ax_GA B) s.heap H locs) (hlo : ax_lo ls L) (hLs : L.length = ax_L y) (hcs : cells ≤ R.cells ∧ slots ≤ R.slots) : W p l e R s m args below meth c H locs cells slots Q (F0 m pc ls (st.map avV)) := by
  obtain ⟨hx, hb, hml, hown, hts, hnm, hK, hG, hB, hRf, hRl, hfl, htab, hlk⟩ := id hC
  obtain ⟨hy9, -, -, hle, hk⟩ := ax_code_ok hcd
  obtain ⟨hn, hd⟩ := ax_dec hcd rfl
  subst hn
  exact si_if (fun x rest k1 k2 => lv_if_le hx hb hd (of_decide_eq_true hk) (fun h => k2 (Int32.not_lt.mpr h)) (fun h => k1 (Int32.not_le.mp h))) hs hT hh hS hlo
theorem sx_ic_eq {z : Int} (hcd : ax_code y pc = some (.if_icmp .eq z, nx, a, b, f, v)) (hs : (ax_sem e0 mo (.if_icmp .eq z, nx, a, b, f, v) L st σ).bind ax_pick = some sr) (hT : ax_Nx p l e R s m args below meth c Q B e0 mo d y pc D cells slots σ sr) (hC : ax_Cx p l R s m args meth c B e0 mo d y D) (hh : ax_hp B D σ s H) (hS : va_S (ax_GA B) s.heap H locs) (hlo : ax_lo ls L) (hLs : L.length = ax_L y) (hcs : cells ≤ R.cells ∧ slots ≤ R.slots) : W p l e R s m args below meth c H locs cells slots Q (F0 m pc ls (st.map avV)) := by
  obtain ⟨hx, hb, hml, hown, hts, hnm, hK, hG, hB, hRf, hRl, hfl, htab, hlk⟩ := id hC
  obtain ⟨hy9, -, -, hle, hk⟩ := ax_code_ok hcd
  obtain ⟨hn, hd⟩ := ax_dec hcd rfl
  subst hn
  exact si_if2 (fun x y rest k1 k2 => lv_icmp_eq hx hb hd (of_decide_eq_true hk) k1 k2) hs hT hh hS hlo
theorem sx_ic_ne {z : Int} (hcd : ax_code y pc = some (.if_icmp .ne z, nx, a, b, f, v)) (hs : (ax_sem e0 mo (.if_icmp .ne z, nx, a, b, f, v) L st σ).bind ax_pick = some sr) (hT : ax_Nx p l e R s m args below meth c Q B e0 mo d y pc D cells slots σ sr) (hC : ax_Cx p l R s m args meth c B e0 mo d y D) (hh : ax_hp B D σ s H) (hS : va_S (ax_GA B) s.heap H locs) (hlo : ax_lo ls L) (hLs : L.length = ax_L y) (hcs : cells ≤ R.cells ∧ slots ≤ R.slots) : W p l e R s m args below meth c H locs cells slots Q (F0 m pc ls (st.map avV)) := by
  obtain ⟨hx, hb, hml, hown, hts, hnm, hK, hG, hB, hRf, hRl, hfl, htab, hlk⟩ := id hC
  obtain ⟨hy9, -, -, hle, hk⟩ := ax_code_ok hcd
  obtain ⟨hn, hd⟩ := ax_dec hcd rfl
  subst hn
  exact si_if2 (fun x y rest k1 k2 => lv_icmp_ne hx hb hd (of_decide_eq_true hk) k2 k1) hs hT hh hS hlo
theorem sx_ic_lt {z : Int} (hcd : ax_code y pc = some (.if_icmp .lt z, nx, a, b, f, v)) (hs : (ax_sem e0 mo (.if_icmp .lt z, nx, a, b, f, v) L st σ).bind ax_pick = some sr) (hT : ax_Nx p l e R s m args below meth c Q B e0 mo d y pc D cells slots σ sr) (hC : ax_Cx p l R s m args meth c B e0 mo d y D) (hh : ax_hp B D σ s H) (hS : va_S (ax_GA B) s.heap H locs) (hlo : ax_lo ls L) (hLs : L.length = ax_L y) (hcs : cells ≤ R.cells ∧ slots ≤ R.slots) : W p l e R s m args below meth c H locs cells slots Q (F0 m pc ls (st.map avV)) := by
  obtain ⟨hx, hb, hml, hown, hts, hnm, hK, hG, hB, hRf, hRl, hfl, htab, hlk⟩ := id hC
  obtain ⟨hy9, -, -, hle, hk⟩ := ax_code_ok hcd
  obtain ⟨hn, hd⟩ := ax_dec hcd rfl
  subst hn
  exact si_if2 (fun x y rest k1 k2 => lv_icmp_lt hx hb hd (of_decide_eq_true hk) k1 k2) hs hT hh hS hlo
theorem sx_ic_ge {z : Int} (hcd : ax_code y pc = some (.if_icmp .ge z, nx, a, b, f, v)) (hs : (ax_sem e0 mo (.if_icmp .ge z, nx, a, b, f, v) L st σ).bind ax_pick = some sr) (hT : ax_Nx p l e R s m args below meth c Q B e0 mo d y pc D cells slots σ sr) (hC : ax_Cx p l R s m args meth c B e0 mo d y D) (hh : ax_hp B D σ s H) (hS : va_S (ax_GA B) s.heap H locs) (hlo : ax_lo ls L) (hLs : L.length = ax_L y) (hcs : cells ≤ R.cells ∧ slots ≤ R.slots) : W p l e R s m args below meth c H locs cells slots Q (F0 m pc ls (st.map avV)) := by
  obtain ⟨hx, hb, hml, hown, hts, hnm, hK, hG, hB, hRf, hRl, hfl, htab, hlk⟩ := id hC
  obtain ⟨hy9, -, -, hle, hk⟩ := ax_code_ok hcd
  obtain ⟨hn, hd⟩ := ax_dec hcd rfl
  subst hn
  exact si_if2 (fun x y rest k1 k2 => lv_icmp_ge hx hb hd (of_decide_eq_true hk) (fun h => k2 (Int32.not_lt.mpr h)) (fun h => k1 (Int32.not_le.mp h))) hs hT hh hS hlo
theorem sx_ic_gt {z : Int} (hcd : ax_code y pc = some (.if_icmp .gt z, nx, a, b, f, v)) (hs : (ax_sem e0 mo (.if_icmp .gt z, nx, a, b, f, v) L st σ).bind ax_pick = some sr) (hT : ax_Nx p l e R s m args below meth c Q B e0 mo d y pc D cells slots σ sr) (hC : ax_Cx p l R s m args meth c B e0 mo d y D) (hh : ax_hp B D σ s H) (hS : va_S (ax_GA B) s.heap H locs) (hlo : ax_lo ls L) (hLs : L.length = ax_L y) (hcs : cells ≤ R.cells ∧ slots ≤ R.slots) : W p l e R s m args below meth c H locs cells slots Q (F0 m pc ls (st.map avV)) := by
  obtain ⟨hx, hb, hml, hown, hts, hnm, hK, hG, hB, hRf, hRl, hfl, htab, hlk⟩ := id hC
  obtain ⟨hy9, -, -, hle, hk⟩ := ax_code_ok hcd
  obtain ⟨hn, hd⟩ := ax_dec hcd rfl
  subst hn
  exact si_if2 (fun x y rest k1 k2 => lv_icmp_gt hx hb hd (of_decide_eq_true hk) k1 k2) hs hT hh hS hlo
theorem sx_ic_le {z : Int} (hcd : ax_code y pc = some (.if_icmp .le z, nx, a, b, f, v)) (hs : (ax_sem e0 mo (.if_icmp .le z, nx, a, b, f, v) L st σ).bind ax_pick = some sr) (hT : ax_Nx p l e R s m args below meth c Q B e0 mo d y pc D cells slots σ sr) (hC : ax_Cx p l R s m args meth c B e0 mo d y D) (hh : ax_hp B D σ s H) (hS : va_S (ax_GA B) s.heap H locs) (hlo : ax_lo ls L) (hLs : L.length = ax_L y) (hcs : cells ≤ R.cells ∧ slots ≤ R.slots) : W p l e R s m args below meth c H locs cells slots Q (F0 m pc ls (st.map avV)) := by
  obtain ⟨hx, hb, hml, hown, hts, hnm, hK, hG, hB, hRf, hRl, hfl, htab, hlk⟩ := id hC
  obtain ⟨hy9, -, -, hle, hk⟩ := ax_code_ok hcd
  obtain ⟨hn, hd⟩ := ax_dec hcd rfl
  subst hn
  exact si_if2 (fun x y rest k1 k2 => lv_icmp_le hx hb hd (of_decide_eq_true hk) (fun h => k2 (Int32.not_lt.mpr h)) (fun h => k1 (Int32.not_le.mp h))) hs hT hh hS hlo
theorem sx_ac_eq {z : Int} (hcd : ax_code y pc = some (.if_acmp .eq z, nx, a, b, f, v)) (hs : (ax_sem e0 mo (.if_acmp .eq z, nx, a, b, f, v) L st σ).bind ax_pick = some sr) (hT : ax_Nx p l e R s m args below meth c Q B e0 mo d y pc D cells slots σ sr) (hC : ax_Cx p l R s m args meth c B e0 mo d y D) (hh : ax_hp B D σ s H) (hS : va_S (ax_GA B) s.heap H locs) (hlo : ax_lo ls L) (hLs : L.length = ax_L y) (hcs : cells ≤ R.cells ∧ slots ≤ R.slots) : W p l e R s m args below meth c H locs cells slots Q (F0 m pc ls (st.map avV)) := by
  obtain ⟨hx, hb, hml, hown, hts, hnm, hK, hG, hB, hRf, hRl, hfl, htab, hlk⟩ := id hC
  obtain ⟨hy9, -, -, hle, hk⟩ := ax_code_ok hcd
  obtain ⟨hn, hd⟩ := ax_dec hcd rfl
  subst hn
  exact si_acmp (fun x rest k1 => lv_acmp_eq hx hb hd (of_decide_eq_true hk) (fun _ => k1) (fun h => absurd rfl h)) hs hT hh hS hlo
theorem sx_ac_ne {z : Int} (hcd : ax_code y pc = some (.if_acmp .ne z, nx, a, b, f, v)) (hs : (ax_sem e0 mo (.if_acmp .ne z, nx, a, b, f, v) L st σ).bind ax_pick = some sr) (hT : ax_Nx p l e R s m args below meth c Q B e0 mo d y pc D cells slots σ sr) (hC : ax_Cx p l R s m args meth c B e0 mo d y D) (hh : ax_hp B D σ s H) (hS : va_S (ax_GA B) s.heap H locs) (hlo : ax_lo ls L) (hLs : L.length = ax_L y) (hcs : cells ≤ R.cells ∧ slots ≤ R.slots) : W p l e R s m args below meth c H locs cells slots Q (F0 m pc ls (st.map avV)) := by
  obtain ⟨hx, hb, hml, hown, hts, hnm, hK, hG, hB, hRf, hRl, hfl, htab, hlk⟩ := id hC
  obtain ⟨hy9, -, -, hle, hk⟩ := ax_code_ok hcd
  obtain ⟨hn, hd⟩ := ax_dec hcd rfl
  subst hn
  exact si_acmp (fun x rest k1 => lv_acmp_ne hx hb hd (of_decide_eq_true hk) (fun h => absurd rfl h) (fun _ => k1)) hs hT hh hS hlo
theorem sx_ifnull {z : Int} (hcd : ax_code y pc = some (.ifnull z, nx, a, b, f, v)) (hs : (ax_sem e0 mo (.ifnull z, nx, a, b, f, v) L st σ).bind ax_pick = some sr) (hT : ax_Nx p l e R s m args below meth c Q B e0 mo d y pc D cells slots σ sr) (hC : ax_Cx p l R s m args meth c B e0 mo d y D) (hh : ax_hp B D σ s H) (hS : va_S (ax_GA B) s.heap H locs) (hlo : ax_lo ls L) (hLs : L.length = ax_L y) (hcs : cells ≤ R.cells ∧ slots ≤ R.slots) : W p l e R s m args below meth c H locs cells slots Q (F0 m pc ls (st.map avV)) := by
  obtain ⟨hx, hb, hml, hown, hts, hnm, hK, hG, hB, hRf, hRl, hfl, htab, hlk⟩ := id hC
  obtain ⟨hy9, -, -, hle, hk⟩ := ax_code_ok hcd
  obtain ⟨hn, hd⟩ := ax_dec hcd rfl
  subst hn
  refine si_nul (fun r rest k1 k2 => ?_) hs hT hh hS hlo
  cases r with
  | zero => exact lv_ifnullN hx hb hd (of_decide_eq_true hk) (k1 rfl)
  | succ r => exact lv_ifnull hx hb hd (k2 (Nat.succ_ne_zero r))
theorem sx_ifnonnull {z : Int} (hcd : ax_code y pc = some (.ifnonnull z, nx, a, b, f, v)) (hs : (ax_sem e0 mo (.ifnonnull z, nx, a, b, f, v) L st σ).bind ax_pick = some sr) (hT : ax_Nx p l e R s m args below meth c Q B e0 mo d y pc D cells slots σ sr) (hC : ax_Cx p l R s m args meth c B e0 mo d y D) (hh : ax_hp B D σ s H) (hS : va_S (ax_GA B) s.heap H locs) (hlo : ax_lo ls L) (hLs : L.length = ax_L y) (hcs : cells ≤ R.cells ∧ slots ≤ R.slots) : W p l e R s m args below meth c H locs cells slots Q (F0 m pc ls (st.map avV)) := by
  obtain ⟨hx, hb, hml, hown, hts, hnm, hK, hG, hB, hRf, hRl, hfl, htab, hlk⟩ := id hC
  obtain ⟨hy9, -, -, hle, hk⟩ := ax_code_ok hcd
  obtain ⟨hn, hd⟩ := ax_dec hcd rfl
  subst hn
  refine si_nul (fun r rest k1 k2 => ?_) hs hT hh hS hlo
  cases r with
  | zero => exact lv_ifnonnullN hx hb hd (k1 rfl)
  | succ r => exact lv_ifnonnull hx hb hd (of_decide_eq_true hk) (k2 (Nat.succ_ne_zero r))
theorem sx_getfield {j : Nat} (hcd : ax_code y pc = some (.getfield j, nx, a, b, f, v)) (hs : (ax_sem e0 mo (.getfield j, nx, a, b, f, v) L st σ).bind ax_pick = some sr) (hT : ax_Nx p l e R s m args below meth c Q B e0 mo d y pc D cells slots σ sr) (hC : ax_Cx p l R s m args meth c B e0 mo d y D) (hh : ax_hp B D σ s H) (hS : va_S (ax_GA B) s.heap H locs) (hlo : ax_lo ls L) (hLs : L.length = ax_L y) (hcs : cells ≤ R.cells ∧ slots ≤ R.slots) : W p l e R s m args below meth c H locs cells slots Q (F0 m pc ls (st.map avV)) := by
  obtain ⟨hx, hb, hml, hown, hts, hnm, hK, hG, hB, hRf, hRl, hfl, htab, hlk⟩ := id hC
  obtain ⟨hy9, -, -, hle, hk⟩ := ax_code_ok hcd
  obtain ⟨hn, hd⟩ := ax_dec hcd rfl
  exact sj_get hk hd hn hs hT hC hh hS hlo
theorem sx_putfield {j : Nat} (hcd : ax_code y pc = some (.putfield j, nx, a, b, f, v)) (hs : (ax_sem e0 mo (.putfield j, nx, a, b, f, v) L st σ).bind ax_pick = some sr) (hT : ax_Nx p l e R s m args below meth c Q B e0 mo d y pc D cells slots σ sr) (hC : ax_Cx p l R s m args meth c B e0 mo d y D) (hh : ax_hp B D σ s H) (hS : va_S (ax_GA B) s.heap H locs) (hlo : ax_lo ls L) (hLs : L.length = ax_L y) (hcs : cells ≤ R.cells ∧ slots ≤ R.slots) : W p l e R s m args below meth c H locs cells slots Q (F0 m pc ls (st.map avV)) := by
  obtain ⟨hx, hb, hml, hown, hts, hnm, hK, hG, hB, hRf, hRl, hfl, htab, hlk⟩ := id hC
  obtain ⟨hy9, -, -, hle, hk⟩ := ax_code_ok hcd
  obtain ⟨hn, hd⟩ := ax_dec hcd rfl
  have hk : (ax_LF.any (fun q => Nat.beq q.1 (ax_own y) && Nat.beq q.2.1 j && Nat.beq q.2.2.1 a && Nat.beq q.2.2.2.1 b && Nat.beq q.2.2.2.2.1 f) && (bif (ax_T a b).2.2.2 then Nat.beq (ax_op y) 2 && Nat.beq (ax_ck y) a else true)) = true := hk
  rw [Bool.and_eq_true] at hk
  obtain ⟨hk, h2⟩ := hk
  refine sj_put hk (fun h => ?_) hd hn hs hT hC hh hS hlo
  rw [h] at h2
  have h2 : (Nat.beq (ax_op y) 2 && Nat.beq (ax_ck y) a) = true := h2
  rw [Bool.and_eq_true] at h2
  have ho := ax_beq h2.1
  have hc9 := ax_beq h2.2
  obtain ⟨ref, g1, g2, g3, -, -⟩ := ax_lf hk
  refine ⟨ho, ?_, ax_tf g2 h⟩
  rw [← hc9]
  exact ax_cto hy9 ho (by rw [hc9]; exact g2)
theorem sx_getstatic {j : Nat} (hcd : ax_code y pc = some (.getstatic j, nx, a, b, f, v)) (hs : (ax_sem e0 mo (.getstatic j, nx, a, b, f, v) L st σ).bind ax_pick = some sr) (hT : ax_Nx p l e R s m args below meth c Q B e0 mo d y pc D cells slots σ sr) (hC : ax_Cx p l R s m args meth c B e0 mo d y D) (hh : ax_hp B D σ s H) (hS : va_S (ax_GA B) s.heap H locs) (hlo : ax_lo ls L) (hLs : L.length = ax_L y) (hcs : cells ≤ R.cells ∧ slots ≤ R.slots) : W p l e R s m args below meth c H locs cells slots Q (F0 m pc ls (st.map avV)) := by
  obtain ⟨hx, hb, hml, hown, hts, hnm, hK, hG, hB, hRf, hRl, hfl, htab, hlk⟩ := id hC
  obtain ⟨hy9, -, -, hle, hk⟩ := ax_code_ok hcd
  obtain ⟨hn, hd⟩ := ax_dec hcd rfl
  have hk : (Nat.beq j 39 && Nat.beq (ax_own y) 11) = true := hk
  rw [Bool.and_eq_true] at hk
  exact sk_gets ⟨ax_beq hk.1, by rw [ax_beq hk.2]; rfl⟩ hd hn hs hT hC hh hS hlo
theorem sx_iaload (hcd : ax_code y pc = some (.iaload, nx, a, b, f, v)) (hs : (ax_sem e0 mo (.iaload, nx, a, b, f, v) L st σ).bind ax_pick = some sr) (hT : ax_Nx p l e R s m args below meth c Q B e0 mo d y pc D cells slots σ sr) (hC : ax_Cx p l R s m args meth c B e0 mo d y D) (hh : ax_hp B D σ s H) (hS : va_S (ax_GA B) s.heap H locs) (hlo : ax_lo ls L) (hLs : L.length = ax_L y) (hcs : cells ≤ R.cells ∧ slots ≤ R.slots) : W p l e R s m args below meth c H locs cells slots Q (F0 m pc ls (st.map avV)) := by
  obtain ⟨hx, hb, hml, hown, hts, hnm, hK, hG, hB, hRf, hRl, hfl, htab, hlk⟩ := id hC
  obtain ⟨hy9, -, -, hle, hk⟩ := ax_code_ok hcd
  obtain ⟨hn, hd⟩ := ax_dec hcd rfl
  subst hn
  have hk : (Nat.beq a 20 || Nat.beq a 25) = true := hk
  rw [Bool.or_eq_true] at hk
  rcases hk with hk | hk
  · obtain rfl := ax_beq hk
    exact sj_ald (fun q cell i w rest h1 h2 h3 h4 h5 k => W.iald hx hb h1 h2 h3 h4 h5 rfl rfl hd k) (Or.inl rfl) hs hT hC hh hS hlo
  · obtain rfl := ax_beq hk
    exact sj_ald (fun q cell i w rest h1 h2 h3 h4 h5 k => W.iald hx hb h1 h2 h3 h4 h5 rfl rfl hd k) (Or.inr (Or.inr rfl)) hs hT hC hh hS hlo
theorem sx_baload (hcd : ax_code y pc = some (.baload, nx, a, b, f, v)) (hs : (ax_sem e0 mo (.baload, nx, a, b, f, v) L st σ).bind ax_pick = some sr) (hT : ax_Nx p l e R s m args below meth c Q B e0 mo d y pc D cells slots σ sr) (hC : ax_Cx p l R s m args meth c B e0 mo d y D) (hh : ax_hp B D σ s H) (hS : va_S (ax_GA B) s.heap H locs) (hlo : ax_lo ls L) (hLs : L.length = ax_L y) (hcs : cells ≤ R.cells ∧ slots ≤ R.slots) : W p l e R s m args below meth c H locs cells slots Q (F0 m pc ls (st.map avV)) := by
  obtain ⟨hx, hb, hml, hown, hts, hnm, hK, hG, hB, hRf, hRl, hfl, htab, hlk⟩ := id hC
  obtain ⟨hy9, -, -, hle, hk⟩ := ax_code_ok hcd
  obtain ⟨hn, hd⟩ := ax_dec hcd rfl
  subst hn
  exact sj_ald (a := 21) (fun q cell i w rest h1 h2 h3 h4 h5 k => W.zald hx hb h1 h2 h3 h4 h5 rfl rfl hd k) (Or.inr (Or.inl rfl)) hs hT hC hh hS hlo
theorem sx_laload (hcd : ax_code y pc = some (.laload, nx, a, b, f, v)) (hs : (ax_sem e0 mo (.laload, nx, a, b, f, v) L st σ).bind ax_pick = some sr) (hT : ax_Nx p l e R s m args below meth c Q B e0 mo d y pc D cells slots σ sr) (hC : ax_Cx p l R s m args meth c B e0 mo d y D) (hh : ax_hp B D σ s H) (hS : va_S (ax_GA B) s.heap H locs) (hlo : ax_lo ls L) (hLs : L.length = ax_L y) (hcs : cells ≤ R.cells ∧ slots ≤ R.slots) : W p l e R s m args below meth c H locs cells slots Q (F0 m pc ls (st.map avV)) := by
  obtain ⟨hx, hb, hml, hown, hts, hnm, hK, hG, hB, hRf, hRl, hfl, htab, hlk⟩ := id hC
  obtain ⟨hy9, -, -, hle, hk⟩ := ax_code_ok hcd
  obtain ⟨hn, hd⟩ := ax_dec hcd rfl
  exact sj_aldJ hd hn hs hT hC hh hS hlo
theorem sx_aaload (hcd : ax_code y pc = some (.aaload, nx, a, b, f, v)) (hs : (ax_sem e0 mo (.aaload, nx, a, b, f, v) L st σ).bind ax_pick = some sr) (hT : ax_Nx p l e R s m args below meth c Q B e0 mo d y pc D cells slots σ sr) (hC : ax_Cx p l R s m args meth c B e0 mo d y D) (hh : ax_hp B D σ s H) (hS : va_S (ax_GA B) s.heap H locs) (hlo : ax_lo ls L) (hLs : L.length = ax_L y) (hcs : cells ≤ R.cells ∧ slots ≤ R.slots) : W p l e R s m args below meth c H locs cells slots Q (F0 m pc ls (st.map avV)) := by
  obtain ⟨hx, hb, hml, hown, hts, hnm, hK, hG, hB, hRf, hRl, hfl, htab, hlk⟩ := id hC
  obtain ⟨hy9, -, -, hle, hk⟩ := ax_code_ok hcd
  obtain ⟨hn, hd⟩ := ax_dec hcd rfl
  have hk : (Nat.beq a 23 || Nat.beq a 24) = true := hk
  rw [Bool.or_eq_true] at hk
  exact sj_aldR hd hn (hk.imp ax_beq ax_beq) hs hT hC hh hS hlo
theorem sx_iastore (hcd : ax_code y pc = some (.iastore, nx, a, b, f, v)) (hs : (ax_sem e0 mo (.iastore, nx, a, b, f, v) L st σ).bind ax_pick = some sr) (hT : ax_Nx p l e R s m args below meth c Q B e0 mo d y pc D cells slots σ sr) (hC : ax_Cx p l R s m args meth c B e0 mo d y D) (hh : ax_hp B D σ s H) (hS : va_S (ax_GA B) s.heap H locs) (hlo : ax_lo ls L) (hLs : L.length = ax_L y) (hcs : cells ≤ R.cells ∧ slots ≤ R.slots) : W p l e R s m args below meth c H locs cells slots Q (F0 m pc ls (st.map avV)) := by
  obtain ⟨hx, hb, hml, hown, hts, hnm, hK, hG, hB, hRf, hRl, hfl, htab, hlk⟩ := id hC
  obtain ⟨hy9, -, -, hle, hk⟩ := ax_code_ok hcd
  obtain ⟨hn, hd⟩ := ax_dec hcd rfl
  exact sj_ast hd hn hs hT hC hh hS hlo
theorem sx_bastore (hcd : ax_code y pc = some (.bastore, nx, a, b, f, v)) (hs : (ax_sem e0 mo (.bastore, nx, a, b, f, v) L st σ).bind ax_pick = some sr) (hT : ax_Nx p l e R s m args below meth c Q B e0 mo d y pc D cells slots σ sr) (hC : ax_Cx p l R s m args meth c B e0 mo d y D) (hh : ax_hp B D σ s H) (hS : va_S (ax_GA B) s.heap H locs) (hlo : ax_lo ls L) (hLs : L.length = ax_L y) (hcs : cells ≤ R.cells ∧ slots ≤ R.slots) : W p l e R s m args below meth c H locs cells slots Q (F0 m pc ls (st.map avV)) := by
  obtain ⟨hx, hb, hml, hown, hts, hnm, hK, hG, hB, hRf, hRl, hfl, htab, hlk⟩ := id hC
  obtain ⟨hy9, -, -, hle, hk⟩ := ax_code_ok hcd
  obtain ⟨hn, hd⟩ := ax_dec hcd rfl
  exact sj_astZ hd hn hs hT hC hh hS hlo
theorem sx_lastore (hcd : ax_code y pc = some (.lastore, nx, a, b, f, v)) (hs : (ax_sem e0 mo (.lastore, nx, a, b, f, v) L st σ).bind ax_pick = some sr) (hT : ax_Nx p l e R s m args below meth c Q B e0 mo d y pc D cells slots σ sr) (hC : ax_Cx p l R s m args meth c B e0 mo d y D) (hh : ax_hp B D σ s H) (hS : va_S (ax_GA B) s.heap H locs) (hlo : ax_lo ls L) (hLs : L.length = ax_L y) (hcs : cells ≤ R.cells ∧ slots ≤ R.slots) : W p l e R s m args below meth c H locs cells slots Q (F0 m pc ls (st.map avV)) := by
  obtain ⟨hx, hb, hml, hown, hts, hnm, hK, hG, hB, hRf, hRl, hfl, htab, hlk⟩ := id hC
  obtain ⟨hy9, -, -, hle, hk⟩ := ax_code_ok hcd
  obtain ⟨hn, hd⟩ := ax_dec hcd rfl
  exact sj_astJ hd hn hs hT hC hh hS hlo
theorem sx_aastore (hcd : ax_code y pc = some (.aastore, nx, a, b, f, v)) (hs : (ax_sem e0 mo (.aastore, nx, a, b, f, v) L st σ).bind ax_pick = some sr) (hT : ax_Nx p l e R s m args below meth c Q B e0 mo d y pc D cells slots σ sr) (hC : ax_Cx p l R s m args meth c B e0 mo d y D) (hh : ax_hp B D σ s H) (hS : va_S (ax_GA B) s.heap H locs) (hlo : ax_lo ls L) (hLs : L.length = ax_L y) (hcs : cells ≤ R.cells ∧ slots ≤ R.slots) : W p l e R s m args below meth c H locs cells slots Q (F0 m pc ls (st.map avV)) := by
  obtain ⟨hx, hb, hml, hown, hts, hnm, hK, hG, hB, hRf, hRl, hfl, htab, hlk⟩ := id hC
  obtain ⟨hy9, -, -, hle, hk⟩ := ax_code_ok hcd
  obtain ⟨hn, hd⟩ := ax_dec hcd rfl
  have hk : (Nat.beq a 23 || Nat.beq a 24) = true := hk
  rw [Bool.or_eq_true] at hk
  exact sq_astR hd hn (hk.imp ax_beq ax_beq) hs hT hC hh hS hlo
theorem sx_arraylength (hcd : ax_code y pc = some (.arraylength, nx, a, b, f, v)) (hs : (ax_sem e0 mo (.arraylength, nx, a, b, f, v) L st σ).bind ax_pick = some sr) (hT : ax_Nx p l e R s m args below meth c Q B e0 mo d y pc D cells slots σ sr) (hC : ax_Cx p l R s m args meth c B e0 mo d y D) (hh : ax_hp B D σ s H) (hS : va_S (ax_GA B) s.heap H locs) (hlo : ax_lo ls L) (hLs : L.length = ax_L y) (hcs : cells ≤ R.cells ∧ slots ≤ R.slots) : W p l e R s m args below meth c H locs cells slots Q (F0 m pc ls (st.map avV)) := by
  obtain ⟨hx, hb, hml, hown, hts, hnm, hK, hG, hB, hRf, hRl, hfl, htab, hlk⟩ := id hC
  obtain ⟨hy9, -, -, hle, hk⟩ := ax_code_ok hcd
  obtain ⟨hn, hd⟩ := ax_dec hcd rfl
  exact sk_len hd hn hs hT hC hh hS hlo
theorem sx_new {j : Nat} (hcd : ax_code y pc = some (.new j, nx, a, b, f, v)) (hs : (ax_sem e0 mo (.new j, nx, a, b, f, v) L st σ).bind ax_pick = some sr) (hT : ax_Nx p l e R s m args below meth c Q B e0 mo d y pc D cells slots σ sr) (hC : ax_Cx p l R s m args meth c B e0 mo d y D) (hh : ax_hp B D σ s H) (hS : va_S (ax_GA B) s.heap H locs) (hlo : ax_lo ls L) (hLs : L.length = ax_L y) (hcs : cells ≤ R.cells ∧ slots ≤ R.slots) : W p l e R s m args below meth c H locs cells slots Q (F0 m pc ls (st.map avV)) := by
  obtain ⟨hx, hb, hml, hown, hts, hnm, hK, hG, hB, hRf, hRl, hfl, htab, hlk⟩ := id hC
  obtain ⟨hy9, -, -, hle, hk⟩ := ax_code_ok hcd
  obtain ⟨hn, hd⟩ := ax_dec hcd rfl
  have hk : (bif Nat.beq f 1 then ax_LT.any (fun q => Nat.beq q.1 y && Nat.beq q.2.1 pc && Nat.beq q.2.2.1 a && Nat.beq q.2.2.2.1 j) else ax_LN.any (fun q => Nat.beq q.1 (ax_own y) && Nat.beq q.2.1 j && Nat.beq q.2.2.1 a && Nat.beq q.2.2.2.1 b)) = true := hk
  have hs : (bif Nat.beq f 1 then (match (generalizing := false) st with
          | [] => some (.inl (.inr (.inr (.inr (a, thrC σ)))))
          | _ => none) else ax_go nx L (aR (sgZ σ) :: st) (mkC σ a b) : Option SM).bind ax_pick = some sr := hs
  cases q : Nat.beq f 1 with
  | true =>
    rw [q] at hk hs
    exact sq_throw hk hLs hs hT hC hh hS hlo
  | false =>
    rw [q] at hk hs
    exact sk_new hk hd hn hs hT hC hh hS hlo
theorem sx_newarray {t : ArrayType} (hcd : ax_code y pc = some (.newarray t, nx, a, b, f, v)) (hs : (ax_sem e0 mo (.newarray t, nx, a, b, f, v) L st σ).bind ax_pick = some sr) (hT : ax_Nx p l e R s m args below meth c Q B e0 mo d y pc D cells slots σ sr) (hC : ax_Cx p l R s m args meth c B e0 mo d y D) (hh : ax_hp B D σ s H) (hS : va_S (ax_GA B) s.heap H locs) (hlo : ax_lo ls L) (hLs : L.length = ax_L y) (hcs : cells ≤ R.cells ∧ slots ≤ R.slots) : W p l e R s m args below meth c H locs cells slots Q (F0 m pc ls (st.map avV)) := by
  obtain ⟨hx, hb, hml, hown, hts, hnm, hK, hG, hB, hRf, hRl, hfl, htab, hlk⟩ := id hC
  obtain ⟨hy9, -, -, hle, hk⟩ := ax_code_ok hcd
  obtain ⟨hn, hd⟩ := ax_dec hcd rfl
  exact sk_newa (of_decide_eq_true hk) hd hn hs hT hC hh hS hlo
theorem sx_anewarray {j : Nat} (hcd : ax_code y pc = some (.anewarray j, nx, a, b, f, v)) (hs : (ax_sem e0 mo (.anewarray j, nx, a, b, f, v) L st σ).bind ax_pick = some sr) (hT : ax_Nx p l e R s m args below meth c Q B e0 mo d y pc D cells slots σ sr) (hC : ax_Cx p l R s m args meth c B e0 mo d y D) (hh : ax_hp B D σ s H) (hS : va_S (ax_GA B) s.heap H locs) (hlo : ax_lo ls L) (hLs : L.length = ax_L y) (hcs : cells ≤ R.cells ∧ slots ≤ R.slots) : W p l e R s m args below meth c H locs cells slots Q (F0 m pc ls (st.map avV)) := by
  obtain ⟨hx, hb, hml, hown, hts, hnm, hK, hG, hB, hRf, hRl, hfl, htab, hlk⟩ := id hC
  obtain ⟨hy9, -, -, hle, hk⟩ := ax_code_ok hcd
  obtain ⟨hn, hd⟩ := ax_dec hcd rfl
  exact sk_newq hk hd hn hs hT hC hh hS hlo
theorem sx_checkcast {j : Nat} (hcd : ax_code y pc = some (.checkcast j, nx, a, b, f, v)) (hs : (ax_sem e0 mo (.checkcast j, nx, a, b, f, v) L st σ).bind ax_pick = some sr) (hT : ax_Nx p l e R s m args below meth c Q B e0 mo d y pc D cells slots σ sr) (hC : ax_Cx p l R s m args meth c B e0 mo d y D) (hh : ax_hp B D σ s H) (hS : va_S (ax_GA B) s.heap H locs) (hlo : ax_lo ls L) (hLs : L.length = ax_L y) (hcs : cells ≤ R.cells ∧ slots ≤ R.slots) : W p l e R s m args below meth c H locs cells slots Q (F0 m pc ls (st.map avV)) := by
  obtain ⟨hx, hb, hml, hown, hts, hnm, hK, hG, hB, hRf, hRl, hfl, htab, hlk⟩ := id hC
  obtain ⟨hy9, -, -, hle, hk⟩ := ax_code_ok hcd
  obtain ⟨hn, hd⟩ := ax_dec hcd rfl
  exact sk_cast hk hd hn hs hT hC hh hS hlo
theorem sx_tableswitch {dd lo hi : Int} {os : Array Int} (hcd : ax_code y pc = some (.tableswitch dd lo hi os, nx, a, b, f, v)) (hs : (ax_sem e0 mo (.tableswitch dd lo hi os, nx, a, b, f, v) L st σ).bind ax_pick = some sr) (hT : ax_Nx p l e R s m args below meth c Q B e0 mo d y pc D cells slots σ sr) (hC : ax_Cx p l R s m args meth c B e0 mo d y D) (hh : ax_hp B D σ s H) (hS : va_S (ax_GA B) s.heap H locs) (hlo : ax_lo ls L) (hLs : L.length = ax_L y) (hcs : cells ≤ R.cells ∧ slots ≤ R.slots) : W p l e R s m args below meth c H locs cells slots Q (F0 m pc ls (st.map avV)) := by
  obtain ⟨hx, hb, hml, hown, hts, hnm, hK, hG, hB, hRf, hRl, hfl, htab, hlk⟩ := id hC
  obtain ⟨hy9, -, -, hle, hk⟩ := ax_code_ok hcd
  have hk : (Nat.beq a pc && decide (0 ≤ dd + (pc : Int)) && decide (os.size = (hi - lo).toNat + 1) && decide (lo ≤ hi) && os.toList.all (fun o => decide (0 ≤ o + (pc : Int)))) = true := hk
  simp only [Bool.and_eq_true, decide_eq_true_eq] at hk
  obtain ⟨⟨⟨⟨h1, h2⟩, h3⟩, h4⟩, h5⟩ := hk
  obtain rfl := ax_beq h1
  obtain ⟨-, hd, -, -, -⟩ := ax_code_ok hcd
  unfold ax_sem at hs
  dsimp only at hs
  split at hs
  · rename_i x st'
    obtain rfl := ax_pick_go hs
    have h9 := hT.same rfl rfl hh hS hlo
    dsimp only at h9
    by_cases hz : x.toInt < lo ∨ hi < x.toInt
    · rw [if_pos hz] at h9
      exact lv_tableOut hx hb hd hz (by omega) h9
    · rw [if_neg hz] at h9
      have hlt : (x.toInt - lo).toNat < os.size := by omega
      have ho : os[(x.toInt - lo).toNat]? = some (os.getD (x.toInt - lo).toNat 0) := by
        rw [Array.getD_eq_getD_getElem?, Array.getElem?_eq_getElem hlt]; rfl
      have h6 := List.all_eq_true.mp h5 (os.getD (x.toInt - lo).toNat 0) (by
        rw [Array.getD_eq_getD_getElem?, Array.getElem?_eq_getElem hlt]
        exact Array.mem_toList_iff.mpr (Array.getElem_mem hlt))
      have h6 := of_decide_eq_true h6
      exact lv_tableIn hx hb hd (fun q => hz (Or.inl q)) (fun q => hz (Or.inr q)) ho (by omega) h9
  · cases hs
theorem sx_invokevirtual {j : Nat} (hcd : ax_code y pc = some (.invokevirtual j, nx, a, b, f, v)) (hs : (ax_sem e0 mo (.invokevirtual j, nx, a, b, f, v) L st σ).bind ax_pick = some sr) (hT : ax_Nx p l e R s m args below meth c Q B e0 mo d y pc D cells slots σ sr) (hC : ax_Cx p l R s m args meth c B e0 mo d y D) (hh : ax_hp B D σ s H) (hS : va_S (ax_GA B) s.heap H locs) (hlo : ax_lo ls L) (hLs : L.length = ax_L y) (hcs : cells ≤ R.cells ∧ slots ≤ R.slots) : W p l e R s m args below meth c H locs cells slots Q (F0 m pc ls (st.map avV)) := by
  obtain ⟨hx, hb, hml, hown, hts, hnm, hK, hG, hB, hRf, hRl, hfl, htab, hlk⟩ := id hC
  obtain ⟨hy9, -, -, hle, hk⟩ := ax_code_ok hcd
  obtain ⟨hn, hd⟩ := ax_dec hcd rfl
  have hk : (bif Nat.beq f 3 then ax_LO.any (fun q => Nat.beq q.1 (ax_own y) && Nat.beq q.2.1 j && Nat.beq q.2.2.1 3) else ax_LM.any (fun q => Nat.beq q.1 (ax_own y) && Nat.beq q.2.1 j && Nat.beq q.2.2 a) && Nat.beq (ax_op a) 0 && Nat.beq (ax_na a) b) = true := hk
  have hs : (bif Nat.beq f 3 then (match (generalizing := false) st with
          | .inr (.inl r) :: st => ax_gd (ax_wt st ≤ 8 ∧ (sgK σ r).1 = 23 ∧ 0 < (sgK σ r).2) nx L (aR mo :: st) σ
          | _ => none) else ax_call nx a b 0 L st σ).bind ax_pick = some sr := hs
  cases q : Nat.beq f 3 with
  | true =>
    rw [q] at hk hs
    exact sk_getC hk hd hn hLs hs hT hC hh hS hlo
  | false =>
    rw [q] at hk hs
    have hk : (ax_LM.any (fun q => Nat.beq q.1 (ax_own y) && Nat.beq q.2.1 j && Nat.beq q.2.2 a) && Nat.beq (ax_op a) 0 && Nat.beq (ax_na a) b) = true := hk
    simp only [Bool.and_eq_true] at hk
    exact sr_virt hk.1.1 (ax_beq hk.1.2) (ax_beq hk.2) hd hn hLs hs hT hC hh hS hlo
theorem sx_invokespecial {j : Nat} (hcd : ax_code y pc = some (.invokespecial j, nx, a, b, f, v)) (hs : (ax_sem e0 mo (.invokespecial j, nx, a, b, f, v) L st σ).bind ax_pick = some sr) (hT : ax_Nx p l e R s m args below meth c Q B e0 mo d y pc D cells slots σ sr) (hC : ax_Cx p l R s m args meth c B e0 mo d y D) (hh : ax_hp B D σ s H) (hS : va_S (ax_GA B) s.heap H locs) (hlo : ax_lo ls L) (hLs : L.length = ax_L y) (hcs : cells ≤ R.cells ∧ slots ≤ R.slots) : W p l e R s m args below meth c H locs cells slots Q (F0 m pc ls (st.map avV)) := by
  obtain ⟨hx, hb, hml, hown, hts, hnm, hK, hG, hB, hRf, hRl, hfl, htab, hlk⟩ := id hC
  obtain ⟨hy9, -, -, hle, hk⟩ := ax_code_ok hcd
  obtain ⟨hn, hd⟩ := ax_dec hcd rfl
  have hk : (bif Nat.beq f 1 then ax_LO.any (fun q => Nat.beq q.1 (ax_own y) && Nat.beq q.2.1 j && Nat.beq q.2.2.1 1) else ax_LM.any (fun q => Nat.beq q.1 (ax_own y) && Nat.beq q.2.1 j && Nat.beq q.2.2 a) && Nat.beq (ax_op a) 2 && Nat.beq (ax_na a) b) = true := hk
  have hs : (bif Nat.beq f 1 then (match (generalizing := false) st with
          | .inr (.inl r) :: st => ax_gd (ax_wt st ≤ 8 ∧ 0 < r) nx L st σ
          | _ => none) else ax_call nx a b 2 L st σ).bind ax_pick = some sr := hs
  cases q : Nat.beq f 1 with
  | true =>
    rw [q] at hk hs
    exact sk_obj hk hd hn hLs hs hT hC hh hS hlo
  | false =>
    rw [q] at hk hs
    have hk : (ax_LM.any (fun q => Nat.beq q.1 (ax_own y) && Nat.beq q.2.1 j && Nat.beq q.2.2 a) && Nat.beq (ax_op a) 2 && Nat.beq (ax_na a) b) = true := hk
    simp only [Bool.and_eq_true] at hk
    exact sr_init hk.1.1 (ax_beq hk.1.2) (ax_beq hk.2) hd hn hLs hs hT hC hh hS hlo
theorem sx_invokestatic {j : Nat} (hcd : ax_code y pc = some (.invokestatic j, nx, a, b, f, v)) (hs : (ax_sem e0 mo (.invokestatic j, nx, a, b, f, v) L st σ).bind ax_pick = some sr) (hT : ax_Nx p l e R s m args below meth c Q B e0 mo d y pc D cells slots σ sr) (hC : ax_Cx p l R s m args meth c B e0 mo d y D) (hh : ax_hp B D σ s H) (hS : va_S (ax_GA B) s.heap H locs) (hlo : ax_lo ls L) (hLs : L.length = ax_L y) (hcs : cells ≤ R.cells ∧ slots ≤ R.slots) : W p l e R s m args below meth c H locs cells slots Q (F0 m pc ls (st.map avV)) := by
  obtain ⟨hx, hb, hml, hown, hts, hnm, hK, hG, hB, hRf, hRl, hfl, htab, hlk⟩ := id hC
  obtain ⟨hy9, -, -, hle, hk⟩ := ax_code_ok hcd
  obtain ⟨hn, hd⟩ := ax_dec hcd rfl
  have hk : (bif Nat.beq f 2 || Nat.beq f 4 || Nat.beq f 5 then ax_LO.any (fun q => Nat.beq q.1 (ax_own y) && Nat.beq q.2.1 j && Nat.beq q.2.2.1 f) else ax_LM.any (fun q => Nat.beq q.1 (ax_own y) && Nat.beq q.2.1 j && Nat.beq q.2.2 a) && Nat.beq (ax_op a) 1 && Nat.beq (ax_na a) b) = true := hk
  have hs : (bif Nat.beq f 2 then ax_copy nx L st σ else bif Nat.beq f 4 then ax_mm (fun x y => if x < y then y else x) nx L st σ else bif Nat.beq f 5 then ax_mm (fun x y => if y < x then y else x) nx L st σ else ax_call nx a b 1 L st σ).bind ax_pick = some sr := hs
  cases q2 : Nat.beq f 2 with
  | true =>
    rw [q2] at hk hs
    obtain rfl := ax_beq q2
    exact sq_copy hk hd hn hLs hs hT hC hh hS hlo
  | false =>
    rw [q2] at hk hs
    cases q4 : Nat.beq f 4 with
    | true =>
      rw [q4] at hk hs
      obtain rfl := ax_beq q4
      exact sk_max hk hd hn hLs hcs hs hT hC hh hS hlo
    | false =>
      rw [q4] at hk hs
      cases q5 : Nat.beq f 5 with
      | true =>
        rw [q5] at hk hs
        obtain rfl := ax_beq q5
        exact sk_min hk hd hn hLs hcs hs hT hC hh hS hlo
      | false =>
        rw [q5] at hk hs
        have hk : (ax_LM.any (fun q => Nat.beq q.1 (ax_own y) && Nat.beq q.2.1 j && Nat.beq q.2.2 a) && Nat.beq (ax_op a) 1 && Nat.beq (ax_na a) b) = true := hk
        simp only [Bool.and_eq_true] at hk
        exact sr_static hk.1.1 (ax_beq hk.1.2) (ax_beq hk.2) hd hn hLs hs hT hC hh hS hlo
theorem sx_return_ (hcd : ax_code y pc = some (.return_, nx, a, b, f, v)) (hs : (ax_sem e0 mo (.return_, nx, a, b, f, v) L st σ).bind ax_pick = some sr) (hT : ax_Nx p l e R s m args below meth c Q B e0 mo d y pc D cells slots σ sr) (hC : ax_Cx p l R s m args meth c B e0 mo d y D) (hh : ax_hp B D σ s H) (hS : va_S (ax_GA B) s.heap H locs) (hlo : ax_lo ls L) (hLs : L.length = ax_L y) (hcs : cells ≤ R.cells ∧ slots ≤ R.slots) : W p l e R s m args below meth c H locs cells slots Q (F0 m pc ls (st.map avV)) := by
  obtain ⟨hx, hb, hml, hown, hts, hnm, hK, hG, hB, hRf, hRl, hfl, htab, hlk⟩ := id hC
  obtain ⟨hy9, -, -, hle, hk⟩ := ax_code_ok hcd
  obtain ⟨hn, hd⟩ := ax_dec hcd rfl
  unfold ax_sem at hs
  dsimp only at hs
  split at hs
  · obtain rfl := ax_pick_go hs
    exact hT H locs ls (Or.inl ⟨rfl, hd, Option.isNone_iff_eq_none.mp hk⟩) hh hS
  · cases hs
theorem sx_ireturn (hcd : ax_code y pc = some (.ireturn, nx, a, b, f, v)) (hs : (ax_sem e0 mo (.ireturn, nx, a, b, f, v) L st σ).bind ax_pick = some sr) (hT : ax_Nx p l e R s m args below meth c Q B e0 mo d y pc D cells slots σ sr) (hC : ax_Cx p l R s m args meth c B e0 mo d y D) (hh : ax_hp B D σ s H) (hS : va_S (ax_GA B) s.heap H locs) (hlo : ax_lo ls L) (hLs : L.length = ax_L y) (hcs : cells ≤ R.cells ∧ slots ≤ R.slots) : W p l e R s m args below meth c H locs cells slots Q (F0 m pc ls (st.map avV)) := by
  obtain ⟨hx, hb, hml, hown, hts, hnm, hK, hG, hB, hRf, hRl, hfl, htab, hlk⟩ := id hC
  obtain ⟨hy9, -, -, hle, hk⟩ := ax_code_ok hcd
  obtain ⟨hn, hd⟩ := ax_dec hcd rfl
  have hk := of_decide_eq_true hk
  unfold ax_sem at hs
  dsimp only at hs
  split at hs
  · rename_i x
    rcases hk with ⟨h1, rfl⟩ | ⟨h1, rfl⟩
    · obtain rfl := ax_pick_go hs
      exact hT H locs ls (Or.inr (Or.inl ⟨x, rfl, hd, Or.inl h1⟩)) hh hS
    · obtain ⟨hp, rfl⟩ := ax_pick_gd hs
      exact hT H locs ls (Or.inr (Or.inl ⟨x, rfl, hd, Or.inr ⟨h1, hp⟩⟩)) hh hS
  · cases hs
theorem sx_areturn (hcd : ax_code y pc = some (.areturn, nx, a, b, f, v)) (hs : (ax_sem e0 mo (.areturn, nx, a, b, f, v) L st σ).bind ax_pick = some sr) (hT : ax_Nx p l e R s m args below meth c Q B e0 mo d y pc D cells slots σ sr) (hC : ax_Cx p l R s m args meth c B e0 mo d y D) (hh : ax_hp B D σ s H) (hS : va_S (ax_GA B) s.heap H locs) (hlo : ax_lo ls L) (hLs : L.length = ax_L y) (hcs : cells ≤ R.cells ∧ slots ≤ R.slots) : W p l e R s m args below meth c H locs cells slots Q (F0 m pc ls (st.map avV)) := by
  obtain ⟨hx, hb, hml, hown, hts, hnm, hK, hG, hB, hRf, hRl, hfl, htab, hlk⟩ := id hC
  obtain ⟨hy9, -, -, hle, hk⟩ := ax_code_ok hcd
  obtain ⟨hn, hd⟩ := ax_dec hcd rfl
  unfold ax_sem at hs
  dsimp only at hs
  have hk : (match ax_ret y with
        | some (.object _) => true
        | some (.array _) => true
        | _ => false) = true := hk
  split at hs
  · rename_i r
    obtain rfl := ax_pick_go hs
    refine hT H locs ls (Or.inr (Or.inr ⟨r, rfl, hd, ?_⟩)) hh hS
    split at hk
    · rename_i C h; exact Or.inl ⟨C, h⟩
    · rename_i t h; exact Or.inr ⟨t, h⟩
    · cases hk
  · cases hs
theorem ax_sx (en : ax_En) (hcd : ax_code y pc = some en) (hs : (ax_sem e0 mo en L st σ).bind ax_pick = some sr) (hT : ax_Nx p l e R s m args below meth c Q B e0 mo d y pc D cells slots σ sr) (hC : ax_Cx p l R s m args meth c B e0 mo d y D) (hh : ax_hp B D σ s H) (hS : va_S (ax_GA B) s.heap H locs) (hlo : ax_lo ls L) (hLs : L.length = ax_L y) (hcs : cells ≤ R.cells ∧ slots ≤ R.slots) : W p l e R s m args below meth c H locs cells slots Q (F0 m pc ls (st.map avV)) := by
  obtain ⟨i, nx, a, b, f, v⟩ := en
  cases i with
  | aconst_null => exact sx_aconst_null hcd hs hT hC hh hS hlo hLs hcs
  | iadd => exact sx_iadd hcd hs hT hC hh hS hlo hLs hcs
  | isub => exact sx_isub hcd hs hT hC hh hS hlo hLs hcs
  | imul => exact sx_imul hcd hs hT hC hh hS hlo hLs hcs
  | iand => exact sx_iand hcd hs hT hC hh hS hlo hLs hcs
  | ior => exact sx_ior hcd hs hT hC hh hS hlo hLs hcs
  | ishl => exact sx_ishl hcd hs hT hC hh hS hlo hLs hcs
  | ishr => exact sx_ishr hcd hs hT hC hh hS hlo hLs hcs
  | iushr => exact sx_iushr hcd hs hT hC hh hS hlo hLs hcs
  | idiv => exact sx_idiv hcd hs hT hC hh hS hlo hLs hcs
  | irem => exact sx_irem hcd hs hT hC hh hS hlo hLs hcs
  | i2l => exact sx_i2l hcd hs hT hC hh hS hlo hLs hcs
  | land => exact sx_land hcd hs hT hC hh hS hlo hLs hcs
  | lor => exact sx_lor hcd hs hT hC hh hS hlo hLs hcs
  | lshl => exact sx_lshl hcd hs hT hC hh hS hlo hLs hcs
  | lushr => exact sx_lushr hcd hs hT hC hh hS hlo hLs hcs
  | lcmp => exact sx_lcmp hcd hs hT hC hh hS hlo hLs hcs
  | dup => exact sx_dup hcd hs hT hC hh hS hlo hLs hcs
  | dup2 => exact sx_dup2 hcd hs hT hC hh hS hlo hLs hcs
  | dup_x1 => exact sx_dup_x1 hcd hs hT hC hh hS hlo hLs hcs
  | pop => exact sx_pop hcd hs hT hC hh hS hlo hLs hcs
  | iaload => exact sx_iaload hcd hs hT hC hh hS hlo hLs hcs
  | baload => exact sx_baload hcd hs hT hC hh hS hlo hLs hcs
  | laload => exact sx_laload hcd hs hT hC hh hS hlo hLs hcs
  | aaload => exact sx_aaload hcd hs hT hC hh hS hlo hLs hcs
  | iastore => exact sx_iastore hcd hs hT hC hh hS hlo hLs hcs
  | bastore => exact sx_bastore hcd hs hT hC hh hS hlo hLs hcs
  | lastore => exact sx_lastore hcd hs hT hC hh hS hlo hLs hcs
  | aastore => exact sx_aastore hcd hs hT hC hh hS hlo hLs hcs
  | arraylength => exact sx_arraylength hcd hs hT hC hh hS hlo hLs hcs
  | return_ => exact sx_return_ hcd hs hT hC hh hS hlo hLs hcs
  | ireturn => exact sx_ireturn hcd hs hT hC hh hS hlo hLs hcs
  | areturn => exact sx_areturn hcd hs hT hC hh hS hlo hLs hcs
  | iconst x => exact sx_iconst hcd hs hT hC hh hS hlo hLs hcs
  | bipush x => exact sx_bipush hcd hs hT hC hh hS hlo hLs hcs
  | sipush x => exact sx_sipush hcd hs hT hC hh hS hlo hLs hcs
  | lconst x => exact sx_lconst hcd hs hT hC hh hS hlo hLs hcs
  | ldc x => exact sx_ldc hcd hs hT hC hh hS hlo hLs hcs
  | ldc_w x => exact sx_ldc_w hcd hs hT hC hh hS hlo hLs hcs
  | iload_n x => exact sx_iload_n hcd hs hT hC hh hS hlo hLs hcs
  | iload x => exact sx_iload hcd hs hT hC hh hS hlo hLs hcs
  | aload_n x => exact sx_aload_n hcd hs hT hC hh hS hlo hLs hcs
  | aload x => exact sx_aload hcd hs hT hC hh hS hlo hLs hcs
  | istore_n x => exact sx_istore_n hcd hs hT hC hh hS hlo hLs hcs
  | istore x => exact sx_istore hcd hs hT hC hh hS hlo hLs hcs
  | astore_n x => exact sx_astore_n hcd hs hT hC hh hS hlo hLs hcs
  | astore x => exact sx_astore hcd hs hT hC hh hS hlo hLs hcs
  | goto x => exact sx_goto hcd hs hT hC hh hS hlo hLs hcs
  | ifnull x => exact sx_ifnull hcd hs hT hC hh hS hlo hLs hcs
  | ifnonnull x => exact sx_ifnonnull hcd hs hT hC hh hS hlo hLs hcs
  | getfield x => exact sx_getfield hcd hs hT hC hh hS hlo hLs hcs
  | putfield x => exact sx_putfield hcd hs hT hC hh hS hlo hLs hcs
  | getstatic x => exact sx_getstatic hcd hs hT hC hh hS hlo hLs hcs
  | new x => exact sx_new hcd hs hT hC hh hS hlo hLs hcs
  | newarray x => exact sx_newarray hcd hs hT hC hh hS hlo hLs hcs
  | anewarray x => exact sx_anewarray hcd hs hT hC hh hS hlo hLs hcs
  | checkcast x => exact sx_checkcast hcd hs hT hC hh hS hlo hLs hcs
  | invokevirtual x => exact sx_invokevirtual hcd hs hT hC hh hS hlo hLs hcs
  | invokespecial x => exact sx_invokespecial hcd hs hT hC hh hS hlo hLs hcs
  | invokestatic x => exact sx_invokestatic hcd hs hT hC hh hS hlo hLs hcs
  | iinc x1 x2 => exact sx_iinc hcd hs hT hC hh hS hlo hLs hcs
  | tableswitch x1 x2 x3 x4 => exact sx_tableswitch hcd hs hT hC hh hS hlo hLs hcs
  | ifCond cc z =>
    cases cc with
    | eq => exact sx_if_eq hcd hs hT hC hh hS hlo hLs hcs
    | ne => exact sx_if_ne hcd hs hT hC hh hS hlo hLs hcs
    | lt => exact sx_if_lt hcd hs hT hC hh hS hlo hLs hcs
    | ge => exact sx_if_ge hcd hs hT hC hh hS hlo hLs hcs
    | gt => exact sx_if_gt hcd hs hT hC hh hS hlo hLs hcs
    | le => exact sx_if_le hcd hs hT hC hh hS hlo hLs hcs
  | if_icmp cc z =>
    cases cc with
    | eq => exact sx_ic_eq hcd hs hT hC hh hS hlo hLs hcs
    | ne => exact sx_ic_ne hcd hs hT hC hh hS hlo hLs hcs
    | lt => exact sx_ic_lt hcd hs hT hC hh hS hlo hLs hcs
    | ge => exact sx_ic_ge hcd hs hT hC hh hS hlo hLs hcs
    | gt => exact sx_ic_gt hcd hs hT hC hh hS hlo hLs hcs
    | le => exact sx_ic_le hcd hs hT hC hh hS hlo hLs hcs
  | if_acmp cc z =>
    cases cc with
    | eq => exact sx_ac_eq hcd hs hT hC hh hS hlo hLs hcs
    | ne => exact sx_ac_ne hcd hs hT hC hh hS hlo hLs hcs
  | _ => cases hs
end
end AXS1
