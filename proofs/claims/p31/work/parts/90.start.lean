/-! The law from its start to its end, out of a run of the abstract machine. Printed by wip/whole/gen90.py; the last rows begin from the skeleton of the kit. -/
section AXV1
theorem ax_ins {k : Nat} (h : k < 9) : ∃ n, ax_gw (.instantiable (ax_kn k) n) := by
  have hE : k = 0 ∨ k = 1 ∨ k = 2 ∨ k = 3 ∨ k = 4 ∨ k = 5 ∨ k = 6 ∨ k = 7 ∨ k = 8 := by omega
  rcases hE with rfl | rfl | rfl | rfl | rfl | rfl | rfl | rfl | rfl
  · exact ⟨1, ⟨ax_t1 (List.mem_of_getElem? (i := 61) rfl), rfl⟩⟩
  · exact ⟨3, ⟨ax_t3 (List.mem_of_getElem? (i := 197) rfl), rfl⟩⟩
  · exact ⟨7, ⟨ax_t3 (List.mem_of_getElem? (i := 51) rfl), rfl⟩⟩
  · exact ⟨3, ⟨ax_t3 (List.mem_of_getElem? (i := 17) rfl), rfl⟩⟩
  · exact ⟨5, ⟨ax_t2 (List.mem_of_getElem? (i := 224) rfl), rfl⟩⟩
  · exact ⟨10, ⟨ax_t1 (List.mem_of_getElem? (i := 219) rfl), rfl⟩⟩
  · exact ⟨5, ⟨ax_t1 (List.mem_of_getElem? (i := 25) rfl), rfl⟩⟩
  · exact ⟨1, ⟨ax_t1 (List.mem_of_getElem? (i := 61) rfl), rfl⟩⟩
  · exact ⟨3, ⟨ax_t1 (List.mem_of_getElem? (i := 33) rfl), rfl⟩⟩
def ax_fl : List Cond := flatC (Jvm.Cond.and given_1 narrow_1)
theorem ax_nc01 : Cond.not (.castable (ax_xn 0) (ax_xn 1)) ∈ ax_fl := List.mem_of_getElem? (i := 15) rfl
theorem ax_nc02 : Cond.not (.castable (ax_xn 0) (ax_xn 2)) ∈ ax_fl := List.mem_of_getElem? (i := 25) rfl
theorem ax_nc10 : Cond.not (.castable (ax_xn 1) (ax_xn 0)) ∈ ax_fl := List.mem_of_getElem? (i := 33) rfl
theorem ax_nc12 : Cond.not (.castable (ax_xn 1) (ax_xn 2)) ∈ ax_fl := List.mem_of_getElem? (i := 23) rfl
theorem ax_nc20 : Cond.not (.castable (ax_xn 2) (ax_xn 0)) ∈ ax_fl := List.mem_of_getElem? (i := 34) rfl
theorem ax_nc21 : Cond.not (.castable (ax_xn 2) (ax_xn 1)) ∈ ax_fl := List.mem_of_getElem? (i := 13) rfl
set_option maxRecDepth 20000 in
theorem ax_ex37 : Cond.exactly (.string "PipelineRunner" 37) "java/lang/String" ∈ ax_fl := List.mem_of_getElem? (i := 53) rfl
theorem ax_sr37 : Cond.stringRef "PipelineRunner" 37 (ax_tx 37) ∈ lw_tbl := ax_t1 (List.mem_of_getElem? (i := 151) rfl)
set_option maxRecDepth 20000 in
theorem ax_ex51 : Cond.exactly (.string "PipelineRunner" 51) "java/lang/String" ∈ ax_fl := List.mem_of_getElem? (i := 103) rfl
theorem ax_sr51 : Cond.stringRef "PipelineRunner" 51 (ax_tx 51) ∈ lw_tbl := ax_t1 (List.mem_of_getElem? (i := 217) rfl)
set_option maxRecDepth 20000 in
theorem ax_ex79 : Cond.exactly (.string "PipelineRunner" 79) "java/lang/String" ∈ ax_fl := List.mem_of_getElem? (i := 154) rfl
theorem ax_sr79 : Cond.stringRef "PipelineRunner" 79 (ax_tx 79) ∈ lw_tbl := ax_t2 (List.mem_of_getElem? (i := 121) rfl)
set_option maxRecDepth 20000 in
theorem ax_ex112 : Cond.exactly (.string "PipelineRunner" 112) "java/lang/String" ∈ ax_fl := List.mem_of_getElem? (i := 211) rfl
theorem ax_sr112 : Cond.stringRef "PipelineRunner" 112 (ax_tx 112) ∈ lw_tbl := ax_t2 (List.mem_of_getElem? (i := 135) rfl)
set_option maxRecDepth 20000 in
theorem ax_ex133 : Cond.exactly (.string "PipelineRunner" 133) "java/lang/String" ∈ ax_fl := List.mem_of_getElem? (i := 250) rfl
theorem ax_sr133 : Cond.stringRef "PipelineRunner" 133 (ax_tx 133) ∈ lw_tbl := ax_t2 (List.mem_of_getElem? (i := 166) rfl)
set_option maxRecDepth 20000 in
theorem ax_ex138 : Cond.exactly (.string "PipelineRunner" 138) "java/lang/String" ∈ ax_fl := List.mem_of_getElem? (i := 274) rfl
theorem ax_sr138 : Cond.stringRef "PipelineRunner" 138 (ax_tx 138) ∈ lw_tbl := ax_t2 (List.mem_of_getElem? (i := 170) rfl)
set_option maxRecDepth 20000 in
theorem ax_ex147 : Cond.exactly (.string "PipelineRunner" 147) "java/lang/String" ∈ ax_fl := List.mem_of_getElem? (i := 306) rfl
theorem ax_sr147 : Cond.stringRef "PipelineRunner" 147 (ax_tx 147) ∈ lw_tbl := ax_t2 (List.mem_of_getElem? (i := 175) rfl)
set_option maxRecDepth 20000 in
theorem ax_ex178 : Cond.exactly (.string "PipelineRunner" 178) "java/lang/String" ∈ ax_fl := List.mem_of_getElem? (i := 378) rfl
theorem ax_sr178 : Cond.stringRef "PipelineRunner" 178 (ax_tx 178) ∈ lw_tbl := ax_t3 (List.mem_of_getElem? (i := 147) rfl)
set_option maxRecDepth 20000 in
theorem ax_ex229 : Cond.exactly (.string "PipelineRunner" 229) "java/lang/String" ∈ ax_fl := List.mem_of_getElem? (i := 441) rfl
theorem ax_sr229 : Cond.stringRef "PipelineRunner" 229 (ax_tx 229) ∈ lw_tbl := ax_t3 (List.mem_of_getElem? (i := 160) rfl)
set_option maxRecDepth 20000 in
theorem ax_ex277 : Cond.exactly (.string "PipelineRunner" 277) "java/lang/String" ∈ ax_fl := List.mem_of_getElem? (i := 685) rfl
theorem ax_sr277 : Cond.stringRef "PipelineRunner" 277 (ax_tx 277) ∈ lw_tbl := ax_t4 (List.mem_of_getElem? (i := 63) rfl)
set_option maxRecDepth 20000 in
theorem ax_ex283 : Cond.exactly (.string "PipelineRunner" 283) "java/lang/String" ∈ ax_fl := List.mem_of_getElem? (i := 134) rfl
theorem ax_sr283 : Cond.stringRef "PipelineRunner" 283 (ax_tx 283) ∈ lw_tbl := ax_t2 (List.mem_of_getElem? (i := 106) rfl)
set_option maxRecDepth 20000 in
theorem ax_ex285 : Cond.exactly (.string "PipelineRunner" 285) "java/lang/String" ∈ ax_fl := List.mem_of_getElem? (i := 354) rfl
theorem ax_sr285 : Cond.stringRef "PipelineRunner" 285 (ax_tx 285) ∈ lw_tbl := ax_t3 (List.mem_of_getElem? (i := 146) rfl)
set_option maxRecDepth 20000 in
theorem ax_ex287 : Cond.exactly (.string "PipelineRunner" 287) "java/lang/String" ∈ ax_fl := List.mem_of_getElem? (i := 596) rfl
theorem ax_sr287 : Cond.stringRef "PipelineRunner" 287 (ax_tx 287) ∈ lw_tbl := ax_t4 (List.mem_of_getElem? (i := 48) rfl)
set_option maxRecDepth 20000 in
theorem ax_ex292 : Cond.exactly (.string "PipelineRunner" 292) "java/lang/String" ∈ ax_fl := List.mem_of_getElem? (i := 640) rfl
theorem ax_sr292 : Cond.stringRef "PipelineRunner" 292 (ax_tx 292) ∈ lw_tbl := ax_t4 (List.mem_of_getElem? (i := 50) rfl)
set_option maxRecDepth 20000 in
theorem ax_ex294 : Cond.exactly (.string "PipelineRunner" 294) "java/lang/String" ∈ ax_fl := List.mem_of_getElem? (i := 514) rfl
theorem ax_sr294 : Cond.stringRef "PipelineRunner" 294 (ax_tx 294) ∈ lw_tbl := ax_t4 (List.mem_of_getElem? (i := 10) rfl)
set_option maxRecDepth 20000 in
theorem ax_ex296 : Cond.exactly (.string "PipelineRunner" 296) "java/lang/String" ∈ ax_fl := List.mem_of_getElem? (i := 479) rfl
theorem ax_sr296 : Cond.stringRef "PipelineRunner" 296 (ax_tx 296) ∈ lw_tbl := ax_t3 (List.mem_of_getElem? (i := 179) rfl)
set_option maxRecDepth 20000 in
theorem ax_ex298 : Cond.exactly (.string "PipelineRunner" 298) "java/lang/String" ∈ ax_fl := List.mem_of_getElem? (i := 558) rfl
theorem ax_sr298 : Cond.stringRef "PipelineRunner" 298 (ax_tx 298) ∈ lw_tbl := ax_t4 (List.mem_of_getElem? (i := 31) rfl)
set_option maxRecDepth 20000 in
theorem ax_ex300 : Cond.exactly (.string "PipelineRunner" 300) "java/lang/String" ∈ ax_fl := List.mem_of_getElem? (i := 412) rfl
theorem ax_sr300 : Cond.stringRef "PipelineRunner" 300 (ax_tx 300) ∈ lw_tbl := ax_t3 (List.mem_of_getElem? (i := 159) rfl)
set_option maxRecDepth 20000 in
theorem ax_ex302 : Cond.exactly (.string "PipelineRunner" 302) "java/lang/String" ∈ ax_fl := List.mem_of_getElem? (i := 85) rfl
theorem ax_sr302 : Cond.stringRef "PipelineRunner" 302 (ax_tx 302) ∈ lw_tbl := ax_t1 (List.mem_of_getElem? (i := 210) rfl)
theorem ax_txs {args : Array Value} {s : State} (hts : ∀ w ∈ lw_tbl, w.before args s = true) (hfl : ∀ w ∈ ax_fl, w.before args s = true) {k : Nat} (h1 : Cond.exactly (.string "PipelineRunner" k) "java/lang/String" ∈ ax_fl) (h2 : Cond.stringRef "PipelineRunner" k (ax_tx k) ∈ lw_tbl) : ∃ sa, vk_R "PipelineRunner" k (ax_tx k) sa s := by
  obtain ⟨b', cB, cellB, kB, hb, -⟩ := Cond.exactly_spec (hfl _ h1)
  exact ⟨b', vk_R.of (hts _ h2) hb⟩
def ax_tk (k : Nat) : Prop := Cond.exactly (.string "PipelineRunner" k) "java/lang/String" ∈ ax_fl ∧ Cond.stringRef "PipelineRunner" k (ax_tx k) ∈ lw_tbl
theorem ax_tks : ∀ k ∈ ([37, 51, 79, 112, 133, 138, 147, 178, 229, 277, 283, 285, 287, 292, 294, 296, 298, 300, 302] : List Nat), ax_tk k := List.forall_mem_cons.mpr ⟨⟨ax_ex37, ax_sr37⟩, List.forall_mem_cons.mpr ⟨⟨ax_ex51, ax_sr51⟩, List.forall_mem_cons.mpr ⟨⟨ax_ex79, ax_sr79⟩, List.forall_mem_cons.mpr ⟨⟨ax_ex112, ax_sr112⟩, List.forall_mem_cons.mpr ⟨⟨ax_ex133, ax_sr133⟩, List.forall_mem_cons.mpr ⟨⟨ax_ex138, ax_sr138⟩, List.forall_mem_cons.mpr ⟨⟨ax_ex147, ax_sr147⟩, List.forall_mem_cons.mpr ⟨⟨ax_ex178, ax_sr178⟩, List.forall_mem_cons.mpr ⟨⟨ax_ex229, ax_sr229⟩, List.forall_mem_cons.mpr ⟨⟨ax_ex277, ax_sr277⟩, List.forall_mem_cons.mpr ⟨⟨ax_ex283, ax_sr283⟩, List.forall_mem_cons.mpr ⟨⟨ax_ex285, ax_sr285⟩, List.forall_mem_cons.mpr ⟨⟨ax_ex287, ax_sr287⟩, List.forall_mem_cons.mpr ⟨⟨ax_ex292, ax_sr292⟩, List.forall_mem_cons.mpr ⟨⟨ax_ex294, ax_sr294⟩, List.forall_mem_cons.mpr ⟨⟨ax_ex296, ax_sr296⟩, List.forall_mem_cons.mpr ⟨⟨ax_ex298, ax_sr298⟩, List.forall_mem_cons.mpr ⟨⟨ax_ex300, ax_sr300⟩, List.forall_mem_cons.mpr ⟨⟨ax_ex302, ax_sr302⟩, fun _ h => absurd h List.not_mem_nil⟩⟩⟩⟩⟩⟩⟩⟩⟩⟩⟩⟩⟩⟩⟩⟩⟩⟩⟩
theorem ax_ltk : ax_LT.all (fun q => [37, 51, 79, 112, 133, 138, 147, 178, 229, 277, 283, 285, 287, 292, 294, 296, 298, 300, 302].any (fun k => Nat.beq k q.2.2.2.2.1)) = true := by decide +kernel
theorem ax_start {s : State} {args : Array Value} {b L : Nat} {xs : Nat → Int32} (hts : ∀ w ∈ lw_tbl, w.before args s = true) (hX : va_X b L xs s s.heap) (hgv : (Jvm.Cond.and given_1 narrow_1).before args s = true) :
    ∃ (D : va_G) (e0 mo : Nat), ax_hp s.heap.size D (ax_s0 s.heap.size b e0 L xs) s s.heap ∧ va_K D ax_cl [] s ∧ ax_G s.heap.size e0 mo s s.heap ∧ 0 < e0 ∧ e0 ≤ s.heap.size ∧ e0 ≠ b + 1 := by
  have hfl : ∀ w ∈ ax_fl, w.before args s = true := flat_of_before _ hgv
  have hW : ∀ w ∈ axW, w.before args s = true := fun w hw => hts w (List.mem_filter.mp hw).1
  have hg : ∀ w, ax_gw w → w.before args s = true := fun w hw => hts w hw.1
  have hKn : ∀ k, k < 9 → ∃ (cC : ClassId) (iS : Nat → Nat), u_Kn s (ax_kn k) (ax_T k) (ax_N k) cC iS := fun k hk => by
    obtain ⟨n, hn⟩ := ax_ins hk
    exact u_known hW (ax_uin hk) (hg _ hn)
  obtain ⟨D, hD⟩ : ∃ D : va_G, ∀ k, k < 9 → u_Kn s (ax_kn k) (ax_T k) (ax_N k) (D.1 k) (D.2 k) := by
    refine ⟨(fun k => if h : k < 9 then Classical.choose (hKn k h) else 0, fun k => if h : k < 9 then Classical.choose (Classical.choose_spec (hKn k h)) else fun _ => 0), fun k hk => ?_⟩
    dsimp only
    rw [dif_pos hk, dif_pos hk]
    exact Classical.choose_spec (Classical.choose_spec (hKn k hk))
  have hA : ∀ a : Nat, a < s.heap.size → ¬ ax_GA s.heap.size a := fun a h1 h2 => absurd h1 (Nat.not_lt.mpr h2)
  have hlen : (Term.length (.static "java/util/ArrayList" "DEFAULTCAPACITY_EMPTY_ELEMENTDATA" "[Ljava/lang/Object;")).eval args s none [] s = some (.int (Int32.ofNat 0)) := by
    obtain ⟨w, g1, g2⟩ := Cond.eq_one (show (Cond.eq (.length (.static "java/util/ArrayList" "DEFAULTCAPACITY_EMPTY_ELEMENTDATA" "[Ljava/lang/Object;")) (.int 0)).holds args s none s [] = true from hfl _ (List.mem_of_getElem? (i := 7) rfl))
    have g3 : (Term.int 0).eval args s none [] s = some (.int 0) := rfl
    cases g2.symm.trans g3
    exact g1
  obtain ⟨t, ht, hT⟩ := va_Tof (N := 0) (f := fun _ => .null) (by decide) (hfl _ (List.mem_of_getElem? (i := 5) rfl)) hlen (fun j hj => absurd hj (Nat.not_lt_zero j)) hA
  have hZ := va_Zof (A := ax_GA s.heap.size) (hts _ (ax_t1 (List.mem_of_getElem? (i := 45) rfl))) (hg _ ⟨ax_t1 (List.mem_of_getElem? (i := 4) rfl), rfl⟩) ht hA
  obtain ⟨cellT, t1, t2, t3, t4, t5, t6, t7⟩ := hT
  obtain ⟨cellX, x1, x2, x3, x4, x5⟩ := id hX
  obtain ⟨mi, hMi⟩ := va_Mi.of (hfl _ (List.mem_of_getElem? (i := 52) rfl))
  have htl : t < s.heap.size := (Array.getElem?_eq_some_iff.mp t1).1
  have hne : t ≠ b := by
    rintro rfl
    rw [t1] at x1
    cases x1
    obtain ⟨-, k1, g1, c1, g2⟩ := t2
    obtain ⟨-, k2, g3, c2, g4⟩ := x2
    rw [g1] at g3
    cases g3
    rw [g2] at g4
    cases g4
  refine ⟨D, t + 1, mi + 1, ⟨rfl, fun r hr => ?_, fun r hr hr2 => ?_⟩, ⟨fun c q hq => ?_, fun k q hq => by cases hq⟩, ?_, Nat.succ_pos t, htl, fun h => hne (Nat.succ.inj h)⟩
  · exfalso
    have : (sgK (ax_s0 s.heap.size b (t + 1) L xs) r) = (if r = b + 1 then (25, L) else if r = t + 1 then (23, 0) else (99, 0)) := rfl
    rw [this] at hr
    split at hr
    · exact absurd (show 25 < 9 from hr) (by decide)
    · split at hr
      · exact absurd hr (by decide)
      · exact absurd hr (by decide)
  · have hk : (sgK (ax_s0 s.heap.size b (t + 1) L xs) r) = (if r = b + 1 then (25, L) else if r = t + 1 then (23, 0) else (99, 0)) := rfl
    by_cases q1 : r = b + 1
    · subst q1
      rw [if_pos rfl] at hk
      rw [hk]
      exact ⟨b, cellX, rfl, fun h => absurd rfl h, x1, x2, x3, ⟨fun _ => x4, by rw [x4]⟩, x5, fun h => by omega⟩
    · rw [if_neg q1] at hk
      by_cases q2 : r = t + 1
      · subst q2
        rw [if_pos rfl] at hk
        rw [hk]
        exact ⟨t, cellT, rfl, fun _ h => absurd rfl h, t1, t2, t3, ⟨fun h => absurd rfl h, t5⟩, fun j hj => absurd hj (Nat.not_lt_zero j), fun _ h => absurd rfl h⟩
      · rw [if_neg q2] at hk
        rw [hk] at hr2
        exact absurd hr2 (by decide)
  · have hc : c < 9 := (List.getElem?_eq_some_iff.mp hq).1
    have h1 := ax_clk c hc
    rw [h1] at hq
    cases hq
    exact hD c hc
  · refine ⟨⟨t, rfl, hZ⟩, vx_Zqof (hts _ (ax_t1 (List.mem_of_getElem? (i := 137) rfl))) (hg _ ⟨ax_t1 (List.mem_of_getElem? (i := 6) rfl), rfl⟩) (hfl _ (List.mem_of_getElem? (i := 8) rfl)) hA, vx_Zqof (hts _ (ax_t1 (List.mem_of_getElem? (i := 139) rfl))) (hg _ ⟨ax_t1 (List.mem_of_getElem? (i := 6) rfl), rfl⟩) (hfl _ (List.mem_of_getElem? (i := 9) rfl)) hA, ⟨mi, rfl, hMi⟩, va_Dc.of (hts _ (ax_t4 (List.mem_of_getElem? (i := 80) rfl))), fun k hk => ?_, fun q hq => ?_, fun E F hE hF hEF => ?_, ?_, ?_⟩
    · rcases hk with rfl | rfl
      · exact va_AO.of (hts _ (ax_t2 (List.mem_of_getElem? (i := 75) rfl)))
      · exact va_AO.of (hts _ (ax_t1 (List.mem_of_getElem? (i := 59) rfl)))
    · have h1 := List.all_eq_true.mp ax_ltk q hq
      obtain ⟨k, hk, h2⟩ := List.any_eq_true.mp h1
      obtain ⟨h3, h4⟩ := ax_tks k hk
      rw [← ax_beq h2]
      exact ax_txs hts hfl h3 h4
    · have e1 : E = 0 ∨ E = 1 ∨ E = 2 := by omega
      have e2 : F = 0 ∨ F = 1 ∨ F = 2 := by omega
      rcases e1 with rfl | rfl | rfl <;> rcases e2 with rfl | rfl | rfl
      · exact absurd rfl hEF
      · exact va_Nc.of (hfl _ ax_nc01)
      · exact va_Nc.of (hfl _ ax_nc02)
      · exact va_Nc.of (hfl _ ax_nc10)
      · exact absurd rfl hEF
      · exact va_Nc.of (hfl _ ax_nc12)
      · exact va_Nc.of (hfl _ ax_nc20)
      · exact va_Nc.of (hfl _ ax_nc21)
      · exact absurd rfl hEF
    · exact List.forall_mem_cons.mpr ⟨va_Nw.of rfl (hts _ (ax_t1 (List.mem_of_getElem? (i := 114) rfl))), List.forall_mem_cons.mpr ⟨va_Nw.of rfl (hts _ (ax_t1 (List.mem_of_getElem? (i := 116) rfl))), List.forall_mem_cons.mpr ⟨va_Nw.of rfl (hts _ (ax_t1 (List.mem_of_getElem? (i := 118) rfl))), fun _ h => absurd h List.not_mem_nil⟩⟩⟩
    · exact List.forall_mem_cons.mpr ⟨va_Nw.of rfl (hts _ (ax_t4 (List.mem_of_getElem? (i := 68) rfl))), List.forall_mem_cons.mpr ⟨va_Nw.of rfl (hts _ (ax_t4 (List.mem_of_getElem? (i := 75) rfl))), List.forall_mem_cons.mpr ⟨va_Nw.of rfl (hts _ (ax_t4 (List.mem_of_getElem? (i := 65) rfl))), List.forall_mem_cons.mpr ⟨va_Nw.of rfl (hts _ (ax_t4 (List.mem_of_getElem? (i := 74) rfl))), List.forall_mem_cons.mpr ⟨va_Nw.of rfl (hts _ (ax_t4 (List.mem_of_getElem? (i := 73) rfl))), List.forall_mem_cons.mpr ⟨va_Nw.of rfl (hts _ (ax_t4 (List.mem_of_getElem? (i := 71) rfl))), List.forall_mem_cons.mpr ⟨va_Nw.of rfl (hts _ (ax_t4 (List.mem_of_getElem? (i := 66) rfl))), List.forall_mem_cons.mpr ⟨va_Nw.of rfl (hts _ (ax_t4 (List.mem_of_getElem? (i := 68) rfl))), List.forall_mem_cons.mpr ⟨va_Nw.of rfl (hts _ (ax_t4 (List.mem_of_getElem? (i := 67) rfl))), List.forall_mem_cons.mpr ⟨va_Nw.of rfl (hts _ (ax_t2 (List.mem_of_getElem? (i := 99) rfl))), List.forall_mem_cons.mpr ⟨va_Nw.of rfl (hts _ (ax_t1 (List.mem_of_getElem? (i := 112) rfl))), List.forall_mem_cons.mpr ⟨va_Nw.of rfl (hts _ (ax_t1 (List.mem_of_getElem? (i := 203) rfl))), fun _ h => absurd h List.not_mem_nil⟩⟩⟩⟩⟩⟩⟩⟩⟩⟩⟩⟩
end AXV1
/-! THE CLAIM OUT OF ONE WALK OF THE LAW'S BODY. Your part is whole_start (and what it stands on); all else here is the same for every law, but numbers. -/
def R_law : String := "PipelineRunnerLaw"
def lw_P (b : Addr) (xs : List Int32) (args : Array Value) (s : State) : Prop := args = #[.ref b] ∧ s.IntsAt b xs ∧ xs.length ≤ 260 ∧ (Jvm.Cond.and given_1 narrow_1).before args s = true
def lw_Q (_ : Array Value) (s : State) (o : Outcome) (t : State) : Prop := o = .returned (some (.int 1)) ∧ Framed s o t [] room_1.cells room_1.slots
def lw_Z (below : List Frame) (a : Array Value) (s : State) : State → Prop := fun t => ∃ o, t.status = .running ∧ Ended t below o ∧ lw_Q a s o t
/-- the law's own end, with 1 on the stack, nothing written that was there before, its room as the claim has it -/
theorem lw_ret {p : Program} {l : Launch} {e : Env} {s : State} {m : MethodId} {below : List Frame} {meth : Method} {c : Code} {b : Nat} (hx : p.tables.exec = Jvm.exec) (hb : c.code = code) (hr : meth.sig.returnType = ret) (hlocks : meth.locks = false) {pc : Nat} {H : Heap} {ls : Array Slot} (hdg : decode code pc = .ok (.ireturn, 1)) : W p l e room_1 s m #[Value.ref b] below meth c H [] room_1.cells room_1.slots (lw_Z below #[Value.ref b] s) (F0 m pc ls [.int 1]) := by
  intro T hT X
  obtain ⟨fs, hret, hrun, hended, hW, hframe⟩ := X.leave (v := some (.int 1)) (hlocks := hlocks) (fun h => by rw [hr] at h; cases h)
  have hmeth' : T.vm.method? m = some meth := X.method'
  refine ⟨T.setFrames fs, ?_, .returned (some (.int 1)), hrun, hended, rfl, ⟨_, rfl⟩, hW, hframe⟩
  jvm_step X.here [X.here.top, hx, hb, hdg, hmeth', hr, ret, narrow_b1]
  (try refine ⟨rfl, ?_⟩); (try refine ⟨rfl, ?_⟩)
  first | (intro acts; rw [hret _ acts rfl rfl rfl]) | rw [hret _ _ rfl rfl rfl]
  exact Steps.refl _
/-- what holds at the law's entry: the machine, the code, the tables' words (any of lw_tbl by 'hts w (by decide +kernel)'), the script of L ints xs at the cell b, what the Statement gives of the start (any of its parts by flat_of_before) -/
def lw_At (p : Program) (s : State) (m : MethodId) (meth : Method) (c : Code) (b L : Nat) (xs : Nat → Int32) : Prop :=
  p.tables.exec = Jvm.exec ∧ c.code = code ∧ meth.sig.returnType = ret ∧ c.maxLocals = 11 ∧ s.vm.findClass R_law = some m.cls ∧ (∀ w ∈ lw_tbl, w.before #[Value.ref b] s = true) ∧ va_X b L xs s s.heap ∧ b < s.heap.size ∧ meth.locks = false ∧ c.exceptionTable.toList = [] ∧ (Jvm.Cond.and given_1 narrow_1).before #[Value.ref b] s = true
theorem whole_start {p : Program} {e : Env} {s : State} {m : MethodId} {below : List Frame} {meth : Method} {c : Code} (l : Launch) (hflags : l.flags = flags0) {b L : Nat} {xs : Nat → Int32} (hL : L ≤ 260) (C0 : lw_At p s m meth c b L xs) : W p l e room_1 s m #[Value.ref b] below meth c s.heap [] 0 0 (lw_Z below #[Value.ref b] s) (entryFrame m ([Value.ref b] : List Value).toArray 11) := by
  obtain ⟨hx, hb, hr, hml, hown, hts, hX, hbl, hlk, htab, hgv⟩ := C0
  have hfl : l.stackTraces = false := by
    have h1 : flags0.contains noTraceFlag = true := by
      unfold flags0
      first
        | exact List.elem_eq_true_of_mem (List.mem_append_right _ (List.mem_singleton.mpr rfl))
        | simp
    unfold Launch.stackTraces
    rw [hflags, h1]
    rfl
  obtain ⟨D, e0, mo, hh, hK, hG, h1, h2, h3⟩ := ax_start hts hX hgv
  obtain ⟨n, σ', hex, hc, hs⟩ := ax_law (mo := mo) (xs := xs) hL hbl h1 h2 h3 (by obtain ⟨t, e, -⟩ := hG.2.2.2.1; omega)
  have hC : ax_Cx p l room_1 s m #[Value.ref b] meth c s.heap.size e0 mo 14 195 D :=
    ⟨hx, hb, hml, hown, fun w hw => hts w (List.mem_filter.mp hw).1, fun ho => absurd ho (by decide), hK, hG, Nat.le_refl _, rfl, by decide, hfl, by rw [htab]; rfl, hlk⟩
  have hcat : ∀ v ∈ [aR (b + 1)], ax_cat v = 1 := fun v hv => by
    obtain rfl := List.mem_singleton.mp hv
    rfl
  have hlen1 : [aR (b + 1)].length ≤ ax_L 195 := by
    show 1 ≤ ax_L 195
    decide
  rw [lg_entry_eq]
  refine ax_FL hfl n s.heap.size D 14 195 (0, ax_entry 195 [aR (b + 1)], []) _ _ σ' hex p e room_1 s m _ below meth c _ s.heap [] 0 0 (sgZ σ' - (s.heap.size + 1)) (sgU σ') _ hC (ax_entry_len (as := [aR (b + 1)]) hlen1) hh ⟨Nat.le_refl _, fun _ _ _ => rfl, fun _ h => absurd h List.not_mem_nil⟩ (ax_lo_entry (y := 195) (as := [aR (b + 1)]) hlen1 hcat) (Nat.zero_add _).symm (by rw [Nat.zero_add]; rfl) hc hs ⟨fun v hv pc' H1 locs1 ls1 hrt hh1 hS1 => ?_, fun E hE => by cases hE⟩
  cases hv
  have hd : decode code pc' = .ok (.ireturn, 1) := by
    rcases hrt with ⟨q, -, -⟩ | ⟨x, -, q, -⟩ | ⟨r, q, -, -⟩
    · cases q
    · exact q
    · cases q
  exact va_forget (fun q hq => hS1.2.2 q hq) (W.widen hc hs (lw_ret hx hb hr hlk hd))
set_option maxHeartbeats 4000000 in
theorem lw_walk (l : Launch) (hflags : l.flags = flags0) (b : Addr) (xs : List Int32) : MetFree l x (headSpec (Jvm.Cond.code x code maxLocals ret :: tables_1) room_1) (lw_P b xs) (fun _ _ _ _ _ => True) lw_Q := by
  refine MetFree.of_bodyS (code := code) (maxLocals := maxLocals) (ret := ret) (by decide) ?_ ?_
  · intro args s m h hn
    obtain ⟨meth, c, h1, h2, h3, h4, h5, h6, -, -⟩ := Cond.code_spec hn (atoms_spec (ws := Jvm.Cond.code x code maxLocals ret :: tables_1) h _ List.mem_cons_self)
    exact ⟨meth, c, h1, h2, h3, h4, h5, h6⟩
  · intro p e s m args below meth c s₁ B hml0 hP _
    obtain ⟨rfl, hx, hbd, hgv⟩ := hP
    obtain ⟨scr, harrAt, hlist, hof, hsmall⟩ := hx
    obtain ⟨hcb, hkn, -, -⟩ := State.arrayAt?_spec harrAt
    have hown : s.vm.findClass R_law = some m.cls := findClass_of_methodNamed B.named
    have hts0 : ∀ c ∈ (Jvm.Cond.code x code maxLocals ret :: tables_1), c.before #[Value.ref b] s = true := atoms_spec (ws := Jvm.Cond.code x code maxLocals ret :: tables_1) B.pre
    have hts : ∀ w ∈ lw_tbl, w.before #[Value.ref b] s = true := k2_hts_sels lw_privs (fun w hw => hts0 w (List.mem_cons_of_mem _ hw)) lw_privs_ok
    have hml : c.maxLocals = 11 := B.maxLocals_eq (hts0 _ List.mem_cons_self)
    have X₀ : Stand p l e room_1 s m #[Value.ref b] below meth c s₁ [] 0 0 := Stand.of_body B
    have hh0 : s₁.heap = s.heap := by rw [B.state]; rfl
    have htab : c.exceptionTable.toList = [] := by
      obtain ⟨meth9, c9, g1, g2, -, -, -, -, g7, -⟩ := Cond.code_spec B.named (hts0 _ List.mem_cons_self)
      cases Option.some.inj (g1.symm.trans B.method)
      cases Option.some.inj (g2.symm.trans X₀.code)
      rw [Array.isEmpty_iff.mp g7]
    have hsz : scr.slots.size = xs.length := by rw [← Array.length_toList, hlist, List.length_map]
    have hval : ∀ j : Nat, j < xs.length → scr.slots[j]? = some (.int (xs.getD j 0)) := fun j hj => by
      rw [← Array.getElem?_toList, hlist]
      simp [hj]
    have hbl : b < s.heap.size := (Array.getElem?_eq_some_iff.mp hcb).1
    have hX : va_X b xs.length (fun j => xs.getD j 0) s s.heap := ⟨scr, hcb, hof, hkn, hsz, hval⟩
    have K : W p l e room_1 s m #[Value.ref b] below meth c s₁.heap [] 0 0 (lw_Z below #[Value.ref b] s) (entryFrame m ([Value.ref b] : List Value).toArray 11) := by
      rw [hh0]
      exact whole_start l hflags hbd ⟨B.exec, B.bytes, B.returns, hml, hown, hts, hX, hbl, B.notSynchronized, htab, hgv⟩
    obtain ⟨t, a1, o, b1, b2, b3⟩ := K s₁ rfl X₀
    exact ⟨t, o, a1, b1, b2, b3⟩
theorem lw_pre_spec {args : Array Value} {s : State} (h : (Jvm.Cond.and given_1 narrow_1).before args s = true) (hr : rest_1_c.before args s = true) : ∃ (b : Addr) (xs : List Int32), lw_P b xs args s := by
  have hs := flat_of_before _ h
  have hq := flat_of_before _ hr
  have hc : (Cond.count 1).before args s = true := hs _ (by decide +kernel)
  have harr : (Cond.arrayOf (.arg 0) .int).before args s = true := hs _ (by decide +kernel)
  have hle : (Cond.le (.length (.arg 0)) (.int 260)).before args s = true := hs _ (by decide +kernel)
  have hlen : (Cond.isInt (.length (.arg 0))).before args s = true := hq _ (by decide +kernel)
  have hall : (Cond.all (.arg 0) (.isInt (.elem (.arg 0) (.index 0)))).before args s = true := hq _ (by decide +kernel)
  obtain ⟨b, xs, hb, hx⟩ := State.ints_of_pre rfl harr hlen hall
  have hsm : xs.length < 2 ^ 31 := hx.choose_spec.2.2.2
  have hev : (Term.length (.arg 0)).eval args s none [] s = some (.int xs.length.toInt32) := hx.length_eval hb
  have hv := Cond.le_ints hev (show (Term.int 260).eval args s none [] s = some (.int 260) from rfl)
  have hd : xs.length.toInt32 ≤ 260 := by
    simpa [Cond.before, Cond.holds, hv] using hle
  have hN : xs.length ≤ 260 := (Int32.ofNat_le_ofNat hsm (by decide)).mp (show Int32.ofNat xs.length ≤ Int32.ofNat 260 from hd)
  exact ⟨b, xs, Cond.one_arg hc (show args[0]? = some (.ref b) from hb), hx, hN, h⟩
theorem lw_comes (l : Launch) (hflags : l.flags = flags0) : Comes l x (Jvm.Cond.code x code maxLocals ret :: tables_1) room_1 (fun tb e args s => Calls_1 tb e args s ∧ rest_1 tb e args s ∧ Pre_1 tb e args s)
    (fun _ _ args s o t => lw_Q args s o t) := by
  intro p e ha hc hk s m args below hf hfit hheap happ hpre
  obtain ⟨b, xs, hP⟩ := lw_pre_spec hpre.2.2 hpre.2.1
  obtain ⟨k, o, h1, h2, h3, hQ⟩ := lw_walk l hflags b xs p e ha hc hk s m args below hf ((Spec.applies_iff_loose hf).mp happ).1 hP trivial
  exact ⟨k, o, h1, h2, h3, hQ⟩
theorem lw_frame {s t : State} {o : Outcome} {args : Array Value} (h : Framed s o t [] room_1.cells room_1.slots) :
    Framed s o t (fieldLocs frame_1_writes args s ++ arrayLocs frame_1_arrays args s ++ staticLocs frame_1_statics s) room_1.cells room_1.slots := h
theorem lw_limb (L : Cond) (hL : ∀ (args : Array Value) (s t : State), L.after args s (.returned (some (.int 1))) t = true) :
    ArmFor flags0 classFile x code maxLocals ret World_1 tables_1 room_1 Calls_1 rest_1 Pre_1
      (fun tb e a s o t => postC L tb e a s o t ∧ Framed s o t (fieldLocs frame_1_writes a s ++ arrayLocs frame_1_arrays a s ++ staticLocs frame_1_statics s) room_1.cells room_1.slots) := by
  intro l hflags _ _ p e ha hc hk s m args below hf hfit hheap happ hpre
  obtain ⟨k, o, h1, h2, h3, rfl, hF⟩ := lw_comes l hflags p e ha hc hk s m args below hf hfit hheap happ hpre
  exact ⟨k, _, h1, h2, h3, hL args s _, lw_frame hF⟩
theorem i_vc : Claimed_1_1 ∧ Claimed_1_2 := ⟨lw_limb limb_1_1 (fun args s t => by simp [limb_1_1, Cond.after, Cond.holds, Cond.value]), lw_limb limb_1_2 (fun args s t => Cond.after_iff.mpr (by
  first | (rw [show limb_1_2 = Cond.eq .result (.int 1) from rfl, Cond.eq_ints (x := 1) (y := 1) rfl rfl]; simp; done) | (simp [limb_1_2, Cond.value, Term.eval]; done)))⟩
