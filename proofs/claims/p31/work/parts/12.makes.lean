/-! Making things, casts, natives, throws, returns. Printed by wip/whole/gen12.py. -/
section AXN
theorem ax_acI : ax_gw (.arrayClass .int) := ⟨ax_t3 (List.mem_of_getElem? (i := 12) rfl), rfl⟩
theorem ax_stA : ax_gw (.static arraycopyName) := ⟨ax_t2 (List.mem_of_getElem? (i := 81) rfl), rfl⟩
theorem ax_ntA : ax_gw (.native arraycopyName) := ⟨ax_t2 (List.mem_of_getElem? (i := 82) rfl), rfl⟩
theorem ax_inA : ax_gw (.initialized "java/lang/System") := ⟨ax_t1 (List.mem_of_getElem? (i := 17) rfl), rfl⟩
theorem ax_gcI : ax_gw (.instanceMethod ax_gcN) := ⟨ax_t2 (List.mem_of_getElem? (i := 57) rfl), rfl⟩
theorem ax_gcT : ax_gw (.native ax_gcN) := ⟨ax_t2 (List.mem_of_getElem? (i := 70) rfl), rfl⟩
theorem ax_gcS : ax_gw (.selects "[Ljava/lang/Object;" ax_gcN ax_gcN) := ⟨ax_t4 (List.mem_of_getElem? (i := 79) rfl), rfl⟩
theorem ax_obI : ax_gw (.instanceMethod objectInit) := ⟨ax_t1 (List.mem_of_getElem? (i := 30) rfl), rfl⟩
theorem ax_obC : ax_gw (.code objectInit ⟨#[0xb1]⟩ 1 none) := ⟨ax_t1 (List.mem_of_getElem? (i := 31) rfl), rfl⟩
theorem ax_mxS : ax_gw (.static Lib.Math.max.name) := ⟨ax_t2 (List.mem_of_getElem? (i := 47) rfl), rfl⟩
theorem ax_mxC : ax_gw (.code Lib.Math.max.name Lib.Math.max.code 2 (some .int)) := ⟨ax_t2 (List.mem_of_getElem? (i := 48) rfl), rfl⟩
theorem ax_mnS : ax_gw (.static Lib.Math.min.name) := ⟨ax_t2 (List.mem_of_getElem? (i := 78) rfl), rfl⟩
theorem ax_mnC : ax_gw (.code Lib.Math.min.name Lib.Math.min.code 2 (some .int)) := ⟨ax_t2 (List.mem_of_getElem? (i := 79) rfl), rfl⟩
theorem ax_mtI : ax_gw (.initialized "java/lang/Math") := ⟨ax_t1 (List.mem_of_getElem? (i := 15) rfl), rfl⟩
theorem ax_arL : ax_gw (.classLink "java/util/Arrays" 110 "[Ljava/lang/Object;") := ⟨ax_t2 (List.mem_of_getElem? (i := 74) rfl), rfl⟩
theorem ax_stL : ax_gw (.fieldLink "java/util/ArrayList" 39 "java/util/ArrayList" "DEFAULTCAPACITY_EMPTY_ELEMENTDATA" "[Ljava/lang/Object;") := ⟨ax_t1 (List.mem_of_getElem? (i := 44) rfl), rfl⟩
section
variable {p : Program} {l : Launch} {e : Env} {R : Room} {s : State} {m : MethodId} {args : Array Value} {below : List Frame} {meth : Method} {c : Code} {H : Heap} {locs : List Loc} {cells slots : Nat} {Q : State → Prop}
variable {B e0 mo d y pc : Nat} {D : va_G} {σ : SG} {sr : SR} {L st : List AV} {ls : Array Slot} {nx a b f : Nat}
theorem ax_Nx.made {fr : FRM} {k n : Nat} (h : ax_Nx p l e R s m args below meth c Q B e0 mo d y pc D cells slots σ (.inl (fr, mkC σ k n))) : cells + 1 ≤ R.cells ∧ slots + n ≤ R.slots ∧ ∀ (H1 : Heap) (locs1 : List Loc) (ls1 : Array Slot), ax_hp B D (mkC σ k n) s H1 → va_S (ax_GA B) s.heap H1 locs1 → ax_lo ls1 fr.2.1 → W p l e R s m args below meth c H1 locs1 (cells + 1) (slots + n) Q (F0 m fr.1 ls1 (fr.2.2.map avV)) := by
  have e1 : sgZ (mkC σ k n) - sgZ σ = 1 := Nat.add_sub_cancel_left _ _
  have e2 : sgU (mkC σ k n) - sgU σ = n := Nat.add_sub_cancel_left _ _
  obtain ⟨h1, h2, h3⟩ := h
  rw [e1] at h1 h3
  rw [e2] at h2 h3
  exact ⟨h1, h2, h3⟩
theorem ax_sk {σ : SG} {k n : Nat} : sgK (mkC σ k n) (sgZ σ) = (k, n) := va_up_self _ _ _
theorem ax_grow {H1 : Heap} (hS : va_S (ax_GA B) s.heap H locs) (z1 : H1.size = H.size + 1) (o1 : ∀ q : Nat, q < H.size → H1[q]? = H[q]?) : va_S (ax_GA B) s.heap H1 locs := ⟨Nat.le_trans hS.1 (by omega), fun q h1 h2 => (o1 q (Nat.lt_of_lt_of_le h1 hS.1)).trans (hS.2.1 q h1 h2), hS.2.2⟩
theorem ax_newI {σ : SG} {k n i j : Nat} : sgI (mkC σ k n) k i (sgZ σ) = 0 ∧ sgR (mkC σ k n) k i (sgZ σ) = 0 ∧ sgJ (mkC σ k n) k j (sgZ σ) = 0 := ⟨if_pos ⟨rfl, rfl⟩, if_pos ⟨rfl, rfl⟩, if_pos ⟨rfl, rfl⟩⟩
theorem sk_new {j : Nat} (hi : ax_LN.any (fun q => Nat.beq q.1 (ax_own y) && Nat.beq q.2.1 j && Nat.beq q.2.2.1 a && Nat.beq q.2.2.2.1 b) = true) (hd : decode (ax_b y) pc = .ok (.new j, 3)) (hn : nx = pc + 3) (hs : (ax_go nx L (aR (sgZ σ) :: st) (mkC σ a b)).bind ax_pick = some sr) (hT : ax_Nx p l e R s m args below meth c Q B e0 mo d y pc D cells slots σ sr) (hC : ax_Cx p l R s m args meth c B e0 mo d y D) (hh : ax_hp B D σ s H) (hS : va_S (ax_GA B) s.heap H locs) (hlo : ax_lo ls L) : W p l e R s m args below meth c H locs cells slots Q (F0 m pc ls (st.map avV)) := by
  obtain ⟨hx, hb, hml, hown, hts, hnm, hK, hG, hB, hRf, hRl, hfl, htab, hlk⟩ := id hC
  
  subst hn
  obtain rfl := ax_pick_go hs
  obtain ⟨⟨q1, q2, q3, q4, p1, p2, p3⟩, -, h2, w1, w2, w3, g2, g3⟩ := ax_any hi ax_LN_w
  simp only [Bool.and_eq_true] at h2
  obtain ⟨⟨⟨e1, e2⟩, e3⟩, e4⟩ := h2
  have e1 := ax_beq e1
  have e2 := ax_beq e2
  have e3 := ax_beq e3
  have e4 := ax_beq e4
  subst e1; subst e2; subst e3; subst e4
  dsimp only at w1 w2 w3 g2 g3
  obtain ⟨hc, hsl, hT⟩ := hT.made
  have hKn := hK.1 q3 _ (ax_clk q3 g2)
  subst g3
  refine W.newcK hx hb hown (hts _ (ax_in_W w1)) (hts _ (ax_in_W w2)) (hts _ (ax_in_W w3)) rfl hd hc hsl hKn.2.1 rfl fun H1 kC hkC f1 z1 o1 => ?_
  have hty : ∀ i, i < ax_N q3 → parseFieldDescriptor (ax_T q3 i).2.2.1 = some (ax_ty q3 i) := fun i hi9 => by
    have h9 := ax_tyk g2 hi9
    unfold ax_tyc at h9
    simp only [Bool.and_eq_true, decide_eq_true_eq] at h9
    exact h9.1
  have hZ : sgZ σ = H.size + 1 := hh.1.symm
  have h9 := hT H1 locs ls (hh.new z1 o1 (fun _ => ?_) (fun h8 => ?_)) (ax_grow hS z1 o1) hlo
  · rw [List.map_cons, hZ] at h9
    exact h9
  · rw [ax_sk]
    refine ⟨H.size, hZ, Nat.le_trans hB hS.1, (u_born (ax_ty q3) hts (ax_uin g2) hKn hkC f1 hty).to fun i hi9 => ?_⟩
    unfold ax_fv
    rcases ax_tyF g2 hi9 with ⟨t1, t2⟩ | ⟨t1, t2⟩ | ⟨t1, ⟨C, t2⟩ | ⟨t, t2⟩⟩
    · rw [t1, t2]; exact congrArg Value.int (ax_newI (j := 0)).1.symm
    · rw [t1, t2]; exact congrArg Value.int (ax_newI (j := 0)).1.symm
    · rw [t1, t2]; show Value.null = va_rf (avr (sgR _ _ _ _)); rw [(ax_newI (j := 0)).2.1]; rfl
    · rw [t1, t2]; show Value.null = va_rf (avr (sgR _ _ _ _)); rw [(ax_newI (j := 0)).2.1]; rfl
  · rw [ax_sk] at h8; dsimp only at h8; omega
theorem ax_hp.newA {H1 : Heap} {k n : Nat} {cA : ClassId} {v : Value} (hh : ax_hp B D σ s H) (hk : 20 ≤ k) (hk2 : k < 25) (hBH : B ≤ H.size) (e1 : H1[H.size]? = some (arrV cA n (fun _ => v))) (z1 : H1.size = H.size + 1) (o1 : ∀ q : Nat, q < H.size → H1[q]? = H[q]?) (hA : s.isArrayOf (arrV cA n (fun _ => v)) (ax_aty k)) (hv : ∀ j, v = ax_ev (mkC σ k n) k j (sgZ σ)) (hR : k = 23 ∨ k = 24 → va_RA s cA (ax_aty k)) : ax_hp B D (mkC σ k n) s H1 := by
  refine hh.new z1 o1 (fun h => ?_) (fun _ _ => ?_)
  · rw [ax_sk] at h; dsimp only at h; omega
  · rw [ax_sk]
    exact ⟨H.size, _, hh.1.symm, fun _ _ => hBH, e1, hA, (fun h => by cases h), ⟨fun _ => arrV_size _ _ _, by rw [arrV_size]⟩, fun j hj => by rw [arrV_read _ _ hj]; exact congrArg some (hv j), fun z _ => ⟨hR z, rfl⟩⟩
theorem sk_newa {t : ArrayType} (ht : t = .int ∧ a = 20) (hd : decode (ax_b y) pc = .ok (.newarray t, 2)) (hn : nx = pc + 2) (hs : (ax_mka nx a L st σ).bind ax_pick = some sr) (hT : ax_Nx p l e R s m args below meth c Q B e0 mo d y pc D cells slots σ sr) (hC : ax_Cx p l R s m args meth c B e0 mo d y D) (hh : ax_hp B D σ s H) (hS : va_S (ax_GA B) s.heap H locs) (hlo : ax_lo ls L) : W p l e R s m args below meth c H locs cells slots Q (F0 m pc ls (st.map avV)) := by
  obtain ⟨hx, hb, hml, hown, hts, hnm, hK, hG, hB, hRf, hRl, hfl, htab, hlk⟩ := id hC
  
  subst hn
  unfold ax_mka at hs
  split at hs
  · rename_i n st'
    obtain ⟨⟨hn0, hn1⟩, rfl⟩ := ax_pick_gd hs
    obtain ⟨hc, hsl, hT⟩ := hT.made
    have hBH : B ≤ H.size := Nat.le_trans hB hS.1
    have hZ : sgZ σ = H.size + 1 := hh.1.symm
    rcases ht with ⟨rfl, rfl⟩
    · refine W.newaK (atype := .int) hx hb (hts _ (ax_in_W ax_acI)) rfl hd rfl hn0 rfl (Nat.le_trans (Nat.mul_le_mul_right _ hn1) (Nat.le_of_ble_eq_true rfl)) hc hsl rfl fun H1 cA f1 z1 o1 hA => ?_
      have h9 := hT H1 locs ls (hh.newA (k := 20) (by omega) (by omega) hBH f1 z1 o1 (hA _ _) (fun j => congrArg Value.int (ax_newI (j := 0)).1.symm) (fun z => by omega)) (ax_grow hS z1 o1) hlo
      rw [List.map_cons, hZ] at h9
      exact h9
  · cases hs
theorem sk_newq {j : Nat} (hi : ax_LA.any (fun q => Nat.beq q.1 (ax_own y) && Nat.beq q.2.1 j && Nat.beq q.2.2.1 a) = true) (hd : decode (ax_b y) pc = .ok (.anewarray j, 3)) (hn : nx = pc + 3) (hs : (ax_mka nx a L st σ).bind ax_pick = some sr) (hT : ax_Nx p l e R s m args below meth c Q B e0 mo d y pc D cells slots σ sr) (hC : ax_Cx p l R s m args meth c B e0 mo d y D) (hh : ax_hp B D σ s H) (hS : va_S (ax_GA B) s.heap H locs) (hlo : ax_lo ls L) : W p l e R s m args below meth c H locs cells slots Q (F0 m pc ls (st.map avV)) := by
  obtain ⟨hx, hb, hml, hown, hts, hnm, hK, hG, hB, hRf, hRl, hfl, htab, hlk⟩ := id hC
  
  subst hn
  obtain ⟨⟨q1, q2, q3, p1, p2⟩, -, h2, w1, ha⟩ := ax_any hi ax_LA_w
  simp only [Bool.and_eq_true] at h2
  obtain ⟨⟨e1, e2⟩, e3⟩ := h2
  have e1 := ax_beq e1
  have e2 := ax_beq e2
  have e3 := ax_beq e3
  subst e1; subst e2; subst e3
  dsimp only at w1 ha
  unfold ax_mka at hs
  split at hs
  · rename_i n st'
    obtain ⟨⟨hn0, hn1⟩, rfl⟩ := ax_pick_gd hs
    obtain ⟨hc, hsl, hT⟩ := hT.made
    have hBH : B ≤ H.size := Nat.le_trans hB hS.1
    have hZ : sgZ σ = H.size + 1 := hh.1.symm
    refine W.anew hx hb hown (hts _ (ax_in_W w1)) (va_AO.use (hG.2.2.2.2.2.1 q3 ha)) rfl hd rfl hn0 (by omega) hc hsl fun cA kA comp f1 f2 f3 f4 => ?_
    generalize hH1 : H.push ({ cls := cA, slots := Array.replicate n.toNatClampNeg .null, vm := .none } : Cell) = H1
    have z1 : H1.size = H.size + 1 := by rw [← hH1, Array.size_push]
    have g1 : H1[H.size]? = some (arrV cA n.toNatClampNeg (fun _ => .null)) := by rw [← hH1, Array.getElem?_push_size, ← arrV_new]
    have o1 : ∀ q : Nat, q < H.size → H1[q]? = H[q]? := fun q hq => by rw [← hH1, Array.getElem?_push, if_neg (Nat.ne_of_lt hq)]
    have hat : ax_aty q3 = .object (ax_an q3) := by rcases ha with rfl | rfl <;> rfl
    have hAr : s.isArrayOf (arrV cA n.toNatClampNeg (fun _ => .null)) (ax_aty q3) := by rw [hat]; exact ⟨(fun k h => by cases h), kA, f2, comp, f3⟩
    have h9 := hT H1 locs ls (hh.newA (k := q3) (by omega) (by omega) hBH g1 z1 o1 hAr (fun j => by
      have hr := (ax_newI (σ := σ) (k := q3) (n := n.toNatClampNeg) (i := j) (j := 0)).2.1
      unfold ax_ev
      rcases ha with rfl | rfl <;> (show Value.null = va_rf (avr (sgR _ _ _ _)); rw [hr]; rfl)) (fun _ => by rw [hat]; exact ⟨kA, comp, f2, f3, f4, f1⟩)) (ax_grow hS z1 o1) hlo
    rw [List.map_cons, hZ] at h9
    exact h9
  · cases hs
theorem sk_len (hd : decode (ax_b y) pc = .ok (.arraylength, 1)) (hn : nx = pc + 1) (hs : (ax_alen nx L st σ).bind ax_pick = some sr) (hT : ax_Nx p l e R s m args below meth c Q B e0 mo d y pc D cells slots σ sr) (hC : ax_Cx p l R s m args meth c B e0 mo d y D) (hh : ax_hp B D σ s H) (hS : va_S (ax_GA B) s.heap H locs) (hlo : ax_lo ls L) : W p l e R s m args below meth c H locs cells slots Q (F0 m pc ls (st.map avV)) := by
  obtain ⟨hx, hb, hml, hown, hts, hnm, hK, hG, hB, hRf, hRl, hfl, htab, hlk⟩ := id hC
  
  subst hn
  unfold ax_alen at hs
  split at hs
  · rename_i r st'
    obtain ⟨⟨h1, h2⟩, rfl⟩ := ax_pick_gd hs
    obtain ⟨q, cell, q1, q2, q3, q4, q5, q6, -⟩ := hh.2.2 r h1 h2
    subst q1
    exact W.alen hx hb q3 q4 q6.2 rfl rfl hd (hT.same rfl rfl hh hS hlo)
  · cases hs
theorem sk_cast {j : Nat} (hi : ax_LC.any (fun q => Nat.beq q.1 (ax_own y) && Nat.beq q.2.1 j && Nat.beq q.2.2.1 a) = true) (hd : decode (ax_b y) pc = .ok (.checkcast j, 3)) (hn : nx = pc + 3) (hs : (ax_cast nx a L st σ).bind ax_pick = some sr) (hT : ax_Nx p l e R s m args below meth c Q B e0 mo d y pc D cells slots σ sr) (hC : ax_Cx p l R s m args meth c B e0 mo d y D) (hh : ax_hp B D σ s H) (hS : va_S (ax_GA B) s.heap H locs) (hlo : ax_lo ls L) : W p l e R s m args below meth c H locs cells slots Q (F0 m pc ls (st.map avV)) := by
  obtain ⟨hx, hb, hml, hown, hts, hnm, hK, hG, hB, hRf, hRl, hfl, htab, hlk⟩ := id hC
  
  subst hn
  obtain ⟨⟨q1, q2, q3, p1⟩, -, h2, w1, ha⟩ := ax_any hi ax_LC_w
  simp only [Bool.and_eq_true] at h2
  obtain ⟨⟨e1, e2⟩, e3⟩ := h2
  have e1 := ax_beq e1
  have e2 := ax_beq e2
  have e3 := ax_beq e3
  subst e1; subst e2; subst e3
  dsimp only at w1 ha
  unfold ax_cast at hs
  split at hs
  · rename_i r st'
    obtain ⟨h0, rfl⟩ := ax_pick_gd hs
    have h9 := hT.same rfl rfl hh hS hlo
    by_cases hr : r = 0
    · subst hr
      exact lv_castN hx hb hd h9
    · have h1 : (sgK σ r).1 = q3 := h0.resolve_left hr
      obtain ⟨q, rfl, -, cell, g1, g2, g3, -⟩ := hh.2.1 r (by rw [h1]; exact ha)
      rw [h1] at g2
      have hcl := (hK.1 q3 _ (ax_clk q3 ha)).2
      exact va_castS hx hb hown (hts _ (ax_in_W w1)) hcl ⟨cell, g1, by rw [g3]; rfl, by rw [g2]; exact hcl.1⟩ hd h9
  · cases hs
theorem sk_gets {j : Nat} (hj : j = 39 ∧ ax_on (ax_own y) = "java/util/ArrayList") (hd : decode (ax_b y) pc = .ok (.getstatic j, 3)) (hn : nx = pc + 3) (hs : (ax_go nx L (aR e0 :: st) σ).bind ax_pick = some sr) (hT : ax_Nx p l e R s m args below meth c Q B e0 mo d y pc D cells slots σ sr) (hC : ax_Cx p l R s m args meth c B e0 mo d y D) (hh : ax_hp B D σ s H) (hS : va_S (ax_GA B) s.heap H locs) (hlo : ax_lo ls L) : W p l e R s m args below meth c H locs cells slots Q (F0 m pc ls (st.map avV)) := by
  obtain ⟨hx, hb, hml, hown, hts, hnm, hK, hG, hB, hRf, hRl, hfl, htab, hlk⟩ := id hC
  
  subst hn
  obtain rfl := ax_pick_go hs
  obtain ⟨rfl, ho⟩ := hj
  obtain ⟨⟨t, rfl, hZ⟩, -⟩ := hG
  rw [ho] at hown
  refine va_gets hx hb hZ hS hown (hts _ (ax_in_W ax_stL)) (fun x h => h) hd ?_
  exact hT.same rfl rfl hh hS hlo
theorem sk_ldcM {j : Nat} (hj : j = 110 ∧ ax_on (ax_own y) = "java/util/Arrays") (hd : decode (ax_b y) pc = .ok (.ldc j, 2)) (hn : nx = pc + 2) (hs : (ax_go nx L (aR mo :: st) σ).bind ax_pick = some sr) (hT : ax_Nx p l e R s m args below meth c Q B e0 mo d y pc D cells slots σ sr) (hC : ax_Cx p l R s m args meth c B e0 mo d y D) (hh : ax_hp B D σ s H) (hS : va_S (ax_GA B) s.heap H locs) (hlo : ax_lo ls L) : W p l e R s m args below meth c H locs cells slots Q (F0 m pc ls (st.map avV)) := by
  obtain ⟨hx, hb, hml, hown, hts, hnm, hK, hG, hB, hRf, hRl, hfl, htab, hlk⟩ := id hC
  
  subst hn
  obtain rfl := ax_pick_go hs
  obtain ⟨rfl, ho⟩ := hj
  obtain ⟨-, -, -, ⟨t, rfl, hM⟩, -⟩ := hG
  rw [ho] at hown
  exact va_ldcM hx hb hown (hts _ (ax_in_W ax_arL)) hM hd (hT.same rfl rfl hh hS hlo)
theorem ax_lo_any {o j f : Nat} (h : ax_LO.any (fun q => Nat.beq q.1 o && Nat.beq q.2.1 j && Nat.beq q.2.2.1 f) = true) : ax_gw (.methodLink (ax_on o) j (ax_oN f)) := by
  obtain ⟨⟨q1, q2, q3, q4⟩, -, h2, h3⟩ := ax_any h ax_LO_w
  simp only [Bool.and_eq_true] at h2
  obtain ⟨⟨e1, e2⟩, e3⟩ := h2
  have e1 := ax_beq e1
  have e2 := ax_beq e2
  have e3 := ax_beq e3
  subst e1; subst e2; subst e3
  exact h3
theorem sk_obj {j : Nat} (hi : ax_LO.any (fun q => Nat.beq q.1 (ax_own y) && Nat.beq q.2.1 j && Nat.beq q.2.2.1 1) = true) (hd : decode (ax_b y) pc = .ok (.invokespecial j, 3)) (hn : nx = pc + 3) (hLs : L.length = ax_L y) (hs : ((match st with
    | .inr (.inl r) :: st => ax_gd (ax_wt st ≤ 8 ∧ 0 < r) nx L st σ
    | _ => none)).bind ax_pick = some sr) (hT : ax_Nx p l e R s m args below meth c Q B e0 mo d y pc D cells slots σ sr) (hC : ax_Cx p l R s m args meth c B e0 mo d y D) (hh : ax_hp B D σ s H) (hS : va_S (ax_GA B) s.heap H locs) (hlo : ax_lo ls L) : W p l e R s m args below meth c H locs cells slots Q (F0 m pc ls (st.map avV)) := by
  obtain ⟨hx, hb, hml, hown, hts, hnm, hK, hG, hB, hRf, hRl, hfl, htab, hlk⟩ := id hC
  
  subst hn
  split at hs
  · rename_i r st'
    obtain ⟨⟨h1, h2⟩, rfl⟩ := ax_pick_gd hs
    obtain ⟨q, rfl⟩ : ∃ q, r = q + 1 := ⟨r - 1, by omega⟩
    refine W.objInit hx hb hown (hts _ (ax_in_W (ax_lo_any hi))) (hts _ (ax_in_W ax_obI)) (hts _ (ax_in_W ax_obC)) rfl (by show ls.size = _; rw [hml, hlo.1, hLs]) rfl hd (by omega) ?_ (hT.same rfl rfl hh hS hlo)
    show 2 * 0 + _ + 12 ≤ _
    rw [ax_wt_eq]
    omega
  · cases hs
theorem sk_getC {j : Nat} (hi : ax_LO.any (fun q => Nat.beq q.1 (ax_own y) && Nat.beq q.2.1 j && Nat.beq q.2.2.1 3) = true) (hd : decode (ax_b y) pc = .ok (.invokevirtual j, 3)) (hn : nx = pc + 3) (hLs : L.length = ax_L y) (hs : ((match st with
    | .inr (.inl r) :: st => ax_gd (ax_wt st ≤ 8 ∧ (sgK σ r).1 = 23 ∧ 0 < (sgK σ r).2) nx L (aR mo :: st) σ
    | _ => none)).bind ax_pick = some sr) (hT : ax_Nx p l e R s m args below meth c Q B e0 mo d y pc D cells slots σ sr) (hC : ax_Cx p l R s m args meth c B e0 mo d y D) (hh : ax_hp B D σ s H) (hS : va_S (ax_GA B) s.heap H locs) (hlo : ax_lo ls L) : W p l e R s m args below meth c H locs cells slots Q (F0 m pc ls (st.map avV)) := by
  obtain ⟨hx, hb, hml, hown, hts, hnm, hK, hG, hB, hRf, hRl, hfl, htab, hlk⟩ := id hC
  
  subst hn
  split at hs
  · rename_i r st'
    obtain ⟨⟨h1, h2, h3⟩, rfl⟩ := ax_pick_gd hs
    obtain ⟨q, cell, q1, q2, q3, q4, q5, q6, q7, q8⟩ := hh.2.2 r (by rw [h2]; decide) (by rw [h2]; decide)
    rw [h2] at q8
    obtain ⟨hRA, hvm⟩ := q8 (Or.inl rfl) (by omega)
    subst q1
    obtain ⟨-, -, -, ⟨t, rfl, hM⟩, hDc, -⟩ := hG
    refine va_getC hx hb (by rw [hml, hlo.1, hLs]) hown (hts _ (ax_in_W (ax_lo_any hi))) (va_Dc.use hDc) (hts _ (ax_in_W ax_gcS)) (hts _ (ax_in_W ax_gcI)) (hts _ (ax_in_W ax_gcT)) hM ⟨cell, q3, by rw [hvm]; rfl, va_nmO hRA rfl⟩ (by omega) (by rw [ax_wt_eq]; omega) hd (hT.same rfl rfl hh hS hlo)
  · cases hs
theorem sk_max {j : Nat} (hi : ax_LO.any (fun q => Nat.beq q.1 (ax_own y) && Nat.beq q.2.1 j && Nat.beq q.2.2.1 4) = true) (hd : decode (ax_b y) pc = .ok (.invokestatic j, 3)) (hn : nx = pc + 3) (hLs : L.length = ax_L y) (hcs : cells ≤ R.cells ∧ slots ≤ R.slots) (hs : (ax_mm (fun x y => if x < y then y else x) nx L st σ).bind ax_pick = some sr) (hT : ax_Nx p l e R s m args below meth c Q B e0 mo d y pc D cells slots σ sr) (hC : ax_Cx p l R s m args meth c B e0 mo d y D) (hh : ax_hp B D σ s H) (hS : va_S (ax_GA B) s.heap H locs) (hlo : ax_lo ls L) : W p l e R s m args below meth c H locs cells slots Q (F0 m pc ls (st.map avV)) := by
  obtain ⟨hx, hb, hml, hown, hts, hnm, hK, hG, hB, hRf, hRl, hfl, htab, hlk⟩ := id hC
  
  subst hn
  exact si_mm (fun x y rest hw k => va_mmax hx hb (by rw [hml, hlo.1, hLs]) hown (hts _ (ax_in_W (ax_lo_any hi))) (hts _ (ax_in_W ax_mxS)) (hts _ (ax_in_W ax_mtI)) (hts _ (ax_in_W ax_mxC)) (by omega) (by omega) hcs.1 hcs.2 hd k) hs hT hh hS hlo
theorem sk_min {j : Nat} (hi : ax_LO.any (fun q => Nat.beq q.1 (ax_own y) && Nat.beq q.2.1 j && Nat.beq q.2.2.1 5) = true) (hd : decode (ax_b y) pc = .ok (.invokestatic j, 3)) (hn : nx = pc + 3) (hLs : L.length = ax_L y) (hcs : cells ≤ R.cells ∧ slots ≤ R.slots) (hs : (ax_mm (fun x y => if y < x then y else x) nx L st σ).bind ax_pick = some sr) (hT : ax_Nx p l e R s m args below meth c Q B e0 mo d y pc D cells slots σ sr) (hC : ax_Cx p l R s m args meth c B e0 mo d y D) (hh : ax_hp B D σ s H) (hS : va_S (ax_GA B) s.heap H locs) (hlo : ax_lo ls L) : W p l e R s m args below meth c H locs cells slots Q (F0 m pc ls (st.map avV)) := by
  obtain ⟨hx, hb, hml, hown, hts, hnm, hK, hG, hB, hRf, hRl, hfl, htab, hlk⟩ := id hC
  
  subst hn
  exact si_mm (fun x y rest hw k => va_mmin hx hb (by rw [hml, hlo.1, hLs]) hown (hts _ (ax_in_W (ax_lo_any hi))) (hts _ (ax_in_W ax_mnS)) (hts _ (ax_in_W ax_mtI)) (hts _ (ax_in_W ax_mnC)) (by omega) (by omega) hcs.1 hcs.2 hd k) hs hT hh hS hlo
end
end AXN
