/-! Calls. -/
section AXR
theorem ax_ckl : (List.range 195).all (fun y => bif Nat.beq (ax_op y) 0 then Nat.blt (ax_ck y) 9 else true) = true := by decide +kernel
theorem ax_ck9 {y : Nat} (h : y < 195) (h0 : ax_op y = 0) : ax_ck y < 9 := by
  have h1 := List.all_eq_true.mp ax_ckl y (List.mem_range.mpr h)
  rw [h0] at h1
  exact Nat.blt_eq.mp h1
theorem ax_lm_any {o j a : Nat} (h : ax_LM.any (fun q => Nat.beq q.1 o && Nat.beq q.2.1 j && Nat.beq q.2.2 a) = true) : ax_gw (.methodLink (ax_on o) j (ax_y a)) ∧ a < 195 := by
  obtain ⟨⟨q1, q2, q3⟩, -, h2, h3⟩ := ax_any h ax_LM_w
  simp only [Bool.and_eq_true] at h2
  obtain ⟨⟨e1, e2⟩, e3⟩ := h2
  have e1 := ax_beq e1
  have e2 := ax_beq e2
  have e3 := ax_beq e3
  subst e1; subst e2; subst e3
  exact h3
theorem ax_blind (B : Nat) (D : va_G) (e0 mo : Nat) (as : List AV) (σ : SG) : FrameBlind (ax_Pc B D e0 mo as σ) := fun a U g mk h =>
  ⟨h.1, ax_hp.moved (u := U) (U := U.calling g mk a) (Vm.Alike.refl U.vm) h.2.1, va_K.moved (u := U) (U := U.calling g mk a) (Vm.Alike.refl U.vm) h.2.2.1, ax_G.next (s := U) (U := U.calling g mk a) (State.WarmedH.refl U) (fun _ _ _ => rfl) h.2.2.2.1, h.2.2.2.2⟩
theorem ax_stk (st : List AV) (n : Nat) : st.map avV = ((st.take n).reverse.map avV).reverse ++ (st.drop n).map avV := by
  rw [← List.map_reverse, List.reverse_reverse, ← List.map_append, List.take_append_drop]
theorem ax_push_map (v : AV) (st : List AV) : (ax_push v st).map avV = (ax_rv v).toList ++ st.map avV := by
  rcases v with (x | x) | (r | u) <;> rfl
theorem ax_callS_inv {nx y n : Nat} {L st : List AV} {σ : SG} {sr : SR} (h : (ax_call nx y n 1 L st σ).bind ax_pick = some sr) : n ≤ st.length ∧ ax_wt (st.drop n) ≤ 8 ∧ n ≤ ax_L y ∧ (∀ v ∈ st.take n, ax_cat v = 1) ∧ sr = .inr (.inl (y, (st.take n).reverse, (nx, L, st.drop n), σ)) := by
  unfold ax_call at h
  cases q : (Nat.ble (n + (bif Nat.beq 1 1 then 0 else 1)) st.length && Nat.ble (ax_wt (st.drop (n + (bif Nat.beq 1 1 then 0 else 1)))) 8 && Nat.ble (n + (bif Nat.beq 1 1 then 0 else 1)) (ax_L y) && (st.take n).all (fun v => Nat.beq (ax_cat v) 1)) with
  | false => rw [q] at h; cases h
  | true =>
    rw [q] at h
    simp only [Bool.and_eq_true] at q
    obtain ⟨⟨⟨q1, q2⟩, q3⟩, q4⟩ := q
    exact ⟨Nat.le_of_ble_eq_true q1, Nat.le_of_ble_eq_true q2, Nat.le_of_ble_eq_true q3, fun v hv => ax_beq (List.all_eq_true.mp q4 v hv), ax_pick_go h⟩
theorem ax_callI_inv {nx y n k : Nat} {L st : List AV} {σ : SG} {sr : SR} (hk : k = 0 ∨ k = 2) (h : (ax_call nx y n k L st σ).bind ax_pick = some sr) : n + 1 ≤ st.length ∧ n + 1 ≤ ax_L y ∧ (∀ v ∈ st.take n, ax_cat v = 1) ∧ ∃ (r : Nat) (rest : List AV), st.drop n = aR r :: rest ∧ ax_wt rest ≤ 8 ∧ (k = 0 → (sgK σ r).1 = ax_ck y) ∧ (k = 2 → 0 < r) ∧ sr = .inr (.inl (y, aR r :: (st.take n).reverse, (nx, L, rest), σ)) := by
  have hk1 : (bif Nat.beq k 1 then 0 else 1) = 1 := by rcases hk with rfl | rfl <;> rfl
  unfold ax_call at h
  cases q : (Nat.ble (n + (bif Nat.beq k 1 then 0 else 1)) st.length && Nat.ble (ax_wt (st.drop (n + (bif Nat.beq k 1 then 0 else 1)))) 8 && Nat.ble (n + (bif Nat.beq k 1 then 0 else 1)) (ax_L y) && (st.take n).all (fun v => Nat.beq (ax_cat v) 1)) with
  | false => rw [q] at h; cases h
  | true =>
    rw [q] at h
    rw [hk1] at q
    simp only [Bool.and_eq_true] at q
    obtain ⟨⟨⟨q1, q2⟩, q3⟩, q4⟩ := q
    refine ⟨Nat.le_of_ble_eq_true q1, Nat.le_of_ble_eq_true q3, fun v hv => ax_beq (List.all_eq_true.mp q4 v hv), ?_⟩
    have h2 : ((match st.drop n with
      | .inr (.inl r) :: rest => some (.inr (.inl ((bif Nat.beq k 0 then (sgK σ r).1 = ax_ck y else 0 < r), .inr (.inl (y, aR r :: (st.take n).reverse, (nx, L, rest), σ)))))
      | _ => none) : Option SM).bind ax_pick = some sr := by
      rcases hk with rfl | rfl <;> exact h
    cases hd : st.drop n with
    | nil => rw [hd] at h2; cases h2
    | cons w rest =>
      rw [hd] at h2
      rcases w with (x | x) | (r | u)
      · cases h2
      · cases h2
      · obtain ⟨g1, g2⟩ := ax_pick_gd h2
        refine ⟨r, rest, rfl, ?_, fun e => ?_, fun e => ?_, g2⟩
        · have e : st.drop (n + 1) = rest := by rw [← List.tail_drop, hd]; rfl
          rw [← e]; exact Nat.le_of_ble_eq_true q2
        · subst e; exact g1
        · subst e; exact g1
      · cases h2
section
variable {p : Program} {l : Launch} {e : Env} {R : Room} {s : State} {m : MethodId} {args : Array Value} {below : List Frame} {meth : Method} {c : Code} {H : Heap} {locs : List Loc} {cells slots : Nat} {Q : State → Prop}
variable {B e0 mo d y pc : Nat} {D : va_G} {σ : SG} {sr : SR} {L st : List AV} {ls : Array Slot} {nx a b f : Nat}
theorem ax_goes {mc ms : Nat} {res : Res} {σ2 : SG} {stk rest : List Value} {av : Array Value} (hr : vx_Run p l e R s m args below meth c H locs cells slots mc ms (F0 m pc ls stk) rest (ax_Qc B D res σ2 av) (ax_XC B D res σ2) (ax_GA B)) (hS : va_S (ax_GA B) s.heap H locs)
    (hret : ∀ v, res = .inl v → ∀ (H1 : Heap) (locs1 : List Loc), ax_hp B D σ2 s H1 → va_S (ax_GA B) s.heap H1 locs1 → W p l e R s m args below meth c H1 locs1 (cells + mc) (slots + ms) Q (F0 m (pc + 3) ls ((ax_rv v).toList ++ rest)))
    (hthr : ∀ E, res = .inr E → E < 3 → ∀ (H1 : Heap) (locs1 : List Loc) (ce : Cell) (q : Nat), ax_hp B D σ2 s H1 → va_S (ax_GA B) s.heap H1 locs1 → H1[q]? = some ce → ce.vm = .none → s.vm.findClass (ax_xn E) = some ce.cls → vx_W p l e R s m args below meth c H1 locs1 (cells + mc) (slots + ms) Q (F0 m pc ls rest) q) :
    W p l e R s m args below meth c H locs cells slots Q (F0 m pc ls stk) := by
  intro T hT X
  rcases hr T hT X with ⟨v, st₀, t, T', L9, h0, X', hL, e1, e2, ⟨v', hres, hv, hp, hF⟩, st9⟩ | ⟨q, st₀, t, T', L9, E, ce, h0, X', hL, e1, e2, ⟨n, hres, hE, hn, hp, hF⟩, hce, hcv, hcl, st9⟩
  · cases hv
    obtain ⟨k1, k2, k3⟩ := vx_keep h0 e1 hS (fun q _ h => h) (fun q h => h) hL hF
    have hal : t.vm.Alike s.vm := (by rw [← e2]; exact X'.warmed.alike : s.vm.Alike t.vm).symm
    have hp2 : ax_hp B D σ2 s T'.heap := by rw [e1]; exact hp.moved hal
    obtain ⟨t2, a1, b1⟩ := hret v' hres T'.heap (locs ++ L9) hp2 k3 T' rfl X'
    exact ⟨t2, st9 t2 a1, b1⟩
  · subst hE
    obtain ⟨k1, k2, k3⟩ := vx_keep h0 e1 hS (fun q _ h => h) (fun q h => h) hL hF
    have hal : t.vm.Alike s.vm := (by rw [← e2]; exact X'.warmed.alike : s.vm.Alike t.vm).symm
    have hp2 : ax_hp B D σ2 s T'.heap := by rw [e1]; exact hp.moved hal
    obtain ⟨t2, a1, b1⟩ := hthr n hres hn T'.heap (locs ++ L9) ce q hp2 k3 (by rw [e1]; exact hce) hcv hcl T' rfl X'
    exact ⟨t2, st9.trans a1, b1⟩
theorem ax_pcs {as : List AV} (hC : ax_Cx p l R s m args meth c B e0 mo d y D) (hh : ax_hp B D σ s H) (hS : va_S (ax_GA B) s.heap H locs) : ∀ U : State, U.heap = H → s.WarmedH U.vm → ax_Pc B D e0 mo as σ (as.map avV).toArray U := by
  obtain ⟨hx, hb, hml, hown, hts, hnm, hK, hG, hB, hRf, hRl, hfl, htab, hlk⟩ := id hC
  intro U hU hW
  subst hU
  exact ⟨rfl, hh.moved hW.alike, hK.moved hW.alike, hG.next hW hS.2.1, Nat.le_trans hB hS.1⟩
theorem ax_rooms {y' d' : Nat} {as : List AV} {res : Res} {σ2 : SG} (hy : y' < 195) (hd : d = d' + 1) (hC : ax_Cx p l R s m args meth c B e0 mo d y D) : (d' + 1) + 1 ≤ R.frames ∧ 8 + (ax_L y' + 11) + 38 * (d' + 1) ≤ R.locals := by
  obtain ⟨hx, hb, hml, hown, hts, hnm, hK, hG, hB, hRf, hRl, hfl, htab, hlk⟩ := id hC
  have h1 := (ax_my y' hy).2.2.2.2
  omega
theorem ax_pays {y' : Nat} (hy : y' < 195) (hC : ax_Cx p l R s m args meth c B e0 mo d y D) : ∀ w ∈ ax_Cw y' :: axW, ∀ (a' : Array Value) (U : State), s.WarmedH U.vm → w.before a' U = true := by
  obtain ⟨hx, hb, hml, hown, hts, hnm, hK, hG, hB, hRf, hRl, hfl, htab, hlk⟩ := id hC
  refine pay_in hts fun w hw => ?_
  rcases List.mem_cons.mp hw with rfl | h
  · have h1 := ax_in_W (ax_mw y' hy).1
    exact ⟨h1, ax_good_W h1⟩
  · exact ⟨h, ax_good_W h⟩
theorem ax_Cw0 {y' : Nat} (h : ax_hh y' = []) : ax_Cw y' = .code (ax_y y') (ax_b y') (ax_L y') (ax_ret y') := by
  unfold ax_Cw
  rw [h]
theorem ax_Cw1 {y' : Nat} (h : ax_hh y' ≠ []) : ax_Cw y' = .codeWith (ax_y y') (ax_b y') (ax_L y') (ax_ret y') (ax_hh y') := by
  unfold ax_Cw
  cases q : ax_hh y' with
  | nil => exact absurd q h
  | cons x r => rfl
theorem ax_sig {y' : Nat} (hy : y' < 195) : ∀ sig, parseMethodDescriptor (ax_y y').desc = some sig → ax_na y' = sig.parameters.length := by
  intro sig h
  have h2 := (ax_my y' hy).2.2.2.1
  rw [h] at h2
  exact (Option.some.inj h2).symm
theorem sr_static {j : Nat} (hi : ax_LM.any (fun q => Nat.beq q.1 (ax_own y) && Nat.beq q.2.1 j && Nat.beq q.2.2 a) = true) (hop : ax_op a = 1) (hna : ax_na a = b) (hd : decode (ax_b y) pc = .ok (.invokestatic j, 3)) (hn : nx = pc + 3) (hLs : L.length = ax_L y) (hs : (ax_call nx a b 1 L st σ).bind ax_pick = some sr) (hT : ax_Nx p l e R s m args below meth c Q B e0 mo d y pc D cells slots σ sr) (hC : ax_Cx p l R s m args meth c B e0 mo d y D) (hh : ax_hp B D σ s H) (hS : va_S (ax_GA B) s.heap H locs) (hlo : ax_lo ls L) : W p l e R s m args below meth c H locs cells slots Q (F0 m pc ls (st.map avV)) := by
  obtain ⟨hx, hb, hml, hown, hts, hnm, hK, hG, hB, hRf, hRl, hfl, htab, hlk⟩ := id hC
  subst hn
  obtain ⟨hl, hy⟩ := ax_lm_any hi
  obtain ⟨g1, g2, g3, g4, rfl⟩ := ax_callS_inv hs
  obtain ⟨d', res, σ2, hdd, hM, hc, hsl, hret, hthr⟩ := hT rfl hy (by rw [List.length_reverse, List.length_take]; omega) (fun v hv => g4 v (List.mem_reverse.mp hv))
  obtain ⟨w1, w2, w3, -, -⟩ := ax_mw a hy
  obtain ⟨m1, m2, m3, m4, m5⟩ := ax_my a hy
  rw [hop] at w3
  have hrm := ax_rooms (as := st) (res := res) (σ2 := σ2) hy hdd hC
  rw [ax_stk st b]
  have hrun : vx_Run p l e R s m args below meth c H locs cells slots (sgZ σ2 - sgZ σ) (sgU σ2 - sgU σ) (F0 m pc ls (((st.take b).reverse.map avV).reverse ++ (st.drop b).map avV)) ((st.drop b).map avV) (ax_Qc B D res σ2 ((st.take b).reverse.map avV).toArray) (ax_XC B D res σ2) (ax_GA B) := by
    by_cases h0 : ax_hh a = []
    · have cw : CallB R s args (ax_on (ax_own y)) j (ax_y a) (ax_b a) (ax_L a) (ax_ret a) (ax_Cw a :: axW) { frames := d' + 1, cells := sgZ σ2 - sgZ σ, slots := sgU σ2 - sgU σ, locals := 38 * (d' + 1) } (sgZ σ2 - sgZ σ) (sgU σ2 - sgU σ) b ∧ (Cond.static (ax_y a)).before args s = true :=
        ⟨⟨rfl, rfl, hrm.1, hrm.2, ax_pays hy hC, by rw [ax_Cw0 h0]; exact List.mem_cons_self, by rw [← ax_Cw0 h0]; exact hts _ (ax_in_W w1), hts _ (ax_in_W w2), m3, by rw [← hna]; exact ax_sig hy, hts _ (ax_in_W hl)⟩, hts _ (ax_in_W w3)⟩
      exact vx_runS (nL := ax_L y) (Ts := axW) (cc := ax_b y) ⟨hx, hb, hml, hown, hts⟩ hM cw ⟨ax_blind _ _ _ _ _ _, ax_pcs hC hh hS⟩ rfl (by rw [List.length_map, List.length_reverse, List.length_take]; omega) (by show ls.size = _; rw [hlo.1, hLs]) rfl (lv_room (by rw [ax_wt_eq]; exact g2)) hd ⟨hc, hsl⟩
    · have cw : vx_CSW R s args (ax_on (ax_own y)) j (ax_y a) (ax_b a) (ax_L a) (ax_ret a) (ax_hh a) (ax_Cw a :: axW) { frames := d' + 1, cells := sgZ σ2 - sgZ σ, slots := sgU σ2 - sgU σ, locals := 38 * (d' + 1) } (sgZ σ2 - sgZ σ) (sgU σ2 - sgU σ) b :=
        ⟨⟨rfl, rfl, hrm.1, hrm.2, ax_pays hy hC, by rw [ax_Cw1 h0]; exact List.mem_cons_self⟩, by rw [← ax_Cw1 h0]; exact hts _ (ax_in_W w1), hts _ (ax_in_W w2), m3, by rw [← hna]; exact ax_sig hy, hts _ (ax_in_W hl), hts _ (ax_in_W w3)⟩
      exact vx_runSX (nL := ax_L y) (Ts := axW) (cc := ax_b y) ⟨hx, hb, hml, hown, hts⟩ hM cw ⟨ax_blind _ _ _ _ _ _, ax_pcs hC hh hS⟩ rfl (by rw [List.length_map, List.length_reverse, List.length_take]; omega) (by show ls.size = _; rw [hlo.1, hLs]) rfl (lv_room (by rw [ax_wt_eq]; exact g2)) hd ⟨hc, hsl⟩
  refine ax_goes hrun hS (fun v hv H1 locs1 k1 k2 => ?_) (fun E hE hE3 H1 locs1 ce q k1 k2 k3 k4 k5 => hthr E hE hE3 H1 locs1 ls _ ce q k1 k2 hlo k3 k4 k5)
  rw [← ax_push_map]
  exact hret v hv H1 locs1 ls k1 k2 hlo
theorem sr_virt {j : Nat} (hi : ax_LM.any (fun q => Nat.beq q.1 (ax_own y) && Nat.beq q.2.1 j && Nat.beq q.2.2 a) = true) (hop : ax_op a = 0) (hna : ax_na a = b) (hd : decode (ax_b y) pc = .ok (.invokevirtual j, 3)) (hn : nx = pc + 3) (hLs : L.length = ax_L y) (hs : (ax_call nx a b 0 L st σ).bind ax_pick = some sr) (hT : ax_Nx p l e R s m args below meth c Q B e0 mo d y pc D cells slots σ sr) (hC : ax_Cx p l R s m args meth c B e0 mo d y D) (hh : ax_hp B D σ s H) (hS : va_S (ax_GA B) s.heap H locs) (hlo : ax_lo ls L) : W p l e R s m args below meth c H locs cells slots Q (F0 m pc ls (st.map avV)) := by
  obtain ⟨hx, hb, hml, hown, hts, hnm, hK, hG, hB, hRf, hRl, hfl, htab, hlk⟩ := id hC
  subst hn
  obtain ⟨hl, hy⟩ := ax_lm_any hi
  obtain ⟨g1, g3, g4, r, rest, g5, g2, gk, -, rfl⟩ := ax_callI_inv (Or.inl rfl) hs
  have gk := gk rfl
  obtain ⟨d', res, σ2, hdd, hM, hc, hsl, hret, hthr⟩ := hT rfl hy (by rw [List.length_cons, List.length_reverse, List.length_take]; omega) (fun v hv => by
    rcases List.mem_cons.mp hv with rfl | hv
    · rfl
    · exact g4 v (List.mem_reverse.mp hv))
  obtain ⟨w1, w2, w3, w4, -⟩ := ax_mw a hy
  obtain ⟨w4, w5, h0⟩ := w4 hop
  obtain ⟨m1, m2, m3, m4, m5⟩ := ax_my a hy
  rw [hop] at w3
  have hck := ax_ck9 hy hop
  obtain ⟨q, rfl, -, cell, q1, q2, q3, -⟩ := hh.2.1 r (by rw [gk]; exact hck)
  rw [gk] at q2
  have hfc : s.vm.findClass (ax_y a).cls = some cell.cls := by
    rw [← w5, q2]; exact (hK.1 _ _ (ax_clk _ hck)).2.1
  have hrm := ax_rooms (as := st) (res := res) (σ2 := σ2) hy hdd hC
  have hstk : st.map avV = ((st.take b).reverse.map avV).reverse ++ (.ref q :: rest.map avV) := by
    rw [ax_stk st b, g5]; rfl
  rw [hstk]
  have cw : CallW R s args (ax_on (ax_own y)) (ax_y a).cls j (ax_y a) (ax_b a) (ax_L a) (ax_ret a) (ax_Cw a :: axW) { frames := d' + 1, cells := sgZ σ2 - sgZ σ, slots := sgU σ2 - sgU σ, locals := 38 * (d' + 1) } (sgZ σ2 - sgZ σ) (sgU σ2 - sgU σ) b :=
    ⟨⟨rfl, rfl, hrm.1, hrm.2, ax_pays hy hC, by rw [ax_Cw0 h0]; exact List.mem_cons_self, by rw [← ax_Cw0 h0]; exact hts _ (ax_in_W w1), hts _ (ax_in_W w2), m3, by rw [← hna]; exact ax_sig hy, hts _ (ax_in_W hl)⟩, hts _ (ax_in_W w3), hts _ (ax_in_W w4)⟩
  have hrun : vx_Run p l e R s m args below meth c H locs cells slots (sgZ σ2 - sgZ σ) (sgU σ2 - sgU σ) (F0 m pc ls (((st.take b).reverse.map avV).reverse ++ (.ref q :: rest.map avV))) (rest.map avV) (ax_Qc B D res σ2 (Value.ref q :: (st.take b).reverse.map avV).toArray) (ax_XC B D res σ2) (ax_GA B) :=
    vx_runV (nL := ax_L y) (Ts := axW) (cc := ax_b y) ⟨hx, hb, hml, hown, hts⟩ hM cw ⟨ax_blind _ _ _ _ _ _, ⟨cell, q1, by rw [q3]; rfl, hfc⟩, ax_pcs (as := aR (q + 1) :: (st.take b).reverse) hC hh hS⟩ rfl (by rw [List.length_map, List.length_reverse, List.length_take]; omega) (by show ls.size = _; rw [hlo.1, hLs]) rfl (lv_room (by rw [ax_wt_eq]; exact g2)) hd ⟨hc, hsl⟩
  refine ax_goes hrun hS (fun v hv H1 locs1 k1 k2 => ?_) (fun E hE hE3 H1 locs1 ce q k1 k2 k3 k4 k5 => hthr E hE hE3 H1 locs1 ls _ ce q k1 k2 hlo k3 k4 k5)
  rw [← ax_push_map]
  exact hret v hv H1 locs1 ls k1 k2 hlo
theorem sr_init {j : Nat} (hi : ax_LM.any (fun q => Nat.beq q.1 (ax_own y) && Nat.beq q.2.1 j && Nat.beq q.2.2 a) = true) (hop : ax_op a = 2) (hna : ax_na a = b) (hd : decode (ax_b y) pc = .ok (.invokespecial j, 3)) (hn : nx = pc + 3) (hLs : L.length = ax_L y) (hs : (ax_call nx a b 2 L st σ).bind ax_pick = some sr) (hT : ax_Nx p l e R s m args below meth c Q B e0 mo d y pc D cells slots σ sr) (hC : ax_Cx p l R s m args meth c B e0 mo d y D) (hh : ax_hp B D σ s H) (hS : va_S (ax_GA B) s.heap H locs) (hlo : ax_lo ls L) : W p l e R s m args below meth c H locs cells slots Q (F0 m pc ls (st.map avV)) := by
  obtain ⟨hx, hb, hml, hown, hts, hnm, hK, hG, hB, hRf, hRl, hfl, htab, hlk⟩ := id hC
  subst hn
  obtain ⟨hl, hy⟩ := ax_lm_any hi
  obtain ⟨g1, g3, g4, r, rest, g5, g2, -, gk, rfl⟩ := ax_callI_inv (Or.inr rfl) hs
  have gk := gk rfl
  obtain ⟨d', res, σ2, hdd, hM, hc, hsl, hret, hthr⟩ := hT rfl hy (by rw [List.length_cons, List.length_reverse, List.length_take]; omega) (fun v hv => by
    rcases List.mem_cons.mp hv with rfl | hv
    · rfl
    · exact g4 v (List.mem_reverse.mp hv))
  obtain ⟨w1, w2, w3, -, w4⟩ := ax_mw a hy
  obtain ⟨w4, w5, h0⟩ := w4 hop
  obtain ⟨m1, m2, m3, m4, m5⟩ := ax_my a hy
  rw [hop] at w3
  obtain ⟨q, rfl⟩ : ∃ q, r = q + 1 := ⟨r - 1, by omega⟩
  have hrm := ax_rooms (as := st) (res := res) (σ2 := σ2) hy hdd hC
  have hstk : st.map avV = ((st.take b).reverse.map avV).reverse ++ (.ref q :: rest.map avV) := by
    rw [ax_stk st b, g5]; rfl
  rw [hstk]
  have hcw : ax_Cw a = .code (ax_y a) (ax_b a) (ax_L a) none := by rw [ax_Cw0 h0, w5]
  have cw : CallB R s args (ax_on (ax_own y)) j (ax_y a) (ax_b a) (ax_L a) none (ax_Cw a :: axW) { frames := d' + 1, cells := sgZ σ2 - sgZ σ, slots := sgU σ2 - sgU σ, locals := 38 * (d' + 1) } (sgZ σ2 - sgZ σ) (sgU σ2 - sgU σ) b ∧ (ax_y a).name = "<init>" ∧ (Cond.instanceMethod (ax_y a)).before args s = true :=
    ⟨⟨rfl, rfl, hrm.1, hrm.2, ax_pays hy hC, by rw [hcw]; exact List.mem_cons_self, by rw [← hcw]; exact hts _ (ax_in_W w1), hts _ (ax_in_W w2), m3, by rw [← hna]; exact ax_sig hy, hts _ (ax_in_W hl)⟩, w4, hts _ (ax_in_W w3)⟩
  have hrun : vx_Run p l e R s m args below meth c H locs cells slots (sgZ σ2 - sgZ σ) (sgU σ2 - sgU σ) (F0 m pc ls (((st.take b).reverse.map avV).reverse ++ (.ref q :: rest.map avV))) (rest.map avV) (ax_Qc B D res σ2 (Value.ref q :: (st.take b).reverse.map avV).toArray) (ax_XC B D res σ2) (ax_GA B) :=
    vx_runI (nL := ax_L y) (Ts := axW) (cc := ax_b y) ⟨hx, hb, hml, hown, hts⟩ hM cw ⟨ax_blind _ _ _ _ _ _, ax_pcs (as := aR (q + 1) :: (st.take b).reverse) hC hh hS⟩ rfl (by rw [List.length_map, List.length_reverse, List.length_take]; omega) (by show ls.size = _; rw [hlo.1, hLs]) rfl (lv_room (by rw [ax_wt_eq]; exact g2)) hd ⟨hc, hsl⟩
  refine ax_goes hrun hS (fun v hv H1 locs1 k1 k2 => ?_) (fun E hE hE3 H1 locs1 ce q k1 k2 k3 k4 k5 => hthr E hE hE3 H1 locs1 ls _ ce q k1 k2 hlo k3 k4 k5)
  rw [← ax_push_map]
  exact hret v hv H1 locs1 ls k1 k2 hlo
end
end AXR
