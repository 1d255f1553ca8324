/-! A run of the abstract machine is a run of the machine. -/
section AXU1
section
variable (p : Program) (l : Launch) (e : Env) (R : Room) (s : State) (m : MethodId) (args : Array Value) (below : List Frame) (meth : Method) (c : Code) (Q : State → Prop) (B e0 mo y : Nat) (D : va_G) (C S : Nat)
/-- what the end of a frame owes -/
def ax_Fn (res : Res) (σ' : SG) : Prop :=
  (∀ v, res = .inl v → ∀ (pc' : Nat) (H1 : Heap) (locs1 : List Loc) (ls1 : Array Slot), ax_rt y pc' v → ax_hp B D σ' s H1 → va_S (ax_GA B) s.heap H1 locs1 → W p l e R s m args below meth c H1 locs1 C S Q (F0 m pc' ls1 (ax_rv v).toList)) ∧
  (∀ E, res = .inr E → E < 3 → ∀ (pc' : Nat) (H1 : Heap) (locs1 : List Loc) (ls1 : Array Slot) (rest : List Value) (ce : Cell) (q : Nat), (∀ z ∈ c.exceptionTable.toList, ax_pa s args (ax_on (ax_own y)) E pc' z) → ax_hp B D σ' s H1 → va_S (ax_GA B) s.heap H1 locs1 → H1[q]? = some ce → ce.vm = .none → s.vm.findClass (ax_xn E) = some ce.cls → vx_W p l e R s m args below meth c H1 locs1 C S Q (F0 m pc' ls1 rest) q)
end
/-- the handler's rows -/
theorem ax_handled {p : Program} {l : Launch} {e : Env} {R : Room} {s : State} {m : MethodId} {args : Array Value} {below : List Frame} {meth : Method} {c : Code} {H : Heap} {locs : List Loc} {Q : State → Prop} {B e0 mo d y : Nat} {D : va_G} {C S : Nat} {σ' : SG} {L : List AV} {ls : Array Slot} {E pc : Nat} {w : Int32} {rest : List Value} {ce : Cell} {q : Nat}
    (hC : ax_Cx p l R s m args meth c B e0 mo d y D) (hE : E < 3) (hp : pc < ax_len y) (hw : ax_h y pc E = some w) (hLs : L.length = ax_L y) (hlo : ax_lo ls L) (hh : ax_hp B D σ' s H) (hS : va_S (ax_GA B) s.heap H locs) (hcell : H[q]? = some ce) (hcv : ce.vm = .none) (hcl : s.vm.findClass (ax_xn E) = some ce.cls)
    (hF : ax_Fn p l e R s m args below meth c Q B y D C S (.inl (aI w)) σ') : vx_W p l e R s m args below meth c H locs C S Q (F0 m pc ls rest) q := by
  obtain ⟨hx, hb, hml, hown, hts, hnm, hK, hG, hB, hRf, hRl, hfl, htab, hlk⟩ := id hC
  obtain ⟨hy1, hy2⟩ := ax_h_in hw
  obtain ⟨hck, ho⟩ := ax_hck_of hy1 hy2 hp hE
  unfold ax_hck at hck
  rw [hw] at hck
  obtain ⟨pre, x, suf, e1, e2, e3, e4, r, hr, r1, r2, r3⟩ := ax_hsp_of (args := args) hE hts hG _ hck
  have hown2 : s.vm.findClass "PipelineRunnerLaw" = some m.cls := by rw [ho] at hown; exact hown
  obtain ⟨g1, g2⟩ := ax_hEl (t := x.2.2.2) (by rw [e4]; exact hE)
  rw [e4] at g2
  have hcast : (Cond.castable (ax_xn E) (ax_xn E)).before args s = true := by
    have hE3 : E = 0 ∨ E = 1 ∨ E = 2 := by omega
    rcases hE3 with rfl | rfl | rfl
    · exact va_Nw.use rfl (hG.2.2.2.2.2.2.2.2.2 _ (List.mem_of_getElem? (i := 9) rfl))
    · exact va_Nw.use rfl (hG.2.2.2.2.2.2.2.2.2 _ (List.mem_of_getElem? (i := 10) rfl))
    · exact va_Nw.use rfl (hG.2.2.2.2.2.2.2.2.2 _ (List.mem_of_getElem? (i := 11) rfl))
  have hrc := List.all_eq_true.mp ax_hrs r hr
  obtain ⟨y', E', hpc, sl, l0, v, lo, hi, t⟩ := r
  dsimp only at r1 r2 r3
  subst r1; subst r3
  unfold ax_hrc at hrc
  simp only [Bool.and_eq_true, decide_eq_true_eq] at hrc
  obtain ⟨⟨⟨⟨d1, d2⟩, d5⟩, -⟩, -⟩ := hrc
  have hsl := Nat.blt_eq.mp d5
  have fin : ∀ ls' : Array Slot, W p l e R s m args below meth c H locs C S Q (F0 m (hpc + l0) ls' []) := fun ls' => by
    simp only [Bool.or_eq_true, Bool.and_eq_true, decide_eq_true_eq] at d2
    rcases d2 with ⟨⟨⟨e1, e2⟩, e3⟩, e4⟩ | ⟨⟨⟨e1, e2⟩, e3⟩, e4⟩
    · subst e2
      exact lv_bipush hx hb e1 (by decide) (hF.1 _ rfl _ H locs ls' (Or.inr (Or.inl ⟨_, rfl, e3, Or.inl e4⟩)) hh hS)
    · subst e2
      refine lv_iconst hx hb e1 (by decide) (hF.1 _ rfl _ H locs ls' (Or.inr (Or.inl ⟨_, rfl, e3, ?_⟩)) hh hS)
      rcases e4 with e4 | e4
      · exact Or.inl e4
      · exact Or.inr ⟨e4, Or.inl rfl⟩
  refine vx_catch hown2 (pre.map ax_te) (ax_te x) (suf.map ax_te) ?_ (fun z hz => ?_) e3 g1 (hts _ (ax_in_W g2)) hcast hcell hcv hcl ?_
  · rw [htab]
    show (ax_hh y').map ax_te = _
    rw [e1, List.map_append, List.map_cons]
  · obtain ⟨z', hz', rfl⟩ := List.mem_map.mp hz
    exact e2 z' hz'
  · show W p l e R s m args below meth c H locs C S Q (F0 m x.2.2.1 ls [.ref q])
    rw [← r2]
    simp only [Bool.or_eq_true, Bool.and_eq_true, decide_eq_true_eq] at d1
    rcases d1 with ⟨d1, d9⟩ | ⟨d1, d9⟩
    · obtain rfl := ax_beq d9
      exact lv_astore hx hb d1 (ax_lo_has hlo) (by rw [hLs]; exact hsl) rfl (fun ls' _ => fin ls')
    · obtain ⟨k, -, d1⟩ := List.any_eq_true.mp d1
      simp only [Bool.and_eq_true, decide_eq_true_eq] at d1
      obtain rfl := ax_beq d9
      have hk4 : ((Fin.ofNat 4 k : Fin 4) : Nat) < L.length := by
        have h1 := ax_beq d1.2
        have h2 : ((Fin.ofNat 4 k : Fin 4) : Nat) = k % 4 := rfl
        have h3 := Nat.mod_le k 4
        omega
      exact lv_astore_n hx hb d1.1 rfl (ax_lo_has hlo) hk4 rfl (fun ls' _ => fin ls')
theorem ax_passes {p : Program} {l : Launch} {R : Room} {s : State} {m : MethodId} {args : Array Value} {meth : Method} {c : Code} {B e0 mo d y : Nat} {D : va_G} {E pc : Nat} (hC : ax_Cx p l R s m args meth c B e0 mo d y D) (hE : E < 3) (hy : y < 196) (hp : ax_hh y = [] ∨ pc < ax_len y) (hw : ax_hh y = [] ∨ ax_h y pc E = none) : ∀ z ∈ c.exceptionTable.toList, ax_pa s args (ax_on (ax_own y)) E pc z := by
  obtain ⟨hx, hb, hml, hown, hts, hnm, hK, hG, hB, hRf, hRl, hfl, htab, hlk⟩ := id hC
  rw [htab]
  intro z hz
  obtain ⟨z', hz', rfl⟩ := List.mem_map.mp hz
  by_cases h0 : ax_hh y = []
  · rw [h0] at hz'; cases hz'
  · have hp := hp.resolve_left h0
    have hw := hw.resolve_left h0
    obtain ⟨hy1, hy2⟩ := (ax_hy hy).resolve_right h0
    obtain ⟨hck, ho⟩ := ax_hck_of hy1 hy2 hp hE
    unfold ax_hck at hck
    rw [hw] at hck
    have h1 := ax_ps_pa (args := args) hE hts hG (List.all_eq_true.mp hck z' hz')
    rw [ho]
    exact h1
def ax_FLn (l : Launch) (e0 mo n : Nat) : Prop := ∀ (B : Nat) (D : va_G) (d y : Nat) (fr : FRM) (σ : SG) (res : Res) (σ' : SG), ax_ex e0 mo n d y fr σ = some (res, σ') →
  ∀ (p : Program) (e : Env) (R : Room) (s : State) (m : MethodId) (args : Array Value) (below : List Frame) (meth : Method) (c : Code) (Q : State → Prop) (H : Heap) (locs : List Loc) (cells slots C S : Nat) (ls : Array Slot),
  ax_Cx p l R s m args meth c B e0 mo d y D → fr.2.1.length = ax_L y → ax_hp B D σ s H → va_S (ax_GA B) s.heap H locs → ax_lo ls fr.2.1 → C = cells + (sgZ σ' - sgZ σ) → S = slots + (sgU σ' - sgU σ) → C ≤ R.cells → S ≤ R.slots →
  ax_Fn p l e R s m args below meth c Q B y D C S res σ' → W p l e R s m args below meth c H locs cells slots Q (F0 m fr.1 ls (fr.2.2.map avV))
def ax_MLn (l : Launch) (e0 mo n : Nat) : Prop := ∀ (B : Nat) (D : va_G) (d y : Nat) (as : List AV) (σ : SG) (res : Res) (σ' : SG), y < 195 → as.length ≤ ax_L y → (∀ v ∈ as, ax_cat v = 1) → ax_ex e0 mo n d y (0, ax_entry y as, []) σ = some (res, σ') → ax_Mt l B D e0 mo d y as σ res σ'
theorem ax_rt_ret {p : Program} {l : Launch} {e : Env} {R : Room} {s : State} {m : MethodId} {args : Array Value} {below : List Frame} {meth : Method} {c : Code} {H : Heap} {locs : List Loc} {B : Nat} {D : va_G} {y pc : Nat} {cells slots : Nat} {σ' : SG} {v : AV} {ls : Array Slot} (hx : p.tables.exec = Jvm.exec) (hb : c.code = ax_b y) (hr : meth.sig.returnType = ax_ret y) (hlk : meth.locks = false) (hh : ax_hp B D σ' s H) (hS : va_S (ax_GA B) s.heap H locs) (h : ax_rt y pc v) :
    W p l e R s m args below meth c H locs cells slots (vx_MQ below (ax_Qc B D (.inl v) σ') (ax_XC B D (.inl v) σ') args s cells slots (ax_GA B)) (F0 m pc ls (ax_rv v).toList) := by
  have hq : ∀ t : State, t.heap = H → s.WarmedH t.vm → ax_Qc B D (.inl v) σ' args s (.returned (ax_rv v)) t := fun t ht hW => ⟨v, rfl, rfl, by rw [ht]; exact hh.moved hW.alike, hS.F ht⟩
  refine vx_ret ?_
  rcases h with ⟨rfl, d1, r1⟩ | ⟨x, rfl, d1, r1⟩ | ⟨r, rfl, d1, r1⟩
  · exact W.vret hx hb (by rw [hr, r1]) hq (fun q hq => hS.2.2 q hq) d1 hlk
  · rcases r1 with r1 | ⟨r1, hx01⟩
    · exact W.iret hx hb (by rw [hr, r1]) hq (fun q hq => hS.2.2 q hq) d1 hlk
    · exact W.zret hx hb (by rw [hr, r1]) (ax_fitsZ hx01).1 hq (fun q hq => hS.2.2 q hq) d1 hlk
  · have hv : va_rf (avr r) = .null ∨ ∃ a, va_rf (avr r) = .ref a := by
      cases r with
      | zero => exact Or.inl rfl
      | succ r => exact Or.inr ⟨r, rfl⟩
    rcases r1 with ⟨C, r1⟩ | ⟨t, r1⟩
    · exact W.aret hx hb (by rw [hr, r1]) (Or.inl ⟨C, rfl⟩) hv hq (fun q hq => hS.2.2 q hq) d1 hlk
    · exact W.aret hx hb (by rw [hr, r1]) (Or.inr ⟨t, rfl⟩) hv hq (fun q hq => hS.2.2 q hq) d1 hlk
theorem ax_ML_of {l : Launch} {e0 mo n : Nat} (hfl : l.stackTraces = false) (h : ax_FLn l e0 mo n) : ax_MLn l e0 mo n := by
  intro B D d y as σ res σ' hy hlen hcat hex
  obtain ⟨w1, w2, w3, w4, w5⟩ := ax_mw y hy
  obtain ⟨m1, m2, m3, m4, m5⟩ := ax_my y hy
  have body : ∀ (p : Program) (e : Env) (s : State) (m : MethodId) (args : Array Value) (below : List Frame) (meth : Method) (c : Code) (s₁ : State), BodyLoose p l (ax_y y) (headSpec (ax_Cw y :: axW) { frames := d + 1, cells := sgZ σ' - sgZ σ, slots := sgU σ' - sgU σ, locals := 38 * (d + 1) }) (ax_b y) (ax_L y) (ax_ret y) e s m args below meth c s₁ → c.maxLocals = ax_L y → c.exceptionTable.toList = tableOf (ax_hh y) → ax_Pc B D e0 mo as σ args s →
      W p l e (headSpec (ax_Cw y :: axW) { frames := d + 1, cells := sgZ σ' - sgZ σ, slots := sgU σ' - sgU σ, locals := 38 * (d + 1) }).room s m args below meth c s.heap [] 0 0 (vx_MQ below (ax_Qc B D res σ') (ax_XC B D res σ') args s (sgZ σ' - sgZ σ) (sgU σ' - sgU σ) (ax_GA B)) (entryFrame m args (ax_L y)) := by
    intro p e s m args below meth c s₁ hBd hml htab hP
    obtain ⟨ha, hh, hK, hG, hB⟩ := hP
    have hts := atoms_spec hBd.pre
    have hC : ax_Cx p l { frames := d + 1, cells := sgZ σ' - sgZ σ, slots := sgU σ' - sgU σ, locals := 38 * (d + 1) } s m args meth c B e0 mo d y D :=
      ⟨hBd.exec, hBd.bytes, hml, by rw [← m1]; exact findClass_of_methodNamed hBd.named, fun w hw => hts w (List.mem_cons_of_mem _ hw), fun ho => by rw [(name_of_methodNamed hBd.named hBd.method).1]; exact (w5 ho).1, hK, hG, hB, rfl, Nat.le_refl _, hfl, htab, hBd.notSynchronized⟩
    have hent : entryFrame m args (ax_L y) = F0 m 0 ((lg_sl (as.map avV) ++ List.replicate (ax_L y - (lg_sl (as.map avV)).length) Slot.unset).toArray) [] := by rw [ha, lg_entry_eq]
    rw [hent]
    refine h B D d y (0, ax_entry y as, []) σ res σ' hex p e _ s m args below meth c _ s.heap [] 0 0 (sgZ σ' - sgZ σ) (sgU σ' - sgU σ) _ hC (ax_entry_len hlen) hh ⟨Nat.le_refl _, fun _ _ _ => rfl, fun _ h => absurd h List.not_mem_nil⟩ (ax_lo_entry hlen hcat) (Nat.zero_add _).symm (Nat.zero_add _).symm (Nat.le_refl _) (Nat.le_refl _) ⟨fun v hv pc' H1 locs1 ls1 hrt hh1 hS1 => ?_, fun E hE hE3 pc' H1 locs1 ls1 rest ce q hpa hh1 hS1 hce hcv hcl => ?_⟩
    · subst hv
      exact ax_rt_ret hBd.exec hBd.bytes hBd.returns hBd.notSynchronized hh1 hS1 hrt
    · subst hE
      exact vx_outP hC.2.2.2.1 hBd.notSynchronized hpa hce hcv hcl (fun t ht hal => ⟨E, rfl, rfl, hE3, by rw [ht]; exact hh1.moved hal, hS1.F ht⟩) (fun z hz => hS1.2.2 z hz) (Nat.le_refl _) (Nat.le_refl _)
  by_cases h0 : ax_hh y = []
  · refine vx_ofW m2 (by rw [ax_Cw0 h0]) fun p e s m args below meth c s₁ hBd hml ht hP => body p e s m args below meth c s₁ hBd hml ?_ hP
    rw [h0]
    cases q : c.exceptionTable.toList with
    | nil => rfl
    | cons x r => exact (ht x (by rw [q]; exact List.mem_cons_self)).elim
  · refine vx_ofWH m2 (by rw [ax_Cw1 h0]) fun p e s m args below meth c s₁ hBd hml hP => body p e s m args below meth c s₁ hBd hml ?_ hP
    have hcw := atoms_spec hBd.pre _ (List.mem_cons_self)
    rw [ax_Cw1 h0] at hcw
    exact vx_table (x := ax_y y) hBd hcw
theorem ax_FL {l : Launch} {e0 mo : Nat} (hfl : l.stackTraces = false) : ∀ n, ax_FLn l e0 mo n := by
  intro n
  induction n with
  | zero => intro B D d y fr σ res σ' h; cases h
  | succ n ih =>
    have ihM := ax_ML_of hfl ih
    intro B D d y fr σ res σ' h p e R s m args below meth c Q H locs cells slots C S ls hC hLs hh hS hlo hCc hSs hCR hSR hF
    have hup0 := ax_ex_up e0 mo _ _ _ _ _ _ h
    dsimp only at hup0
    rw [ax_ex] at h
    cases hm : (ax_at e0 mo y fr σ).bind ax_pick with
    | none => rw [hm] at h; cases h
    | some sr =>
      rw [hm] at h
      unfold ax_at at hm
      cases hcd : ax_code y fr.1 with
      | none => rw [hcd] at hm; cases hm
      | some en =>
        rw [hcd] at hm
        have hup : ax_up fr.2.1 σ sr := ax_all_pick (ax_sem_up e0 mo en fr.2.1 fr.2.2 σ) hm
        have hy9 : y < 196 := by
          obtain ⟨i9, n9, a9, b9, f9, v9⟩ := en
          exact (ax_code_ok hcd).1
        have hpl : fr.1 < ax_len y := by
          unfold ax_code at hcd
          cases q1 : Nat.blt y 196 with
          | false => rw [q1] at hcd; cases hcd
          | true =>
            rw [q1] at hcd
            cases q2 : Nat.blt fr.1 (ax_len y) with
            | false => rw [q2] at hcd; cases hcd
            | true => exact Nat.blt_eq.mp q2
        refine ax_sx (d := d) en hcd hm ?_ hC hh hS hlo hLs ⟨by omega, by omega⟩
        rcases sr with ⟨fr', σ1⟩ | ⟨y', as, fr', σ1⟩ | ⟨v, σ1⟩ | ⟨E, σ1⟩
        · have h1 := ax_ex_up e0 mo _ _ _ _ _ _ h
          dsimp only at h1
          obtain ⟨u1, u2, u3⟩ := hup
          refine ⟨by omega, by omega, fun H1 locs1 ls1 k1 k2 k3 => ?_⟩
          exact ih B D d y fr' σ1 res σ' h p e R s m args below meth c Q H1 locs1 _ _ C S ls1 hC (u3.trans hLs) k1 k2 k3 (by omega) (by omega) hCR hSR hF
        · obtain ⟨rfl, u3⟩ := hup
          cases d with
          | zero => cases h
          | succ d' =>
            dsimp only at h
            cases hc : ax_ex e0 mo n d' y' (0, ax_entry y' as, []) σ1 with
            | none => rw [hc] at h; cases h
            | some rr =>
              have hc1 := ax_ex_up e0 mo _ _ _ _ _ _ hc
              rw [hc] at h
              obtain ⟨rv, σ2⟩ := rr
              dsimp only at hc1
              intro _ hy' hlen hcat
              have hM := ihM B D d' y' as σ1 rv σ2 hy' hlen hcat hc
              rcases rv with v | E
              · dsimp only at h
                have h1 := ax_ex_up e0 mo _ _ _ _ _ _ h
                dsimp only at h1
                refine ⟨d', .inl v, σ2, rfl, hM, by omega, by omega, fun v' hv H1 locs1 ls1 k1 k2 k3 => ?_, fun E hE => by cases hE⟩
                cases hv
                exact ih B D (d' + 1) y (fr'.1, fr'.2.1, ax_push v fr'.2.2) σ2 res σ' h p e R s m args below meth c Q H1 locs1 _ _ C S ls1 hC (u3.trans hLs) k1 k2 k3 (by omega) (by omega) hCR hSR hF
              · dsimp only at h
                cases hhw : ax_h y fr.1 E with
                | none =>
                  rw [hhw] at h
                  cases h
                  refine ⟨d', .inr E, σ', rfl, hM, by omega, by omega, (fun v hv => by cases hv), fun E' hE' hE3 H1 locs1 ls1 rest ce q k1 k2 k3 g1 g2 g3 => ?_⟩
                  cases hE'
                  rw [← hCc, ← hSs]
                  exact hF.2 E rfl hE3 fr.1 H1 locs1 ls1 rest ce q (ax_passes hC hE3 hy9 (Or.inr hpl) (Or.inr hhw)) k1 k2 g1 g2 g3
                | some w =>
                  rw [hhw] at h
                  cases h
                  refine ⟨d', .inr E, σ', rfl, hM, by omega, by omega, (fun v hv => by cases hv), fun E' hE' hE3 H1 locs1 ls1 rest ce q k1 k2 k3 g1 g2 g3 => ?_⟩
                  cases hE'
                  rw [← hCc, ← hSs]
                  exact ax_handled hC hE3 hpl hhw (u3.trans hLs) k3 k1 k2 g1 g2 g3 hF
        · obtain rfl : σ1 = σ := hup
          cases h
          intro H1 locs1 ls1 hrt k1 k2
          rw [Nat.sub_self, Nat.add_zero] at hCc hSs
          rw [← hCc, ← hSs]
          exact hF.1 v rfl fr.1 H1 locs1 ls1 hrt k1 k2
        · obtain rfl : σ1 = thrC σ := hup
          dsimp only at h
          cases q6 : Nat.ble 6 d with
          | false => rw [q6] at h; cases h
          | true =>
            rw [q6] at h
            cases h
            have e1 : sgZ (thrC σ) - sgZ σ = 1 := Nat.add_sub_cancel_left _ _
            have e2 : sgU (thrC σ) - sgU σ = 6 := Nat.add_sub_cancel_left _ _
            rw [e1] at hCc
            rw [e2] at hSs
            refine ⟨Nat.le_of_ble_eq_true q6, by omega, by omega, fun pc' H1 locs1 ls1 rest ce q hE3 h0 k1 k2 g1 g2 g3 => ?_⟩
            rw [← hCc, ← hSs]
            exact hF.2 E rfl hE3 pc' H1 locs1 ls1 rest ce q (ax_passes hC hE3 hy9 (Or.inl h0) (Or.inl h0)) k1 k2 g1 g2 g3
end AXU1
