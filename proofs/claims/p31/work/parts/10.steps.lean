/-! One instruction of the abstract machine is one of the machine's (calls: the next part). Printed by wip/whole/gen10.py. -/
section AXI
def ax_rv (v : AV) : Option Value := match v with
  | .inr (.inr _) => none
  | v => some (avV v)
def ax_Pc (B : Nat) (D : va_G) (e0 mo : Nat) (as : List AV) (σ : SG) : Array Value → State → Prop := fun v U => v = (as.map avV).toArray ∧ ax_hp B D σ U U.heap ∧ va_K D ax_cl [] U ∧ ax_G B e0 mo U U.heap ∧ B ≤ U.heap.size
def ax_Qc (B : Nat) (D : va_G) (res : Res) (σ' : SG) : Array Value → State → Outcome → State → Prop := fun _ st o t => ∃ v, res = .inl v ∧ o = .returned (ax_rv v) ∧ ax_hp B D σ' t t.heap ∧ va_F (ax_GA B) st t
def ax_XC (B : Nat) (D : va_G) (res : Res) (σ' : SG) : String → State → State → Prop := fun E st t => ∃ n, res = .inr n ∧ E = ax_xn n ∧ n < 3 ∧ ax_hp B D σ' t t.heap ∧ va_F (ax_GA B) st t
/-- a method's contract at these arguments and this heap -/
def ax_Mt (l : Launch) (B : Nat) (D : va_G) (e0 mo d y : Nat) (as : List AV) (σ : SG) (res : Res) (σ' : SG) : Prop :=
  vx_Met l (ax_y y) (ax_Cw y :: axW) { frames := d + 1, cells := sgZ σ' - sgZ σ, slots := sgU σ' - sgU σ, locals := 38 * (d + 1) } (ax_Pc B D e0 mo as σ) (ax_Qc B D res σ') (ax_XC B D res σ') (sgZ σ' - sgZ σ) (sgU σ' - sgU σ) (ax_GA B)
/-- what is known in a frame of the method y -/
def ax_Cx (p : Program) (l : Launch) (R : Room) (s : State) (m : MethodId) (args : Array Value) (meth : Method) (c : Code) (B e0 mo d y : Nat) (D : va_G) : Prop :=
  p.tables.exec = Jvm.exec ∧ c.code = ax_b y ∧ c.maxLocals = ax_L y ∧ s.vm.findClass (ax_on (ax_own y)) = some m.cls ∧ (∀ w ∈ axW, w.before args s = true) ∧ (ax_op y = 2 → meth.name = "<init>") ∧ va_K D ax_cl [] s ∧ ax_G B e0 mo s s.heap ∧ B ≤ s.heap.size ∧ R.frames = d + 1 ∧ 38 * (d + 1) ≤ R.locals ∧ l.stackTraces = false ∧ c.exceptionTable.toList = tableOf (ax_hh y) ∧ meth.locks = false
def ax_rt (y pc : Nat) (v : AV) : Prop := (v = aU ∧ decode (ax_b y) pc = .ok (.return_, 1) ∧ ax_ret y = none) ∨ (∃ x, v = aI x ∧ decode (ax_b y) pc = .ok (.ireturn, 1) ∧ (ax_ret y = some .int ∨ ax_ret y = some .boolean ∧ (x = 0 ∨ x = 1))) ∨ (∃ r, v = aR r ∧ decode (ax_b y) pc = .ok (.areturn, 1) ∧ ((∃ C, ax_ret y = some (.object C)) ∨ ∃ t, ax_ret y = some (.array t)))
section
variable (p : Program) (l : Launch) (e : Env) (R : Room) (s : State) (m : MethodId) (args : Array Value) (below : List Frame) (meth : Method) (c : Code) (Q : State → Prop) (B e0 mo d y pc : Nat) (D : va_G) (cells slots : Nat) (σ : SG)
/-- what a step's end asks of what follows -/
def ax_Nx (sr : SR) : Prop := match sr with
  | .inl (fr, σ1) => cells + (sgZ σ1 - sgZ σ) ≤ R.cells ∧ slots + (sgU σ1 - sgU σ) ≤ R.slots ∧ ∀ (H1 : Heap) (locs1 : List Loc) (ls1 : Array Slot), ax_hp B D σ1 s H1 → va_S (ax_GA B) s.heap H1 locs1 → ax_lo ls1 fr.2.1 → W p l e R s m args below meth c H1 locs1 (cells + (sgZ σ1 - sgZ σ)) (slots + (sgU σ1 - sgU σ)) Q (F0 m fr.1 ls1 (fr.2.2.map avV))
  | .inr (.inl (y', as, fr, σ1)) => σ1 = σ → y' < 195 → as.length ≤ ax_L y' → (∀ v ∈ as, ax_cat v = 1) → ∃ (d' : Nat) (res : Res) (σ2 : SG), d = d' + 1 ∧ ax_Mt l B D e0 mo d' y' as σ1 res σ2 ∧ cells + (sgZ σ2 - sgZ σ1) ≤ R.cells ∧ slots + (sgU σ2 - sgU σ1) ≤ R.slots ∧
    (∀ v, res = .inl v → ∀ (H1 : Heap) (locs1 : List Loc) (ls1 : Array Slot), ax_hp B D σ2 s H1 → va_S (ax_GA B) s.heap H1 locs1 → ax_lo ls1 fr.2.1 → W p l e R s m args below meth c H1 locs1 (cells + (sgZ σ2 - sgZ σ1)) (slots + (sgU σ2 - sgU σ1)) Q (F0 m fr.1 ls1 ((ax_push v fr.2.2).map avV))) ∧
    (∀ E, res = .inr E → E < 3 → ∀ (H1 : Heap) (locs1 : List Loc) (ls1 : Array Slot) (rest : List Value) (ce : Cell) (q : Nat), ax_hp B D σ2 s H1 → va_S (ax_GA B) s.heap H1 locs1 → ax_lo ls1 fr.2.1 → H1[q]? = some ce → ce.vm = .none → s.vm.findClass (ax_xn E) = some ce.cls → vx_W p l e R s m args below meth c H1 locs1 (cells + (sgZ σ2 - sgZ σ1)) (slots + (sgU σ2 - sgU σ1)) Q (F0 m pc ls1 rest) q)
  | .inr (.inr (.inl (v, σ1))) => ∀ (H1 : Heap) (locs1 : List Loc) (ls1 : Array Slot), ax_rt y pc v → ax_hp B D σ1 s H1 → va_S (ax_GA B) s.heap H1 locs1 → W p l e R s m args below meth c H1 locs1 cells slots Q (F0 m pc ls1 (ax_rv v).toList)
  | .inr (.inr (.inr (E, σ1))) => 6 ≤ d ∧ cells + 1 ≤ R.cells ∧ slots + 6 ≤ R.slots ∧ ∀ (pc' : Nat) (H1 : Heap) (locs1 : List Loc) (ls1 : Array Slot) (rest : List Value) (ce : Cell) (q : Nat), E < 3 → ax_hh y = [] → ax_hp B D σ1 s H1 → va_S (ax_GA B) s.heap H1 locs1 → H1[q]? = some ce → ce.vm = .none → s.vm.findClass (ax_xn E) = some ce.cls → vx_W p l e R s m args below meth c H1 locs1 (cells + 1) (slots + 6) Q (F0 m pc' ls1 rest) q
end
theorem ax_cat_eq (v : AV) : (avV v).category = ax_cat v := by
  rcases v with (x | x) | (r | u)
  · rfl
  · rfl
  · exact ax_rf_cat r
  · rfl
theorem ax_wt_eq (st : List AV) : ((st.map avV).map fun v => v.category).sum = ax_wt st := by
  induction st with
  | nil => rfl
  | cons v st ih =>
    show (avV v).category + ((st.map avV).map fun v => v.category).sum = ax_cat v + ax_wt st
    rw [ax_cat_eq, ih]
theorem ax_pick_go {s sr : SR} (h : (some (.inl s) : Option SM).bind ax_pick = some sr) : sr = s := (Option.some.inj h).symm
theorem ax_pick_gd {p : Prop} {s sr : SR} (h : (some (.inr (.inl (p, s))) : Option SM).bind ax_pick = some sr) : p ∧ sr = s := by
  by_cases q : p
  · have e : (some (.inr (.inl (p, s))) : Option SM).bind ax_pick = some s := @if_pos p (Classical.propDecidable p) q _ _ _
    exact ⟨q, (Option.some.inj (e.symm.trans h)).symm⟩
  · have e : (some (.inr (.inl (p, s))) : Option SM).bind ax_pick = none := @if_neg p (Classical.propDecidable p) q _ _ _
    cases e.symm.trans h
theorem ax_pick_br {p : Prop} {s t sr : SR} (h : (some (.inr (.inr (p, s, t))) : Option SM).bind ax_pick = some sr) : (p ∧ sr = s) ∨ (¬ p ∧ sr = t) := by
  by_cases q : p
  · have e : (some (.inr (.inr (p, s, t))) : Option SM).bind ax_pick = some s := @if_pos p (Classical.propDecidable p) q _ _ _
    exact Or.inl ⟨q, (Option.some.inj (e.symm.trans h)).symm⟩
  · have e : (some (.inr (.inr (p, s, t))) : Option SM).bind ax_pick = some t := @if_neg p (Classical.propDecidable p) q _ _ _
    exact Or.inr ⟨q, (Option.some.inj (e.symm.trans h)).symm⟩
section
variable {p : Program} {l : Launch} {e : Env} {R : Room} {s : State} {m : MethodId} {args : Array Value} {below : List Frame} {meth : Method} {c : Code} {H : Heap} {locs : List Loc} {cells slots : Nat} {Q : State → Prop}
variable {B e0 mo d y pc : Nat} {D : va_G} {σ : SG} {sr : SR} {L st : List AV} {ls : Array Slot} {nx a : Nat}
theorem ax_Nx.same {fr : FRM} {σ1 : SG} (h : ax_Nx p l e R s m args below meth c Q B e0 mo d y pc D cells slots σ (.inl (fr, σ1))) (hZ : sgZ σ1 = sgZ σ) (hU : sgU σ1 = sgU σ) {H1 : Heap} {locs1 : List Loc} {ls1 : Array Slot} (hh : ax_hp B D σ1 s H1) (hS : va_S (ax_GA B) s.heap H1 locs1) (hlo : ax_lo ls1 fr.2.1) : W p l e R s m args below meth c H1 locs1 cells slots Q (F0 m fr.1 ls1 (fr.2.2.map avV)) := by
  have h3 := h.2.2 H1 locs1 ls1 hh hS hlo
  rw [hZ, hU, Nat.sub_self, Nat.sub_self, Nat.add_zero, Nat.add_zero] at h3
  exact h3
theorem si_go {v : AV} (row : W p l e R s m args below meth c H locs cells slots Q (F0 m nx ls (avV v :: st.map avV)) → W p l e R s m args below meth c H locs cells slots Q (F0 m pc ls (st.map avV))) (hs : (ax_go nx L (v :: st) σ).bind ax_pick = some sr) (hT : ax_Nx p l e R s m args below meth c Q B e0 mo d y pc D cells slots σ sr) (hh : ax_hp B D σ s H) (hS : va_S (ax_GA B) s.heap H locs) (hlo : ax_lo ls L) : W p l e R s m args below meth c H locs cells slots Q (F0 m pc ls (st.map avV)) := by
  obtain rfl := ax_pick_go hs
  exact row (hT.same rfl rfl hh hS hlo)
theorem si_ld (row : ∀ x : Int32, ls[a]? = some (.val (.int x)) → W p l e R s m args below meth c H locs cells slots Q (F0 m nx ls (.int x :: st.map avV)) → W p l e R s m args below meth c H locs cells slots Q (F0 m pc ls (st.map avV))) (hs : (ax_ld nx a L st σ).bind ax_pick = some sr) (hT : ax_Nx p l e R s m args below meth c Q B e0 mo d y pc D cells slots σ sr) (hh : ax_hp B D σ s H) (hS : va_S (ax_GA B) s.heap H locs) (hlo : ax_lo ls L) : W p l e R s m args below meth c H locs cells slots Q (F0 m pc ls (st.map avV)) := by
  unfold ax_ld at hs
  split at hs
  · rename_i x hx
    obtain rfl := ax_pick_go hs
    exact row x (hlo.2.2.1 _ _ hx) (hT.same rfl rfl hh hS hlo)
  · cases hs
theorem si_lda (row : ∀ x : Nat, ls[a]? = some (.val (va_rf (avr x))) → W p l e R s m args below meth c H locs cells slots Q (F0 m nx ls (va_rf (avr x) :: st.map avV)) → W p l e R s m args below meth c H locs cells slots Q (F0 m pc ls (st.map avV))) (hs : (ax_lda nx a L st σ).bind ax_pick = some sr) (hT : ax_Nx p l e R s m args below meth c Q B e0 mo d y pc D cells slots σ sr) (hh : ax_hp B D σ s H) (hS : va_S (ax_GA B) s.heap H locs) (hlo : ax_lo ls L) : W p l e R s m args below meth c H locs cells slots Q (F0 m pc ls (st.map avV)) := by
  unfold ax_lda at hs
  split at hs
  · rename_i x hx
    obtain rfl := ax_pick_go hs
    exact row x (hlo.2.2.2 _ _ hx) (hT.same rfl rfl hh hS hlo)
  · cases hs
theorem si_sto (row : ∀ (x : Int32) (rest : List Value), a < L.length → lv_has ls L.length (ax_lv L) → (∀ ls' : Array Slot, lv_has ls' L.length ((a, Value.int x) :: (ax_lv L).filter (fun q => !(q.1 == a) && !(q.1 + 1 == a && q.2.category == 2))) → W p l e R s m args below meth c H locs cells slots Q (F0 m nx ls' rest)) → W p l e R s m args below meth c H locs cells slots Q (F0 m pc ls (.int x :: rest))) (hs : (ax_sto nx a L st σ).bind ax_pick = some sr) (hT : ax_Nx p l e R s m args below meth c Q B e0 mo d y pc D cells slots σ sr) (hh : ax_hp B D σ s H) (hS : va_S (ax_GA B) s.heap H locs) (hlo : ax_lo ls L) : W p l e R s m args below meth c H locs cells slots Q (F0 m pc ls (st.map avV)) := by
  unfold ax_sto at hs
  split at hs
  · rename_i x st'
    cases q : Nat.blt a L.length with
    | false => rw [q] at hs; cases hs
    | true =>
      rw [q] at hs
      obtain rfl := ax_pick_go hs
      have ha := Nat.blt_eq.mp q
      exact row x _ ha (ax_lo_has hlo) (fun ls' h' => hT.same rfl rfl hh hS (ax_lo_set (v := aI x) ha rfl h'))
  · cases hs
theorem si_stoa (row : ∀ (x : Nat) (rest : List Value), a < L.length → lv_has ls L.length (ax_lv L) → (∀ ls' : Array Slot, lv_has ls' L.length ((a, va_rf (avr x)) :: (ax_lv L).filter (fun q => !(q.1 == a) && !(q.1 + 1 == a && q.2.category == 2))) → W p l e R s m args below meth c H locs cells slots Q (F0 m nx ls' rest)) → W p l e R s m args below meth c H locs cells slots Q (F0 m pc ls (va_rf (avr x) :: rest))) (hs : (ax_stoa nx a L st σ).bind ax_pick = some sr) (hT : ax_Nx p l e R s m args below meth c Q B e0 mo d y pc D cells slots σ sr) (hh : ax_hp B D σ s H) (hS : va_S (ax_GA B) s.heap H locs) (hlo : ax_lo ls L) : W p l e R s m args below meth c H locs cells slots Q (F0 m pc ls (st.map avV)) := by
  unfold ax_stoa at hs
  split at hs
  · rename_i x st'
    cases q : Nat.blt a L.length with
    | false => rw [q] at hs; cases hs
    | true =>
      rw [q] at hs
      obtain rfl := ax_pick_go hs
      have ha := Nat.blt_eq.mp q
      exact row x _ ha (ax_lo_has hlo) (fun ls' h' => hT.same rfl rfl hh hS (ax_lo_set (v := aR x) ha rfl h'))
  · cases hs
theorem si_inc {v : Int32} (row : ∀ (x : Int32) (k : Nat), (ax_lv L)[k]? = some (a, .int x) → a < L.length → lv_has ls L.length (ax_lv L) → (∀ ls' : Array Slot, lv_has ls' L.length ((a, Value.int (x + v)) :: (ax_lv L).filter (fun q => !(q.1 == a) && !(q.1 + 1 == a && q.2.category == 2))) → W p l e R s m args below meth c H locs cells slots Q (F0 m nx ls' (st.map avV))) → W p l e R s m args below meth c H locs cells slots Q (F0 m pc ls (st.map avV))) (hs : (ax_inc nx a v L st σ).bind ax_pick = some sr) (hT : ax_Nx p l e R s m args below meth c Q B e0 mo d y pc D cells slots σ sr) (hh : ax_hp B D σ s H) (hS : va_S (ax_GA B) s.heap H locs) (hlo : ax_lo ls L) : W p l e R s m args below meth c H locs cells slots Q (F0 m pc ls (st.map avV)) := by
  unfold ax_inc at hs
  split at hs
  · rename_i x hx
    obtain rfl := ax_pick_go hs
    have ha : a < L.length := (List.getElem?_eq_some_iff.mp hx).1
    have hm : (a, Value.int x) ∈ ax_lv L := List.mem_filterMap.mpr ⟨a, List.mem_range.mpr ha, by unfold ax_lvf; rw [hx]⟩
    obtain ⟨k, hk⟩ := List.mem_iff_getElem?.mp hm
    exact row x k hk ha (ax_lo_has hlo) (fun ls' h' => hT.same rfl rfl hh hS (ax_lo_set (v := aI (x + v)) ha rfl h'))
  · cases hs
theorem si_bin {g : Int32 → Int32 → Int32} (row : ∀ (x y : Int32) (rest : List Value), W p l e R s m args below meth c H locs cells slots Q (F0 m nx ls (.int (g x y) :: rest)) → W p l e R s m args below meth c H locs cells slots Q (F0 m pc ls (.int y :: .int x :: rest))) (hs : (ax_bin g nx L st σ).bind ax_pick = some sr) (hT : ax_Nx p l e R s m args below meth c Q B e0 mo d y pc D cells slots σ sr) (hh : ax_hp B D σ s H) (hS : va_S (ax_GA B) s.heap H locs) (hlo : ax_lo ls L) : W p l e R s m args below meth c H locs cells slots Q (F0 m pc ls (st.map avV)) := by
  unfold ax_bin at hs
  split at hs
  · obtain rfl := ax_pick_go hs
    exact row _ _ _ (hT.same rfl rfl hh hS hlo)
  · cases hs
theorem si_dv {g : Int32 → Int32 → Int32} (row : ∀ (x y : Int32) (rest : List Value), ¬ y = 0 → W p l e R s m args below meth c H locs cells slots Q (F0 m nx ls (.int (g x y) :: rest)) → W p l e R s m args below meth c H locs cells slots Q (F0 m pc ls (.int y :: .int x :: rest))) (hs : (ax_dv g nx L st σ).bind ax_pick = some sr) (hT : ax_Nx p l e R s m args below meth c Q B e0 mo d y pc D cells slots σ sr) (hh : ax_hp B D σ s H) (hS : va_S (ax_GA B) s.heap H locs) (hlo : ax_lo ls L) : W p l e R s m args below meth c H locs cells slots Q (F0 m pc ls (st.map avV)) := by
  unfold ax_dv at hs
  split at hs
  · obtain ⟨h0, rfl⟩ := ax_pick_gd hs
    exact row _ _ _ h0 (hT.same rfl rfl hh hS hlo)
  · cases hs
theorem si_binJ {g : Int64 → Int64 → Int64} (row : ∀ (x y : Int64) (rest : List Value), W p l e R s m args below meth c H locs cells slots Q (F0 m nx ls (.long (g x y) :: rest)) → W p l e R s m args below meth c H locs cells slots Q (F0 m pc ls (.long y :: .long x :: rest))) (hs : (ax_binJ g nx L st σ).bind ax_pick = some sr) (hT : ax_Nx p l e R s m args below meth c Q B e0 mo d y pc D cells slots σ sr) (hh : ax_hp B D σ s H) (hS : va_S (ax_GA B) s.heap H locs) (hlo : ax_lo ls L) : W p l e R s m args below meth c H locs cells slots Q (F0 m pc ls (st.map avV)) := by
  unfold ax_binJ at hs
  split at hs
  · obtain rfl := ax_pick_go hs
    exact row _ _ _ (hT.same rfl rfl hh hS hlo)
  · cases hs
theorem si_shJ {g : Int64 → Int32 → Int64} (row : ∀ (x : Int64) (y : Int32) (rest : List Value), W p l e R s m args below meth c H locs cells slots Q (F0 m nx ls (.long (g x y) :: rest)) → W p l e R s m args below meth c H locs cells slots Q (F0 m pc ls (.int y :: .long x :: rest))) (hs : (ax_shJ g nx L st σ).bind ax_pick = some sr) (hT : ax_Nx p l e R s m args below meth c Q B e0 mo d y pc D cells slots σ sr) (hh : ax_hp B D σ s H) (hS : va_S (ax_GA B) s.heap H locs) (hlo : ax_lo ls L) : W p l e R s m args below meth c H locs cells slots Q (F0 m pc ls (st.map avV)) := by
  unfold ax_shJ at hs
  split at hs
  · obtain rfl := ax_pick_go hs
    exact row _ _ _ (hT.same rfl rfl hh hS hlo)
  · cases hs
theorem si_if {g : Int32 → Prop} {t n : Nat} (row : ∀ (x : Int32) (rest : List Value), (g x → W p l e R s m args below meth c H locs cells slots Q (F0 m t ls rest)) → (¬ g x → W p l e R s m args below meth c H locs cells slots Q (F0 m n ls rest)) → W p l e R s m args below meth c H locs cells slots Q (F0 m pc ls (.int x :: rest))) (hs : (ax_if g t n L st σ).bind ax_pick = some sr) (hT : ax_Nx p l e R s m args below meth c Q B e0 mo d y pc D cells slots σ sr) (hh : ax_hp B D σ s H) (hS : va_S (ax_GA B) s.heap H locs) (hlo : ax_lo ls L) : W p l e R s m args below meth c H locs cells slots Q (F0 m pc ls (st.map avV)) := by
  unfold ax_if at hs
  split at hs
  · refine row _ _ (fun h1 => ?_) (fun h1 => ?_)
    · rcases ax_pick_br hs with ⟨-, rfl⟩ | ⟨h2, -⟩
      · exact hT.same rfl rfl hh hS hlo
      · exact absurd h1 h2
    · rcases ax_pick_br hs with ⟨h2, -⟩ | ⟨-, rfl⟩
      · exact absurd h2 h1
      · exact hT.same rfl rfl hh hS hlo
  · cases hs
theorem si_if2 {g : Int32 → Int32 → Prop} {t n : Nat} (row : ∀ (x y : Int32) (rest : List Value), (g x y → W p l e R s m args below meth c H locs cells slots Q (F0 m t ls rest)) → (¬ g x y → W p l e R s m args below meth c H locs cells slots Q (F0 m n ls rest)) → W p l e R s m args below meth c H locs cells slots Q (F0 m pc ls (.int y :: .int x :: rest))) (hs : (ax_if2 g t n L st σ).bind ax_pick = some sr) (hT : ax_Nx p l e R s m args below meth c Q B e0 mo d y pc D cells slots σ sr) (hh : ax_hp B D σ s H) (hS : va_S (ax_GA B) s.heap H locs) (hlo : ax_lo ls L) : W p l e R s m args below meth c H locs cells slots Q (F0 m pc ls (st.map avV)) := by
  unfold ax_if2 at hs
  split at hs
  · refine row _ _ _ (fun h1 => ?_) (fun h1 => ?_)
    · rcases ax_pick_br hs with ⟨-, rfl⟩ | ⟨h2, -⟩
      · exact hT.same rfl rfl hh hS hlo
      · exact absurd h1 h2
    · rcases ax_pick_br hs with ⟨h2, -⟩ | ⟨-, rfl⟩
      · exact absurd h2 h1
      · exact hT.same rfl rfl hh hS hlo
  · cases hs
theorem si_nul {t n : Nat} (row : ∀ (r : Nat) (rest : List Value), (r = 0 → W p l e R s m args below meth c H locs cells slots Q (F0 m t ls rest)) → (¬ r = 0 → W p l e R s m args below meth c H locs cells slots Q (F0 m n ls rest)) → W p l e R s m args below meth c H locs cells slots Q (F0 m pc ls (va_rf (avr r) :: rest))) (hs : (ax_nul t n L st σ).bind ax_pick = some sr) (hT : ax_Nx p l e R s m args below meth c Q B e0 mo d y pc D cells slots σ sr) (hh : ax_hp B D σ s H) (hS : va_S (ax_GA B) s.heap H locs) (hlo : ax_lo ls L) : W p l e R s m args below meth c H locs cells slots Q (F0 m pc ls (st.map avV)) := by
  unfold ax_nul at hs
  split at hs
  · refine row _ _ (fun h1 => ?_) (fun h1 => ?_)
    · rcases ax_pick_br hs with ⟨-, rfl⟩ | ⟨h2, -⟩
      · exact hT.same rfl rfl hh hS hlo
      · exact absurd h1 h2
    · rcases ax_pick_br hs with ⟨h2, -⟩ | ⟨-, rfl⟩
      · exact absurd h2 h1
      · exact hT.same rfl rfl hh hS hlo
  · cases hs
theorem si_acmp {t : Nat} (row : ∀ (x : Nat) (rest : List Value), W p l e R s m args below meth c H locs cells slots Q (F0 m t ls rest) → W p l e R s m args below meth c H locs cells slots Q (F0 m pc ls (va_rf (avr x) :: va_rf (avr x) :: rest))) (hs : (ax_acmp t L st σ).bind ax_pick = some sr) (hT : ax_Nx p l e R s m args below meth c Q B e0 mo d y pc D cells slots σ sr) (hh : ax_hp B D σ s H) (hS : va_S (ax_GA B) s.heap H locs) (hlo : ax_lo ls L) : W p l e R s m args below meth c H locs cells slots Q (F0 m pc ls (st.map avV)) := by
  unfold ax_acmp at hs
  split at hs
  · obtain ⟨rfl, rfl⟩ := ax_pick_gd hs
    exact row _ _ (hT.same rfl rfl hh hS hlo)
  · cases hs
theorem si_mm {g : Int32 → Int32 → Int32} (row : ∀ (x y : Int32) (rest : List Value), (rest.map fun v => v.category).sum ≤ 8 → W p l e R s m args below meth c H locs cells slots Q (F0 m nx ls (.int (g x y) :: rest)) → W p l e R s m args below meth c H locs cells slots Q (F0 m pc ls (.int y :: .int x :: rest))) (hs : (ax_mm g nx L st σ).bind ax_pick = some sr) (hT : ax_Nx p l e R s m args below meth c Q B e0 mo d y pc D cells slots σ sr) (hh : ax_hp B D σ s H) (hS : va_S (ax_GA B) s.heap H locs) (hlo : ax_lo ls L) : W p l e R s m args below meth c H locs cells slots Q (F0 m pc ls (st.map avV)) := by
  unfold ax_mm at hs
  split at hs
  · obtain ⟨h0, rfl⟩ := ax_pick_gd hs
    exact row _ _ _ (by rw [ax_wt_eq]; exact h0) (hT.same rfl rfl hh hS hlo)
  · cases hs
end
end AXI
