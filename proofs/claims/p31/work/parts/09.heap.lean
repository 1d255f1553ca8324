/-! The abstract heap and the machine's heap: what lies where. -/
section AXS
def axW : List Cond := lw_tbl.filter goodWord
theorem ax_in_W {w : Cond} (h : ax_gw w) : w ∈ axW := List.mem_filter.mpr h
theorem ax_good_W {w : Cond} (h : w ∈ axW) : (w.onTables && w.keeps) = true ∨ ∃ ty, w = .arrayClass ty := good_of_word (List.mem_filter.mp h).2
def avr (r : Nat) : Option Nat := match r with
  | 0 => none
  | a + 1 => some a
def avV (v : AV) : Value := match v with
  | .inl (.inl x) => .int x
  | .inl (.inr x) => .long x
  | .inr (.inl r) => va_rf (avr r)
  | .inr (.inr _) => .null
def ax_fv (σ : SG) (k i r : Nat) : Value := bif Nat.beq (ax_fk k i) 1 then va_rf (avr (sgR σ k i r)) else .int (sgI σ k i r)
def ax_ev (σ : SG) (k i r : Nat) : Value := bif Nat.beq k 22 then .long (sgJ σ k i r) else bif Nat.beq k 23 || Nat.beq k 24 then va_rf (avr (sgR σ k i r)) else .int (sgI σ k i r)
def ax_aty (k : Nat) : FieldType := bif Nat.beq k 21 then .boolean else bif Nat.beq k 22 then .long else bif Nat.beq k 23 || Nat.beq k 24 then .object (ax_an k) else .int
/-- r is an object of the kind k -/
def ax_ob (B : Nat) (D : va_G) (σ : SG) (H : Heap) (r : Nat) : Prop := (sgK σ r).1 < 9 → ∃ a, r = a + 1 ∧ B ≤ a ∧ t_OB a (D.1 (sgK σ r).1) (ax_N (sgK σ r).1) (D.2 (sgK σ r).1) H (fun i => ax_fv σ (sgK σ r).1 i r)
/-- r is a row of the kind k -/
def ax_ar (B : Nat) (σ : SG) (U : State) (H : Heap) (r : Nat) : Prop := 20 ≤ (sgK σ r).1 → (sgK σ r).1 < 26 → ∃ (a : Nat) (cell : Cell), r = a + 1 ∧ ((sgK σ r).1 ≠ 25 → (sgK σ r).2 ≠ 0 → B ≤ a) ∧ H[a]? = some cell ∧ U.isArrayOf cell (ax_aty (sgK σ r).1) ∧ cell.vm ≠ .unknown ∧ (((sgK σ r).2 ≠ 0 → cell.slots.size = (sgK σ r).2) ∧ cell.slots.size.toInt32 = Int32.ofNat (sgK σ r).2) ∧ (∀ j, j < (sgK σ r).2 → cell.slots[j]? = some (ax_ev σ (sgK σ r).1 j r)) ∧ ((sgK σ r).1 = 23 ∨ (sgK σ r).1 = 24 → (sgK σ r).2 ≠ 0 → va_RA U cell.cls (ax_aty (sgK σ r).1) ∧ cell.vm = .none)
def ax_hp (B : Nat) (D : va_G) (σ : SG) (U : State) (H : Heap) : Prop := H.size + 1 = sgZ σ ∧ (∀ r, ax_ob B D σ H r) ∧ ∀ r, ax_ar B σ U H r
theorem ax_hp.moved {B : Nat} {D : va_G} {σ : SG} {u U : State} {H : Heap} (hvm : u.vm.Alike U.vm) (h : ax_hp B D σ u H) : ax_hp B D σ U H := by
  refine ⟨h.1, h.2.1, fun r h1 h2 => ?_⟩
  obtain ⟨a, cell, q1, q2, q3, q4, q5, q6, q7, q8⟩ := h.2.2 r h1 h2
  exact ⟨a, cell, q1, q2, q3, State.isArrayOf_alike hvm q4, q5, q6, q7, fun x y => ⟨(q8 x y).1.moved hvm, (q8 x y).2⟩⟩
/-- one cell changed -/
theorem ax_hp.upd {B : Nat} {D : va_G} {σ σ' : SG} {U : State} {H H' : Heap} {r a : Nat} (h : ax_hp B D σ U H) (hr : r = a + 1) (hZ : sgZ σ' = sgZ σ) (hK : ∀ q, sgK σ' q = sgK σ q) (hf : ∀ q, q ≠ r → ∀ k i, ax_fv σ' k i q = ax_fv σ k i q ∧ ax_ev σ' k i q = ax_ev σ k i q)
    (z : H'.size = H.size) (oq : ∀ q : Nat, q ≠ a → H'[q]? = H[q]?) (h1 : ax_ob B D σ' H' r) (h2 : ax_ar B σ' U H' r) : ax_hp B D σ' U H' := by
  refine ⟨by rw [z, hZ]; exact h.1, fun q => ?_, fun q => ?_⟩
  · by_cases e : q = r
    · rw [e]; exact h1
    · intro hk
      rw [hK] at hk ⊢
      obtain ⟨b, e1, e2, e3⟩ := h.2.1 q hk
      refine ⟨b, e1, e2, (e3.kept (oq b (by omega))).to fun i _ => ?_⟩
      exact ((hf q e _ _).1).symm
  · by_cases e : q = r
    · rw [e]; exact h2
    · intro hk hk2
      rw [hK] at hk hk2 ⊢
      obtain ⟨b, cell, e1, e2, e3, e4, e5, e6, e7, e8⟩ := h.2.2 q hk hk2
      refine ⟨b, cell, e1, e2, by rw [oq b (by omega)]; exact e3, e4, e5, e6, fun j hj => ?_, e8⟩
      rw [(hf q e _ _).2]
      exact e7 j hj
/-- a cell more -/
theorem ax_hp.new {B : Nat} {D : va_G} {σ : SG} {U : State} {H H' : Heap} {k n : Nat} (h : ax_hp B D σ U H) (z : H'.size = H.size + 1) (oq : ∀ q : Nat, q < H.size → H'[q]? = H[q]?)
    (h1 : ax_ob B D (mkC σ k n) H' (sgZ σ)) (h2 : ax_ar B (mkC σ k n) U H' (sgZ σ)) : ax_hp B D (mkC σ k n) U H' := by
  have hK : ∀ q, q ≠ sgZ σ → sgK (mkC σ k n) q = sgK σ q := fun q hq => va_up_ne _ _ hq
  have hI : ∀ q, q ≠ sgZ σ → ∀ k' i, sgI (mkC σ k n) k' i q = sgI σ k' i q := fun q hq k' i => if_neg fun z => hq z.2
  have hJ : ∀ q, q ≠ sgZ σ → ∀ k' i, sgJ (mkC σ k n) k' i q = sgJ σ k' i q := fun q hq k' i => if_neg fun z => hq z.2
  have hR : ∀ q, q ≠ sgZ σ → ∀ k' i, sgR (mkC σ k n) k' i q = sgR σ k' i q := fun q hq k' i => if_neg fun z => hq z.2
  refine ⟨by rw [z]; show H.size + 1 + 1 = sgZ σ + 1; rw [h.1], fun q => ?_, fun q => ?_⟩
  · by_cases e : q = sgZ σ
    · rw [e]; exact h1
    · intro hk
      rw [hK q e] at hk ⊢
      obtain ⟨b, e1, e2, e3⟩ := h.2.1 q hk
      have hlt : b < H.size := by
        obtain ⟨cell, g1, -⟩ := e3
        exact (Array.getElem?_eq_some_iff.mp g1).1
      refine ⟨b, e1, e2, (e3.kept (oq b hlt)).to fun i _ => ?_⟩
      show ax_fv σ _ i q = ax_fv (mkC σ k n) _ i q
      unfold ax_fv
      rw [hI q e, hR q e]
  · by_cases e : q = sgZ σ
    · rw [e]; exact h2
    · intro hk hk2
      rw [hK q e] at hk hk2 ⊢
      obtain ⟨b, cell, e1, e2, e3, e4, e5, e6, e7, e8⟩ := h.2.2 q hk hk2
      have hlt : b < H.size := (Array.getElem?_eq_some_iff.mp e3).1
      refine ⟨b, cell, e1, e2, by rw [oq b hlt]; exact e3, e4, e5, e6, fun j hj => ?_, e8⟩
      have : ax_ev (mkC σ k n) (sgK σ q).1 j q = ax_ev σ (sgK σ q).1 j q := by
        unfold ax_ev
        rw [hI q e, hJ q e, hR q e]
      rw [this]
      exact e7 j hj
/-- a cell that nothing is said of -/
theorem ax_hp.thr {B : Nat} {D : va_G} {σ : SG} {U : State} {H H' : Heap} (h : ax_hp B D σ U H) (z : H'.size = H.size + 1) (oq : ∀ q : Nat, q < H.size → H'[q]? = H[q]?) : ax_hp B D (thrC σ) U H' := by
  refine ⟨by rw [z]; show H.size + 1 + 1 = sgZ σ + 1; rw [h.1], fun q hk => ?_, fun q hk hk2 => ?_⟩
  · obtain ⟨b, e1, e2, e3⟩ := h.2.1 q hk
    have hlt : b < H.size := by
      obtain ⟨cell, g1, -⟩ := e3
      exact (Array.getElem?_eq_some_iff.mp g1).1
    exact ⟨b, e1, e2, e3.kept (oq b hlt)⟩
  · obtain ⟨b, cell, e1, e2, e3, e4⟩ := h.2.2 q hk hk2
    have hlt : b < H.size := (Array.getElem?_eq_some_iff.mp e3).1
    exact ⟨b, cell, e1, e2, by rw [oq b hlt]; exact e3, e4⟩
/-- locals -/
def ax_lo (ls : Array Slot) (L : List AV) : Prop := ls.size = L.length ∧ lv_wf ls ∧ (∀ (i : Nat) (x : Int32), L[i]? = some (aI x) → ls[i]? = some (Slot.val (.int x))) ∧ ∀ (i r : Nat), L[i]? = some (aR r) → ls[i]? = some (Slot.val (va_rf (avr r)))
def ax_lvf (L : List AV) (i : Nat) : Option (Nat × Value) := match L[i]? with
  | some (.inl (.inl x)) => some (i, .int x)
  | some (.inr (.inl r)) => some (i, va_rf (avr r))
  | _ => none
def ax_lv (L : List AV) : List (Nat × Value) := (List.range L.length).filterMap (ax_lvf L)
theorem ax_lo_has {ls : Array Slot} {L : List AV} (h : ax_lo ls L) : lv_has ls L.length (ax_lv L) := by
  refine ⟨h.1, h.2.1, fun q hq => ?_⟩
  obtain ⟨i, -, hi⟩ := List.mem_filterMap.mp hq
  unfold ax_lvf at hi
  split at hi
  · rename_i x hx
    cases hi
    exact h.2.2.1 i x hx
  · rename_i r hx
    cases hi
    exact h.2.2.2 i r hx
  · cases hi
theorem ax_rf_cat (r : Nat) : (va_rf (avr r)).category = 1 := by cases r <;> rfl
theorem ax_lo_set {ls' : Array Slot} {L : List AV} {a : Nat} {v : AV} (ha : a < L.length) (hv : ax_cat v = 1) (h' : lv_has ls' L.length ((a, avV v) :: (ax_lv L).filter (fun q => !(q.1 == a) && !(q.1 + 1 == a && q.2.category == 2)))) : ax_lo ls' (L.set a v) := by
  obtain ⟨h1, h2, h3⟩ := h'
  have key : ∀ (i : Nat) (w : Value), i ≠ a → w.category = 1 → ax_lvf L i = some (i, w) → ls'[i]? = some (.val w) := by
    intro i w hi hw hf
    have hlt : i < L.length := by
      unfold ax_lvf at hf
      by_cases q : i < L.length
      · exact q
      · rw [List.getElem?_eq_none (by omega)] at hf
        cases hf
    refine h3 (i, w) (List.mem_cons_of_mem _ (List.mem_filter.mpr ⟨List.mem_filterMap.mpr ⟨i, List.mem_range.mpr hlt, hf⟩, ?_⟩))
    simp [hi, hw]
  refine ⟨by rw [h1, List.length_set], h2, fun i x hx => ?_, fun i r hx => ?_⟩
  · by_cases e : i = a
    · subst e
      rw [List.getElem?_set_self ha] at hx
      have : v = aI x := Option.some.inj hx
      subst this
      exact h3 _ List.mem_cons_self
    · rw [List.getElem?_set_ne (Ne.symm e)] at hx
      exact key i (.int x) e rfl (by unfold ax_lvf; rw [hx])
  · by_cases e : i = a
    · subst e
      rw [List.getElem?_set_self ha] at hx
      have : v = aR r := Option.some.inj hx
      subst this
      exact h3 _ List.mem_cons_self
    · rw [List.getElem?_set_ne (Ne.symm e)] at hx
      exact key i (va_rf (avr r)) e (ax_rf_cat r) (by unfold ax_lvf; rw [hx])
/-- what holds of the launch in every method: the statics, the class object, the texts -/
def ax_GA (B : Nat) : Nat → Prop := fun q => B ≤ q
def ax_nd : List MethodName := [⟨"java/lang/RuntimeException", "<init>", "(Ljava/lang/String;)V"⟩, ⟨"java/lang/Exception", "<init>", "(Ljava/lang/String;)V"⟩, ⟨"java/lang/Throwable", "<init>", "(Ljava/lang/String;)V"⟩]
def ax_nc : List (String × String) := [("PipelineRunner$Cache", "java/lang/Object"), ("PipelineRunner$Entry", "java/lang/Object"), ("PipelineRunner$Job", "java/lang/Object"), ("PipelineRunner$Part", "java/lang/Object"), ("PipelineRunner$Run", "java/lang/Object"), ("PipelineRunner$Stage", "java/lang/Object"), ("PipelineRunner", "java/lang/Object"), ("PipelineRunner$Cache", "java/lang/Object"), ("java/util/ArrayList", "java/lang/Object"), ("java/lang/IndexOutOfBoundsException", "java/lang/IndexOutOfBoundsException"), ("java/lang/IllegalArgumentException", "java/lang/IllegalArgumentException"), ("java/lang/IllegalStateException", "java/lang/IllegalStateException")]
def ax_G (B e0 mo : Nat) (U : State) (H : Heap) : Prop :=
  (∃ t, e0 = t + 1 ∧ va_Z "java/util/ArrayList" "DEFAULTCAPACITY_EMPTY_ELEMENTDATA" "[Ljava/lang/Object;" (.ref t) (ax_GA B) U H) ∧ vx_Zq Bundle.tN "UNASSIGNED_STACK" Bundle.steD (ax_GA B) U H ∧ vx_Zq Bundle.tN "SUPPRESSED_SENTINEL" Bundle.listD (ax_GA B) U H ∧
  (∃ t, mo = t + 1 ∧ va_Mi "[Ljava/lang/Object;" t U) ∧ va_Dc U ∧ (∀ k, k = 23 ∨ k = 24 → va_AO (ax_an k) U) ∧ (∀ q ∈ ax_LT, ∃ sa, vk_R "PipelineRunner" q.2.2.2.2.1 (ax_tx q.2.2.2.2.1) sa U) ∧ (∀ E F, E < 3 → F < 3 → E ≠ F → va_Nc (ax_xn E) (ax_xn F) U) ∧ (∀ x ∈ ax_nd, va_Nw (.declares x) U) ∧ (∀ q ∈ ax_nc, va_Nw (.castable q.1 q.2) U)
theorem ax_G.next {B e0 mo : Nat} {s U : State} {H H1 : Heap} (hW : s.WarmedH U.vm) (hq : ∀ a : Nat, a < H.size → ¬ ax_GA B a → H1[a]? = H[a]?) (h : ax_G B e0 mo s H) : ax_G B e0 mo U H1 := by
  obtain ⟨⟨t, e1, h1⟩, h2, h3, ⟨t2, e2, h4⟩, h5, h6, h7, h8, h9, h10⟩ := h
  refine ⟨⟨t, e1, (h1.moved hW.alike).kept hq⟩, (h2.moved hW.alike).kept hq, (h3.moved hW.alike).kept hq, ⟨t2, e2, h4.moved hW.alike⟩, h5.moved hW.alike, fun k hk => (h6 k hk).moved hW.alike, fun q hq => ?_, fun E F a b c => (h8 E F a b c).moved hW.alike, fun x hx => (h9 x hx).warmD hW, fun q hq => (h10 q hq).warmC hW⟩
  obtain ⟨sa, z⟩ := h7 q hq
  exact ⟨sa, z.warm hW⟩
end AXS
