/-! Runs in the small heap are runs in the large heap. -/
section AXSO
/-- what the tables say of kinds -/
def ss_e (en : ax_En) : Bool := match en with
  | (i, _, a, _, f, _) => match i with
    | .getfield _ => Nat.blt a 30
    | .putfield _ => Nat.blt a 20
    | .iaload => Nat.blt a 30
    | .aaload => Nat.blt a 30
    | .aastore => Nat.blt a 30
    | .checkcast _ => Nat.blt a 30
    | .invokevirtual _ => Nat.beq f 3 || Nat.blt (ax_ck a) 30
    | _ => true
section
variable {e0 ms mo : Nat} {φ : Nat → Nat} {σ τ : SG} {L st : List AV} {sr : SR} {nx a b f t n : Nat} {v : Int32}
theorem st_i2l (h : ss_H e0 ms mo φ σ τ) (hL : ss_l (sgZ σ) L) (hst : ss_l (sgZ σ) st) (hs : (ax_sem e0 ms (.i2l, nx, a, b, f, v) L st σ).bind ax_pick = some sr) : ss_Q e0 ms mo φ σ τ sr (ax_sem e0 mo (.i2l, nx, a, b, f, v) (L.map (ss_m φ)) (st.map (ss_m φ)) τ) := by
  unfold ax_sem at hs
  dsimp only at hs
  split at hs
  · rename_i x st'
    obtain rfl := ax_pick_go hs
    exact ss_go (st' := aJ x.toInt64 :: st') h hL (ss_cons trivial (ss_tl hst))
  · cases hs
theorem st_lcmp (h : ss_H e0 ms mo φ σ τ) (hL : ss_l (sgZ σ) L) (hst : ss_l (sgZ σ) st) (hs : (ax_sem e0 ms (.lcmp, nx, a, b, f, v) L st σ).bind ax_pick = some sr) : ss_Q e0 ms mo φ σ τ sr (ax_sem e0 mo (.lcmp, nx, a, b, f, v) (L.map (ss_m φ)) (st.map (ss_m φ)) τ) := by
  unfold ax_sem at hs
  dsimp only at hs
  split at hs
  · rename_i y x st'
    obtain rfl := ax_pick_go hs
    exact ss_go (st' := aI (lg_cmp x y) :: st') h hL (ss_cons trivial (ss_tl (ss_tl hst)))
  · cases hs
theorem st_dup (h : ss_H e0 ms mo φ σ τ) (hL : ss_l (sgZ σ) L) (hst : ss_l (sgZ σ) st) (hs : (ax_sem e0 ms (.dup, nx, a, b, f, v) L st σ).bind ax_pick = some sr) : ss_Q e0 ms mo φ σ τ sr (ax_sem e0 mo (.dup, nx, a, b, f, v) (L.map (ss_m φ)) (st.map (ss_m φ)) τ) := by
  unfold ax_sem at hs
  dsimp only at hs
  split at hs
  · rename_i x st'
    cases q : Nat.beq (ax_cat x) 1 with
    | false => rw [q] at hs; cases hs
    | true =>
      rw [q] at hs
      obtain rfl := ax_pick_go hs
      show ss_Q e0 ms mo φ σ τ _ (bif Nat.beq (ax_cat (ss_m φ x)) 1 then ax_go nx (L.map (ss_m φ)) (ss_m φ x :: ss_m φ x :: st'.map (ss_m φ)) τ else none)
      rw [ss_cat, q]
      exact ss_go (st' := x :: x :: st') h hL (ss_cons (ss_hd hst) hst)
  · cases hs
theorem st_dup2 (h : ss_H e0 ms mo φ σ τ) (hL : ss_l (sgZ σ) L) (hst : ss_l (sgZ σ) st) (hs : (ax_sem e0 ms (.dup2, nx, a, b, f, v) L st σ).bind ax_pick = some sr) : ss_Q e0 ms mo φ σ τ sr (ax_sem e0 mo (.dup2, nx, a, b, f, v) (L.map (ss_m φ)) (st.map (ss_m φ)) τ) := by
  unfold ax_sem at hs
  dsimp only at hs
  split at hs
  · rename_i x w st'
    cases q : (Nat.beq (ax_cat x) 1 && Nat.beq (ax_cat w) 1) with
    | false => rw [q] at hs; cases hs
    | true =>
      rw [q] at hs
      obtain rfl := ax_pick_go hs
      show ss_Q e0 ms mo φ σ τ _ (bif Nat.beq (ax_cat (ss_m φ x)) 1 && Nat.beq (ax_cat (ss_m φ w)) 1 then ax_go nx (L.map (ss_m φ)) (ss_m φ x :: ss_m φ w :: ss_m φ x :: ss_m φ w :: st'.map (ss_m φ)) τ else none)
      rw [ss_cat, ss_cat, q]
      exact ss_go (st' := x :: w :: x :: w :: st') h hL (ss_cons (ss_hd hst) (ss_cons (ss_hd (ss_tl hst)) hst))
  · cases hs
theorem st_dupx (h : ss_H e0 ms mo φ σ τ) (hL : ss_l (sgZ σ) L) (hst : ss_l (sgZ σ) st) (hs : (ax_sem e0 ms (.dup_x1, nx, a, b, f, v) L st σ).bind ax_pick = some sr) : ss_Q e0 ms mo φ σ τ sr (ax_sem e0 mo (.dup_x1, nx, a, b, f, v) (L.map (ss_m φ)) (st.map (ss_m φ)) τ) := by
  unfold ax_sem at hs
  dsimp only at hs
  split at hs
  · rename_i x w st'
    cases q : (Nat.beq (ax_cat x) 1 && Nat.beq (ax_cat w) 1) with
    | false => rw [q] at hs; cases hs
    | true =>
      rw [q] at hs
      obtain rfl := ax_pick_go hs
      show ss_Q e0 ms mo φ σ τ _ (bif Nat.beq (ax_cat (ss_m φ x)) 1 && Nat.beq (ax_cat (ss_m φ w)) 1 then ax_go nx (L.map (ss_m φ)) (ss_m φ x :: ss_m φ w :: ss_m φ x :: st'.map (ss_m φ)) τ else none)
      rw [ss_cat, ss_cat, q]
      exact ss_go (st' := x :: w :: x :: st') h hL (ss_cons (ss_hd hst) (ss_cons (ss_hd (ss_tl hst)) (ss_cons (ss_hd hst) (ss_tl (ss_tl hst)))))
  · cases hs
theorem st_pop (h : ss_H e0 ms mo φ σ τ) (hL : ss_l (sgZ σ) L) (hst : ss_l (sgZ σ) st) (hs : (ax_sem e0 ms (.pop, nx, a, b, f, v) L st σ).bind ax_pick = some sr) : ss_Q e0 ms mo φ σ τ sr (ax_sem e0 mo (.pop, nx, a, b, f, v) (L.map (ss_m φ)) (st.map (ss_m φ)) τ) := by
  unfold ax_sem at hs
  dsimp only at hs
  split at hs
  · rename_i x st'
    cases q : Nat.beq (ax_cat x) 1 with
    | false => rw [q] at hs; cases hs
    | true =>
      rw [q] at hs
      obtain rfl := ax_pick_go hs
      show ss_Q e0 ms mo φ σ τ _ (bif Nat.beq (ax_cat (ss_m φ x)) 1 then ax_go nx (L.map (ss_m φ)) (st'.map (ss_m φ)) τ else none)
      rw [ss_cat, q]
      exact ss_go (st' := st') h hL (ss_tl hst)
  · cases hs
theorem st_ret (h : ss_H e0 ms mo φ σ τ) (hst : ss_l (sgZ σ) st) (hs : (ax_sem e0 ms (.return_, nx, a, b, f, v) L st σ).bind ax_pick = some sr) : ss_Q e0 ms mo φ σ τ sr (ax_sem e0 mo (.return_, nx, a, b, f, v) (L.map (ss_m φ)) (st.map (ss_m φ)) τ) := by
  unfold ax_sem at hs
  dsimp only at hs
  split at hs
  · obtain rfl := ax_pick_go hs
    exact ⟨φ, τ, rfl, h, ss_T.refl _ _ _ _, trivial⟩
  · cases hs
theorem st_aret (h : ss_H e0 ms mo φ σ τ) (hst : ss_l (sgZ σ) st) (hs : (ax_sem e0 ms (.areturn, nx, a, b, f, v) L st σ).bind ax_pick = some sr) : ss_Q e0 ms mo φ σ τ sr (ax_sem e0 mo (.areturn, nx, a, b, f, v) (L.map (ss_m φ)) (st.map (ss_m φ)) τ) := by
  unfold ax_sem at hs
  dsimp only at hs
  split at hs
  · obtain rfl := ax_pick_go hs
    exact ⟨φ, τ, rfl, h, ss_T.refl _ _ _ _, ss_hd hst⟩
  · cases hs
theorem st_iret (h : ss_H e0 ms mo φ σ τ) (hst : ss_l (sgZ σ) st) (hs : (ax_sem e0 ms (.ireturn, nx, a, b, f, v) L st σ).bind ax_pick = some sr) : ss_Q e0 ms mo φ σ τ sr (ax_sem e0 mo (.ireturn, nx, a, b, f, v) (L.map (ss_m φ)) (st.map (ss_m φ)) τ) := by
  unfold ax_sem at hs
  dsimp only at hs
  split at hs
  · rename_i x
    cases q : Nat.beq f 1 with
    | true =>
      rw [q] at hs
      obtain ⟨hp, rfl⟩ := ax_pick_gd hs
      show ss_Q e0 ms mo φ σ τ _ (bif Nat.beq f 1 then some (.inr (.inl ((x = 0 ∨ x = 1), .inr (.inr (.inl (aI x, τ)))))) else some (.inl (.inr (.inr (.inl (aI x, τ))))))
      rw [q]
      exact ss_Q.gd hp ⟨φ, τ, rfl, h, ss_T.refl _ _ _ _, trivial⟩
    | false =>
      rw [q] at hs
      obtain rfl := ax_pick_go hs
      show ss_Q e0 ms mo φ σ τ _ (bif Nat.beq f 1 then some (.inr (.inl ((x = 0 ∨ x = 1), .inr (.inr (.inl (aI x, τ)))))) else some (.inl (.inr (.inr (.inl (aI x, τ))))))
      rw [q]
      exact ⟨φ, τ, rfl, h, ss_T.refl _ _ _ _, trivial⟩
  · cases hs
theorem st_sw {dd lo hi : Int} {os : Array Int} (h : ss_H e0 ms mo φ σ τ) (hL : ss_l (sgZ σ) L) (hst : ss_l (sgZ σ) st) (hs : (ax_sem e0 ms (.tableswitch dd lo hi os, nx, a, b, f, v) L st σ).bind ax_pick = some sr) : ss_Q e0 ms mo φ σ τ sr (ax_sem e0 mo (.tableswitch dd lo hi os, nx, a, b, f, v) (L.map (ss_m φ)) (st.map (ss_m φ)) τ) := by
  unfold ax_sem at hs
  dsimp only at hs
  split at hs
  · rename_i x st'
    obtain rfl := ax_pick_go hs
    exact ss_go (st' := st') h hL (ss_tl hst)
  · cases hs
theorem st_gc (h : ss_H e0 ms mo φ σ τ) (hL : ss_l (sgZ σ) L) (hs : (match st with
    | .inr (.inl r) :: st => ax_gd (ax_wt st ≤ 8 ∧ (sgK σ r).1 = 23 ∧ 0 < (sgK σ r).2) nx L (aR ms :: st) σ
    | _ => none : Option SM).bind ax_pick = some sr) (hst : ss_l (sgZ σ) st) : ss_Q e0 ms mo φ σ τ sr (match st.map (ss_m φ) with
    | .inr (.inl r) :: st => ax_gd (ax_wt st ≤ 8 ∧ (sgK τ r).1 = 23 ∧ 0 < (sgK τ r).2) nx (L.map (ss_m φ)) (aR mo :: st) τ
    | _ => none) := by
  rcases st with _ | ⟨(v | (r | u)), st'⟩
  · cases hs
  · cases hs
  · have hr : r < sgZ σ := ss_hd hst
    obtain ⟨⟨p1, p2, p3⟩, rfl⟩ := ax_pick_gd hs
    obtain ⟨-, a2, -⟩ := ss_kd h hr p2 (by decide)
    have g := ss_go (nx := nx) (L' := L) (st' := aR ms :: st') h hL (ss_cons h.2.1.2.2.1 (ss_tl hst))
    have e : (aR ms :: st').map (ss_m φ) = aR mo :: st'.map (ss_m φ) := by
      show aR (φ ms) :: _ = _
      rw [h.1.2.2]
    rw [e] at g
    exact g.gd (show ax_wt (st'.map (ss_m φ)) ≤ 8 ∧ (sgK τ (φ r)).1 = 23 ∧ 0 < (sgK τ (φ r)).2 from ⟨by rw [ss_wt]; exact p1, by rw [a2]; exact p2, by rw [a2]; exact p3⟩)
  · cases hs
theorem st_th (h : ss_H e0 ms mo φ σ τ) (hs : (match st with
    | [] => some (.inl (.inr (.inr (.inr (a, thrC σ)))))
    | _ => none : Option SM).bind ax_pick = some sr) : ss_Q e0 ms mo φ σ τ sr (match st.map (ss_m φ) with
    | [] => some (.inl (.inr (.inr (.inr (a, thrC τ)))))
    | _ => none) := by
  rcases st with _ | ⟨v, st'⟩
  · obtain rfl := ax_pick_go hs
    obtain ⟨h1, h2⟩ := ss_th h
    exact ⟨_, thrC τ, rfl, h1, h2, trivial⟩
  · cases hs
theorem st_ob (h : ss_H e0 ms mo φ σ τ) (hL : ss_l (sgZ σ) L) (hs : (match st with
    | .inr (.inl r) :: st => ax_gd (ax_wt st ≤ 8 ∧ 0 < r) nx L st σ
    | _ => none : Option SM).bind ax_pick = some sr) (hst : ss_l (sgZ σ) st) : ss_Q e0 ms mo φ σ τ sr (match st.map (ss_m φ) with
    | .inr (.inl r) :: st => ax_gd (ax_wt st ≤ 8 ∧ 0 < r) nx (L.map (ss_m φ)) st τ
    | _ => none) := by
  rcases st with _ | ⟨(v | (r | u)), st'⟩
  · cases hs
  · cases hs
  · have hr : r < sgZ σ := ss_hd hst
    obtain ⟨⟨p1, p2⟩, rfl⟩ := ax_pick_gd hs
    exact (ss_go (st' := st') h hL (ss_tl hst)).gd (show ax_wt (st'.map (ss_m φ)) ≤ 8 ∧ 0 < φ r from ⟨by rw [ss_wt]; exact p1, Nat.pos_of_ne_zero fun z => by have := (ss_nz h hr).mp z; omega⟩)
  · cases hs
theorem ss_bif {c : Bool} {x z x' z' : Option SM} (h1 : c = true → x.bind ax_pick = some sr → ss_Q e0 ms mo φ σ τ sr x') (h2 : c = false → z.bind ax_pick = some sr → ss_Q e0 ms mo φ σ τ sr z') (hs : (bif c then x else z).bind ax_pick = some sr) : ss_Q e0 ms mo φ σ τ sr (bif c then x' else z') := by
  cases c
  · exact h2 rfl hs
  · exact h1 rfl hs
theorem ss_goR {r w : Nat} (h : ss_H e0 ms mo φ σ τ) (hL : ss_l (sgZ σ) L) (hst : ss_l (sgZ σ) st) (hr : r < sgZ σ) (e : φ r = w) : ss_Q e0 ms mo φ σ τ (.inl ((nx, L, aR r :: st), σ)) (some (.inl (.inl ((nx, L.map (ss_m φ), aR w :: st.map (ss_m φ)), τ)))) := by
  have g := ss_go (nx := nx) (L' := L) (st' := aR r :: st) h hL (ss_cons hr hst)
  have e : (aR r :: st).map (ss_m φ) = aR w :: st.map (ss_m φ) := by
    show aR (φ r) :: _ = _
    rw [e]
  rw [e] at g
  exact g
theorem ss_lt30 {x y : Nat} (h : Nat.blt x y = true) : x < y := Nat.blt_eq.mp h
theorem ss_sem (en : ax_En) (he : ss_e en = true) (h : ss_H e0 ms mo φ σ τ) (hL : ss_l (sgZ σ) L) (hst : ss_l (sgZ σ) st) (hs : (ax_sem e0 ms en L st σ).bind ax_pick = some sr) : ss_Q e0 ms mo φ σ τ sr (ax_sem e0 mo en (L.map (ss_m φ)) (st.map (ss_m φ)) τ) := by
  obtain ⟨i, nx, a, b, f, v⟩ := en
  cases i with
  | aconst_null => obtain rfl := ax_pick_go hs; exact ss_goR h hL hst h.2.1.1 h.1.1
  | iconst => obtain rfl := ax_pick_go hs; exact ss_go (st' := aI v :: st) h hL (ss_cons trivial hst)
  | bipush => obtain rfl := ax_pick_go hs; exact ss_go (st' := aI v :: st) h hL (ss_cons trivial hst)
  | sipush => obtain rfl := ax_pick_go hs; exact ss_go (st' := aI v :: st) h hL (ss_cons trivial hst)
  | lconst k => obtain rfl := ax_pick_go hs; exact ss_go (st' := aJ (Int64.ofNat (k : Nat)) :: st) h hL (ss_cons trivial hst)
  | ldc => exact ss_bif (fun _ hs => by obtain rfl := ax_pick_go hs; exact ss_goR h hL hst h.2.1.2.2.1 h.1.2.2) (fun _ hs => by obtain rfl := ax_pick_go hs; exact ss_go (st' := aI v :: st) h hL (ss_cons trivial hst)) hs
  | ldc_w => exact ss_bif (fun _ hs => by cases hs) (fun _ hs => by obtain rfl := ax_pick_go hs; exact ss_go (st' := aI v :: st) h hL (ss_cons trivial hst)) hs
  | iload_n => exact st_ld h hL hst hs
  | iload => exact st_ld h hL hst hs
  | aload_n => exact st_lda h hL hst hs
  | aload => exact st_lda h hL hst hs
  | istore_n => exact st_sto h hL hst hs
  | istore => exact st_sto h hL hst hs
  | astore_n => exact st_stoa h hL hst hs
  | astore => exact st_stoa h hL hst hs
  | iinc => exact st_inc h hL hst hs
  | iadd => exact st_bin h hL hst hs
  | isub => exact st_bin h hL hst hs
  | imul => exact st_bin h hL hst hs
  | iand => exact st_bin h hL hst hs
  | ior => exact st_bin h hL hst hs
  | ishl => exact st_bin h hL hst hs
  | ishr => exact st_bin h hL hst hs
  | iushr => exact st_bin h hL hst hs
  | idiv => exact st_dv h hL hst hs
  | irem => exact st_dv h hL hst hs
  | land => exact st_binJ h hL hst hs
  | lor => exact st_binJ h hL hst hs
  | lshl => exact st_shJ h hL hst hs
  | lushr => exact st_shJ h hL hst hs
  | goto => obtain rfl := ax_pick_go hs; exact ss_go h hL hst
  | ifnull => exact st_nul h hL hst hs
  | ifnonnull => exact st_nul h hL hst hs
  | getfield => exact st_get h hL hst (ss_lt30 he) hs
  | putfield => exact st_put h hL hst (ss_lt30 he) hs
  | getstatic => obtain rfl := ax_pick_go hs; exact ss_goR h hL hst h.2.1.2.1 h.1.2.1
  | iaload => exact st_ald h hL hst (ss_lt30 he) hs
  | baload => exact st_ald h hL hst (by decide) hs
  | laload => exact st_aldJ h hL hst (by decide) hs
  | aaload => exact st_aldR h hL hst (ss_lt30 he) hs
  | iastore => exact st_ast h hL hst hs
  | bastore => exact st_astZ h hL hst hs
  | lastore => exact st_astJ h hL hst hs
  | aastore => exact st_astR h hL hst (ss_lt30 he) hs
  | arraylength => exact st_alen h hL hst hs
  | new => exact ss_bif (fun _ hs => st_th h hs) (fun _ hs => by obtain rfl := ax_pick_go hs; exact ss_new h hL hst) hs
  | newarray => exact st_mka h hL hst hs
  | anewarray => exact st_mka h hL hst hs
  | checkcast => exact st_cast h hL hst (ss_lt30 he) hs
  | invokestatic => exact ss_bif (fun _ hs => st_copy h hL hst hs) (fun _ hs => ss_bif (fun _ hs => st_mm h hL hst hs) (fun _ hs => ss_bif (fun _ hs => st_mm h hL hst hs) (fun _ hs => st_call h hL hst (fun z => absurd z (by decide)) hs) hs) hs) hs
  | i2l => exact st_i2l h hL hst hs
  | lcmp => exact st_lcmp h hL hst hs
  | dup => exact st_dup h hL hst hs
  | dup2 => exact st_dup2 h hL hst hs
  | dup_x1 => exact st_dupx h hL hst hs
  | pop => exact st_pop h hL hst hs
  | return_ => exact st_ret h hst hs
  | areturn => exact st_aret h hst hs
  | tableswitch => exact st_sw h hL hst hs
  | ifCond c o => cases c <;> exact st_if h hL hst hs
  | if_icmp c o => cases c <;> exact st_if2 h hL hst hs
  | if_acmp c o => cases c <;> first | exact st_acmp h hL hst hs | (cases hs)
  | invokevirtual j => exact ss_bif (fun _ hs => st_gc h hL hs hst) (fun q hs => st_call h hL hst (fun _ => by
      have he : (Nat.beq f 3 || Nat.blt (ax_ck a) 30) = true := he
      rw [q] at he
      exact ss_lt30 he) hs) hs
  | invokespecial j => exact ss_bif (fun _ hs => st_ob h hL hs hst) (fun _ hs => st_call h hL hst (fun z => absurd z (by decide)) hs) hs
  | ireturn => exact st_iret h hst hs
  | _ => cases hs
theorem ss_entry {z y : Nat} {as : List AV} (h : ss_l z as) : ss_l z (ax_entry y as) := fun v hv => by
  rcases List.mem_append.mp hv with hv | hv
  · exact h v hv
  · rw [(List.mem_replicate.mp hv).2]; exact trivial
theorem ss_entry_m (φ : Nat → Nat) (y : Nat) (as : List AV) : (ax_entry y as).map (ss_m φ) = ax_entry y (as.map (ss_m φ)) := by
  unfold ax_entry
  rw [List.map_append, List.map_replicate, List.length_map]
  rfl
theorem ss_push {z : Nat} {v : AV} (hv : ss_v z v) (hst : ss_l z st) : ss_l z (ax_push v st) := by
  rcases v with v | (v | v)
  · exact ss_cons hv hst
  · exact ss_cons hv hst
  · exact hst
theorem ss_push_m (φ : Nat → Nat) (v : AV) (st : List AV) : (ax_push v st).map (ss_m φ) = ax_push (ss_m φ v) (st.map (ss_m φ)) := by
  rcases v with (v | v) | (v | v) <;> rfl
def ss_r (φ : Nat → Nat) (r : Res) : Res := match r with
  | .inl v => .inl (ss_m φ v)
  | .inr E => .inr E
def ss_rok (z : Nat) (r : Res) : Prop := match r with
  | .inl v => ss_v z v
  | .inr _ => True
/-- a run in the small heap is one in the large heap -/
theorem ss_ex (hck : ∀ y pc en, ax_code y pc = some en → ss_e en = true) : ∀ (n d y : Nat) (fr : FRM) (σ : SG) (res : Res) (σ' : SG), ax_ex e0 ms n d y fr σ = some (res, σ') → ∀ (φ : Nat → Nat) (τ : SG), ss_H e0 ms mo φ σ τ → ss_l (sgZ σ) fr.2.1 → ss_l (sgZ σ) fr.2.2 → ∃ (φ' : Nat → Nat) (τ' : SG), ax_ex e0 mo n d y (ss_f φ fr) τ = some (ss_r φ' res, τ') ∧ ss_H e0 ms mo φ' σ' τ' ∧ ss_T e0 φ σ τ φ' σ' τ' ∧ ss_rok (sgZ σ') res := by
  intro n
  induction n with
  | zero => intro d y fr σ res σ' h; cases h
  | succ n ih =>
    intro d y fr σ res σ' hx φ τ h hL hst
    rw [ax_ex] at hx ⊢
    cases hm : (ax_at e0 ms y fr σ).bind ax_pick with
    | none => rw [hm] at hx; cases hx
    | some sr =>
      have hq : ss_Q e0 ms mo φ σ τ sr (ax_at e0 mo y (ss_f φ fr) τ) := by
        unfold ax_at at hm ⊢
        cases hc : ax_code y fr.1 with
        | none => rw [hc] at hm; cases hm
        | some en =>
          rw [hc] at hm
          show ss_Q e0 ms mo φ σ τ sr (match ax_code y fr.1 with
            | none => none
            | some en => ax_sem e0 mo en (fr.2.1.map (ss_m φ)) (fr.2.2.map (ss_m φ)) τ)
          rw [hc]
          exact ss_sem en (hck y _ en hc) h hL hst hm
      obtain ⟨φ1, τ1, e1, h1, t1, ok1⟩ := hq
      rw [hm] at hx
      rw [e1]
      rcases sr with ⟨fr1, σ1⟩ | ⟨y1, as, fr1, σ1⟩ | ⟨v, σ1⟩ | ⟨E, σ1⟩
      · obtain ⟨φ2, τ2, e2, h2, t2, ok2⟩ := ih _ _ _ _ _ _ hx φ1 τ1 h1 ok1.1 ok1.2
        exact ⟨φ2, τ2, e2, h2, t1.trans t2, ok2⟩
      · cases d with
        | zero => cases hx
        | succ d' =>
          dsimp only at hx
          cases hc : ax_ex e0 ms n d' y1 (0, ax_entry y1 as, []) σ1 with
          | none => rw [hc] at hx; cases hx
          | some r =>
            obtain ⟨res2, σ2⟩ := r
            obtain ⟨φ2, τ2, e2, h2, t2, ok2⟩ := ih _ _ _ _ _ _ hc φ1 τ1 h1 (ss_entry ok1.1) (fun v hv => absurd hv List.not_mem_nil)
            have e2 : ax_ex e0 mo n d' y1 (0, ax_entry y1 (as.map (ss_m φ1)), []) τ1 = some (ss_r φ2 res2, τ2) := by
              rw [← ss_entry_m]; exact e2
            rw [hc] at hx
            show ∃ (φ' : Nat → Nat) (τ' : SG), (match ax_ex e0 mo n d' y1 (0, ax_entry y1 (as.map (ss_m φ1)), []) τ1 with
              | none => none
              | some (.inl v, σ2) => ax_ex e0 mo n (d' + 1) y (fr1.1, fr1.2.1.map (ss_m φ1), ax_push v (fr1.2.2.map (ss_m φ1))) σ2
              | some (.inr E, σ2) => match ax_h y fr.1 E with
                | none => some (.inr E, σ2)
                | some w => some (.inl (aI w), σ2)) = some (ss_r φ' res, τ') ∧ _
            rw [e2]
            have zz : sgZ σ1 ≤ sgZ σ2 := t2.1.2.2.1
            rcases res2 with v | E
            · obtain ⟨φ3, τ3, e3, h3, t3, ok3⟩ := ih _ _ _ _ _ _ hx φ2 τ2 h2 (ok1.2.1.le zz) (ss_push ok2 (ok1.2.2.le zz))
              refine ⟨φ3, τ3, ?_, h3, t1.trans (t2.trans t3), ok3⟩
              rw [← e3]
              show ax_ex e0 mo n (d' + 1) y (fr1.1, fr1.2.1.map (ss_m φ1), ax_push (ss_m φ2 v) (fr1.2.2.map (ss_m φ1))) τ2 = ax_ex e0 mo n (d' + 1) y (fr1.1, fr1.2.1.map (ss_m φ2), (ax_push v fr1.2.2).map (ss_m φ2)) τ2
              rw [ss_push_m, ss_l_up t2.2.1 ok1.2.1, ss_l_up t2.2.1 ok1.2.2]
            · dsimp only at hx
              show ∃ (φ' : Nat → Nat) (τ' : SG), (match ax_h y fr.1 E with
                | none => some (.inr E, τ2)
                | some w => some (.inl (aI w), τ2)) = some (ss_r φ' res, τ') ∧ _
              cases hh : ax_h y fr.1 E with
              | none =>
                rw [hh] at hx
                cases hx
                exact ⟨φ2, τ2, rfl, h2, t1.trans t2, trivial⟩
              | some w =>
                rw [hh] at hx
                cases hx
                exact ⟨φ2, τ2, rfl, h2, t1.trans t2, trivial⟩
      · cases hx
        exact ⟨φ1, τ1, rfl, h1, t1, ok1⟩
      · dsimp only at hx
        show ∃ (φ' : Nat → Nat) (τ' : SG), (bif Nat.ble 6 d then some (.inr E, τ1) else none) = some (ss_r φ' res, τ') ∧ _
        cases q : Nat.ble 6 d with
        | false => rw [q] at hx; cases hx
        | true =>
          rw [q] at hx
          cases hx
          exact ⟨φ1, τ1, rfl, h1, t1, trivial⟩
theorem ss_wp (hck : ∀ y pc en, ax_code y pc = some en → ss_e en = true) {d y : Nat} {as : List AV} {Q : Res → SG → Prop} (h : ss_H e0 ms mo φ σ τ) (has : ss_l (sgZ σ) as) (c : ax_wp e0 ms d y (0, ax_entry y as, []) σ Q) : ax_wp e0 mo d y (0, ax_entry y (as.map (ss_m φ)), []) τ (fun r' τ' => ∃ (φ' : Nat → Nat) (r : Res) (σ' : SG), Q r σ' ∧ r' = ss_r φ' r ∧ ss_H e0 ms mo φ' σ' τ' ∧ ss_T e0 φ σ τ φ' σ' τ' ∧ ss_rok (sgZ σ') r) := by
  obtain ⟨n, r, σ', h1, h2⟩ := c
  obtain ⟨φ', τ', e, h3, t3, ok⟩ := ss_ex (mo := mo) hck _ _ _ _ _ _ _ h1 φ τ h (ss_entry has) (fun v hv => absurd hv List.not_mem_nil)
  refine ⟨n, ss_r φ' r, τ', ?_, φ', r, σ', h2, rfl, h3, t3, ok⟩
  rw [← ss_entry_m]
  exact e
end
end AXSO
