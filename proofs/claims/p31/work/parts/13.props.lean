/-! What a step leaves alone; calls. Printed by wip/whole/gen13.py. -/
section AXP
/-- the heap only grows; the locals stay as many -/
def ax_up (L : List AV) (σ : SG) (sr : SR) : Prop := match sr with
  | .inl (fr, σ1) => sgZ σ ≤ sgZ σ1 ∧ sgU σ ≤ sgU σ1 ∧ fr.2.1.length = L.length
  | .inr (.inl (_, _, fr, σ1)) => σ1 = σ ∧ fr.2.1.length = L.length
  | .inr (.inr (.inl (_, σ1))) => σ1 = σ
  | .inr (.inr (.inr (_, σ1))) => σ1 = thrC σ
def ax_all (P : SR → Prop) (m : Option SM) : Prop := match m with
  | none => True
  | some (.inl s) => P s
  | some (.inr (.inl (_, s))) => P s
  | some (.inr (.inr (_, s, t))) => P s ∧ P t
theorem ax_all_pick {P : SR → Prop} {m : Option SM} {sr : SR} (h : ax_all P m) (hs : m.bind ax_pick = some sr) : P sr := by
  rcases m with _ | m
  · cases hs
  rcases m with s | ⟨p, s⟩ | ⟨p, s, t⟩
  · rw [ax_pick_go hs]; exact h
  · rw [(ax_pick_gd hs).2]; exact h
  · rcases ax_pick_br hs with ⟨-, e⟩ | ⟨-, e⟩
    · rw [e]; exact h.1
    · rw [e]; exact h.2
section
variable {L st : List AV} {σ : SG} {nx a b f t n : Nat}
theorem up_same : sgZ σ ≤ sgZ σ ∧ sgU σ ≤ sgU σ ∧ L.length = L.length := ⟨Nat.le_refl _, Nat.le_refl _, rfl⟩
theorem up_set {v : AV} : sgZ σ ≤ sgZ σ ∧ sgU σ ≤ sgU σ ∧ (L.set a v).length = L.length := ⟨Nat.le_refl _, Nat.le_refl _, List.length_set⟩
theorem up_mk {k : Nat} : sgZ σ ≤ sgZ (mkC σ k n) ∧ sgU σ ≤ sgU (mkC σ k n) ∧ L.length = L.length := ⟨Nat.le_add_right _ _, Nat.le_add_right _ _, rfl⟩
theorem au_ld  : ax_all (ax_up L σ) (ax_ld nx a L st σ) := by
  unfold ax_ld
  split
  all_goals first | exact trivial | exact up_same | exact up_set | exact up_mk | exact ⟨up_same, up_same⟩ | skip
theorem au_lda  : ax_all (ax_up L σ) (ax_lda nx a L st σ) := by
  unfold ax_lda
  split
  all_goals first | exact trivial | exact up_same | exact up_set | exact up_mk | exact ⟨up_same, up_same⟩ | skip
theorem au_sto : ax_all (ax_up L σ) (ax_sto nx a L st σ) := by
  unfold ax_sto
  split
  · cases Nat.blt a L.length
    · exact trivial
    · exact up_set
  · exact trivial
theorem au_stoa : ax_all (ax_up L σ) (ax_stoa nx a L st σ) := by
  unfold ax_stoa
  split
  · cases Nat.blt a L.length
    · exact trivial
    · exact up_set
  · exact trivial
theorem au_inc {v : Int32} : ax_all (ax_up L σ) (ax_inc nx a v L st σ) := by
  unfold ax_inc
  split
  all_goals first | exact trivial | exact up_same | exact up_set | exact up_mk | exact ⟨up_same, up_same⟩ | skip
theorem au_bin {g : Int32 → Int32 → Int32} : ax_all (ax_up L σ) (ax_bin g nx L st σ) := by
  unfold ax_bin
  split
  all_goals first | exact trivial | exact up_same | exact up_set | exact up_mk | exact ⟨up_same, up_same⟩ | skip
theorem au_dv {g : Int32 → Int32 → Int32} : ax_all (ax_up L σ) (ax_dv g nx L st σ) := by
  unfold ax_dv
  split
  all_goals first | exact trivial | exact up_same | exact up_set | exact up_mk | exact ⟨up_same, up_same⟩ | skip
theorem au_mm {g : Int32 → Int32 → Int32} : ax_all (ax_up L σ) (ax_mm g nx L st σ) := by
  unfold ax_mm
  split
  all_goals first | exact trivial | exact up_same | exact up_set | exact up_mk | exact ⟨up_same, up_same⟩ | skip
theorem au_binJ {g : Int64 → Int64 → Int64} : ax_all (ax_up L σ) (ax_binJ g nx L st σ) := by
  unfold ax_binJ
  split
  all_goals first | exact trivial | exact up_same | exact up_set | exact up_mk | exact ⟨up_same, up_same⟩ | skip
theorem au_shJ {g : Int64 → Int32 → Int64} : ax_all (ax_up L σ) (ax_shJ g nx L st σ) := by
  unfold ax_shJ
  split
  all_goals first | exact trivial | exact up_same | exact up_set | exact up_mk | exact ⟨up_same, up_same⟩ | skip
theorem au_if {g : Int32 → Prop} : ax_all (ax_up L σ) (ax_if g t n L st σ) := by
  unfold ax_if
  split
  all_goals first | exact trivial | exact up_same | exact up_set | exact up_mk | exact ⟨up_same, up_same⟩ | skip
theorem au_if2 {g : Int32 → Int32 → Prop} : ax_all (ax_up L σ) (ax_if2 g t n L st σ) := by
  unfold ax_if2
  split
  all_goals first | exact trivial | exact up_same | exact up_set | exact up_mk | exact ⟨up_same, up_same⟩ | skip
theorem au_nul  : ax_all (ax_up L σ) (ax_nul t n L st σ) := by
  unfold ax_nul
  split
  all_goals first | exact trivial | exact up_same | exact up_set | exact up_mk | exact ⟨up_same, up_same⟩ | skip
theorem au_acmp  : ax_all (ax_up L σ) (ax_acmp t L st σ) := by
  unfold ax_acmp
  split
  all_goals first | exact trivial | exact up_same | exact up_set | exact up_mk | exact ⟨up_same, up_same⟩ | skip
theorem au_get  : ax_all (ax_up L σ) (ax_get nx a b f L st σ) := by
  unfold ax_get
  split
  all_goals first | exact trivial | exact up_same | exact up_set | exact up_mk | exact ⟨up_same, up_same⟩ | skip
theorem au_put : ax_all (ax_up L σ) (ax_put nx a b f L st σ) := by
  unfold ax_put
  split <;> split <;> first | exact trivial | exact up_same
theorem au_ald  : ax_all (ax_up L σ) (ax_ald nx a L st σ) := by
  unfold ax_ald
  split
  all_goals first | exact trivial | exact up_same | exact up_set | exact up_mk | exact ⟨up_same, up_same⟩ | skip
theorem au_aldJ  : ax_all (ax_up L σ) (ax_aldJ nx a L st σ) := by
  unfold ax_aldJ
  split
  all_goals first | exact trivial | exact up_same | exact up_set | exact up_mk | exact ⟨up_same, up_same⟩ | skip
theorem au_aldR  : ax_all (ax_up L σ) (ax_aldR nx a L st σ) := by
  unfold ax_aldR
  split
  all_goals first | exact trivial | exact up_same | exact up_set | exact up_mk | exact ⟨up_same, up_same⟩ | skip
theorem au_astR  : ax_all (ax_up L σ) (ax_astR nx a L st σ) := by
  unfold ax_astR
  split
  all_goals first | exact trivial | exact up_same | exact up_set | exact up_mk | exact ⟨up_same, up_same⟩ | skip
theorem au_ast  : ax_all (ax_up L σ) (ax_ast nx L st σ) := by
  unfold ax_ast
  split
  all_goals first | exact trivial | exact up_same | exact up_set | exact up_mk | exact ⟨up_same, up_same⟩ | skip
theorem au_astZ  : ax_all (ax_up L σ) (ax_astZ nx L st σ) := by
  unfold ax_astZ
  split
  all_goals first | exact trivial | exact up_same | exact up_set | exact up_mk | exact ⟨up_same, up_same⟩ | skip
theorem au_astJ  : ax_all (ax_up L σ) (ax_astJ nx L st σ) := by
  unfold ax_astJ
  split
  all_goals first | exact trivial | exact up_same | exact up_set | exact up_mk | exact ⟨up_same, up_same⟩ | skip
theorem au_alen  : ax_all (ax_up L σ) (ax_alen nx L st σ) := by
  unfold ax_alen
  split
  all_goals first | exact trivial | exact up_same | exact up_set | exact up_mk | exact ⟨up_same, up_same⟩ | skip
theorem au_copy  : ax_all (ax_up L σ) (ax_copy nx L st σ) := by
  unfold ax_copy
  split
  all_goals first | exact trivial | exact up_same | exact up_set | exact up_mk | exact ⟨up_same, up_same⟩ | skip
theorem au_mka  : ax_all (ax_up L σ) (ax_mka nx a L st σ) := by
  unfold ax_mka
  split
  all_goals first | exact trivial | exact up_same | exact up_set | exact up_mk | exact ⟨up_same, up_same⟩ | skip
theorem au_cast  : ax_all (ax_up L σ) (ax_cast nx a L st σ) := by
  unfold ax_cast
  split
  all_goals first | exact trivial | exact up_same | exact up_set | exact up_mk | exact ⟨up_same, up_same⟩ | skip
theorem au_call {y n k : Nat} : ax_all (ax_up L σ) (ax_call nx y n k L st σ) := by
  unfold ax_call
  generalize (Nat.ble (n + (bif Nat.beq k 1 then 0 else 1)) st.length && Nat.ble (ax_wt (st.drop (n + (bif Nat.beq k 1 then 0 else 1)))) 8 && Nat.ble (n + (bif Nat.beq k 1 then 0 else 1)) (ax_L y) && (st.take n).all (fun v => Nat.beq (ax_cat v) 1)) = z
  cases z
  · exact trivial
  · show ax_all _ (match k with
      | 1 => _
      | _ => _)
    split
    · exact ⟨rfl, rfl⟩
    · split
      · exact ⟨rfl, rfl⟩
      · exact trivial
theorem au_bif {P : SR → Prop} {c : Bool} {x z : Option SM} (h1 : ax_all P x) (h2 : ax_all P z) : ax_all P (bif c then x else z) := by
  cases c
  · exact h2
  · exact h1
theorem ax_sem_up_i2l {e0 mo : Nat} {v : Int32} : ax_all (ax_up L σ) (ax_sem e0 mo (.i2l, nx, a, b, f, v) L st σ) := by
  unfold ax_sem
  dsimp only
  split
  all_goals first | exact trivial | exact up_same | exact rfl | exact au_bif up_same trivial | exact au_bif rfl rfl
theorem ax_sem_up_lcmp {e0 mo : Nat} {v : Int32} : ax_all (ax_up L σ) (ax_sem e0 mo (.lcmp, nx, a, b, f, v) L st σ) := by
  unfold ax_sem
  dsimp only
  split
  all_goals first | exact trivial | exact up_same | exact rfl | exact au_bif up_same trivial | exact au_bif rfl rfl
theorem ax_sem_up_dup {e0 mo : Nat} {v : Int32} : ax_all (ax_up L σ) (ax_sem e0 mo (.dup, nx, a, b, f, v) L st σ) := by
  unfold ax_sem
  dsimp only
  split
  all_goals first | exact trivial | exact up_same | exact rfl | exact au_bif up_same trivial | exact au_bif rfl rfl
theorem ax_sem_up_dup2 {e0 mo : Nat} {v : Int32} : ax_all (ax_up L σ) (ax_sem e0 mo (.dup2, nx, a, b, f, v) L st σ) := by
  unfold ax_sem
  dsimp only
  split
  all_goals first | exact trivial | exact up_same | exact rfl | exact au_bif up_same trivial | exact au_bif rfl rfl
theorem ax_sem_up_dup_x1 {e0 mo : Nat} {v : Int32} : ax_all (ax_up L σ) (ax_sem e0 mo (.dup_x1, nx, a, b, f, v) L st σ) := by
  unfold ax_sem
  dsimp only
  split
  all_goals first | exact trivial | exact up_same | exact rfl | exact au_bif up_same trivial | exact au_bif rfl rfl
theorem ax_sem_up_pop {e0 mo : Nat} {v : Int32} : ax_all (ax_up L σ) (ax_sem e0 mo (.pop, nx, a, b, f, v) L st σ) := by
  unfold ax_sem
  dsimp only
  split
  all_goals first | exact trivial | exact up_same | exact rfl | exact au_bif up_same trivial | exact au_bif rfl rfl
theorem ax_sem_up_return_ {e0 mo : Nat} {v : Int32} : ax_all (ax_up L σ) (ax_sem e0 mo (.return_, nx, a, b, f, v) L st σ) := by
  unfold ax_sem
  dsimp only
  split
  all_goals first | exact trivial | exact up_same | exact rfl | exact au_bif up_same trivial | exact au_bif rfl rfl
theorem ax_sem_up_areturn {e0 mo : Nat} {v : Int32} : ax_all (ax_up L σ) (ax_sem e0 mo (.areturn, nx, a, b, f, v) L st σ) := by
  unfold ax_sem
  dsimp only
  split
  all_goals first | exact trivial | exact up_same | exact rfl | exact au_bif up_same trivial | exact au_bif rfl rfl
theorem ax_sem_up_ireturn {e0 mo : Nat} {v : Int32} : ax_all (ax_up L σ) (ax_sem e0 mo (.ireturn, nx, a, b, f, v) L st σ) := by
  unfold ax_sem
  dsimp only
  split
  all_goals first | exact trivial | exact up_same | exact rfl | exact au_bif up_same trivial | exact au_bif rfl rfl
theorem ax_sem_up_tableswitch {e0 mo : Nat} {v : Int32} {dd lo hi : Int} {os : Array Int} : ax_all (ax_up L σ) (ax_sem e0 mo (.tableswitch dd lo hi os, nx, a, b, f, v) L st σ) := by
  unfold ax_sem
  dsimp only
  split
  all_goals first | exact trivial | exact up_same | exact rfl | exact au_bif up_same trivial | exact au_bif rfl rfl
theorem ax_sem_up_gc {mo : Nat} : ax_all (ax_up L σ) (match st with
    | .inr (.inl r) :: st => ax_gd (ax_wt st ≤ 8 ∧ (sgK σ r).1 = 23 ∧ 0 < (sgK σ r).2) nx L (aR mo :: st) σ
    | _ => none) := by
  split <;> first | exact trivial | exact up_same
theorem ax_sem_up_th : ax_all (ax_up L σ) (match st with
    | [] => some (.inl (.inr (.inr (.inr (a, thrC σ)))))
    | _ => none) := by
  split <;> first | exact trivial | exact rfl
theorem ax_sem_up_ob : ax_all (ax_up L σ) (match st with
    | .inr (.inl r) :: st => ax_gd (ax_wt st ≤ 8 ∧ 0 < r) nx L st σ
    | _ => none) := by
  split <;> first | exact trivial | exact up_same
theorem ax_sem_up (e0 mo : Nat) (en : ax_En) (L st : List AV) (σ : SG) : ax_all (ax_up L σ) (ax_sem e0 mo en L st σ) := by
  obtain ⟨i, nx, a, b, f, v⟩ := en
  cases i with
  | aconst_null => exact up_same
  | iconst => exact up_same
  | bipush => exact up_same
  | sipush => exact up_same
  | lconst => exact up_same
  | ldc => exact au_bif up_same up_same
  | ldc_w => exact au_bif trivial up_same
  | iload_n => exact au_ld
  | iload => exact au_ld
  | aload_n => exact au_lda
  | aload => exact au_lda
  | istore_n => exact au_sto
  | istore => exact au_sto
  | astore_n => exact au_stoa
  | astore => exact au_stoa
  | iinc => exact au_inc
  | iadd => exact au_bin
  | isub => exact au_bin
  | imul => exact au_bin
  | iand => exact au_bin
  | ior => exact au_bin
  | ishl => exact au_bin
  | ishr => exact au_bin
  | iushr => exact au_bin
  | idiv => exact au_dv
  | irem => exact au_dv
  | land => exact au_binJ
  | lor => exact au_binJ
  | lshl => exact au_shJ
  | lushr => exact au_shJ
  | goto => exact up_same
  | ifnull => exact au_nul
  | ifnonnull => exact au_nul
  | getfield => exact au_get
  | putfield => exact au_put
  | getstatic => exact up_same
  | iaload => exact au_ald
  | baload => exact au_ald
  | laload => exact au_aldJ
  | aaload => exact au_aldR
  | iastore => exact au_ast
  | bastore => exact au_astZ
  | lastore => exact au_astJ
  | aastore => exact au_astR
  | arraylength => exact au_alen
  | new => exact au_bif ax_sem_up_th up_mk
  | newarray => exact au_mka
  | anewarray => exact au_mka
  | checkcast => exact au_cast
  | invokestatic => exact au_bif au_copy (au_bif au_mm (au_bif au_mm au_call))
  | i2l => exact ax_sem_up_i2l
  | lcmp => exact ax_sem_up_lcmp
  | dup => exact ax_sem_up_dup
  | dup2 => exact ax_sem_up_dup2
  | dup_x1 => exact ax_sem_up_dup_x1
  | pop => exact ax_sem_up_pop
  | return_ => exact ax_sem_up_return_
  | areturn => exact ax_sem_up_areturn
  | tableswitch => exact ax_sem_up_tableswitch
  | ifCond c o => cases c <;> exact au_if
  | if_icmp c o => cases c <;> exact au_if2
  | if_acmp c o => cases c <;> exact au_acmp
  | invokevirtual j => exact au_bif ax_sem_up_gc au_call
  | invokespecial j => exact au_bif ax_sem_up_ob au_call
  | ireturn => exact ax_sem_up_ireturn
  | _ => exact trivial
end
end AXP
