/-! The class: push and the constructor. -/
section AXRY
section
variable {e0 mo : Nat} {σ σ' σ1 : SG} {x : Nat} {L : LY} {A A' : MS} {r k j p w : Nat}
theorem ct_41 (h : ax_rc e0 σ x L A) (hJJ : mJJ A) {t : Nat} (hT : mTn A t) (he0 : sgK σ e0 = (23, 0)) (b u v z : Int32) : ax_wp e0 mo 9 41 (0, ax_entry 41 [aR x, aI b, aI u, aI v, aI z], []) σ (cl_po e0 σ x L [0, 1, 2] (oPush A b u v z)) := by
  obtain ⟨f0, f1, f2, -, -, -, -, -, -⟩ := xf h
  have hI := hJJ.1.1
  have hN := hI.1.1
  have hR := hI.1.2
  have li0 := h.2.1.1
  have li1 := h.2.1.2.1
  unfold oPush
  have no : ∀ o : OC, o = ((1, 0), A) → cl_po e0 σ x L [0, 1, 2] o (.inr 0) (thrC σ) := fun o e => by
    subst e; exact ⟨Nat.le_refl 1, rfl, rfl⟩
  have no2 : ∀ o : OC, o = ((2, 0), A) → cl_po e0 σ x L [0, 1, 2] o (.inr 1) (thrC σ) := fun o e => by
    subst e; exact ⟨Nat.le_succ 1, rfl, rfl⟩
  have no3 : ∀ o : OC, o = ((3, 0), A) → cl_po e0 σ x L [0, 1, 2] o (.inr 2) (thrC σ) := fun o e => by
    subst e; exact ⟨Nat.succ_le_succ (Nat.zero_le 2), rfl, rfl⟩
  refine sg_41_0 (d := 8) ⟨fun y => ⟨by decide, no _ ?_⟩, fun y => ⟨fun y2 => ax_use0 (ct_70 u) rfl ?_, fun y2 => ⟨by decide, no _ ?_⟩⟩⟩
  · rw [inB_neg (n := 4) (by decide) y]; rfl
  · have eb : inB b 4 = true := inB_lt (n := 4) (by decide) y y2
    rw [eb]
    refine sg_41_23 (d := 8) ⟨fun q => ⟨by decide, no2 _ ?_⟩, fun q => ax_use0 (ct_70 v) rfl ?_⟩
    · rw [bI0 q]; rfl
    have eu := bI1 q
    rw [eu]
    refine sg_41_30 (d := 8) ⟨fun q => ⟨by decide, no2 _ ?_⟩, fun q => ax_use0 (ct_70 z) rfl ?_⟩
    · rw [bI0 q]; rfl
    have ev := bI1 q
    rw [ev]
    refine sg_41_38 (d := 8) ⟨fun q => ⟨by decide, no2 _ ?_⟩, fun q => ⟨ax_kd f0, ?_⟩⟩
    · rw [bI0 q]; rfl
    have ez := bI1 q
    rw [ez, f1]
    refine ⟨ax_kd li0.1, ax_use0 (ct_158 li0) rfl ?_⟩
    have thr : pushB A = false → cl_po e0 σ x L [0, 1, 2] (bif true then (bif true && true && true then (bif pushB A then ((0, nI (mR A)), mPush A b.toNatClampNeg u.toNatClampNeg v.toNatClampNeg z.toNatClampNeg) else ((3, 0), A)) else ((2, 0), A)) else ((1, 0), A)) (.inr 2) (thrC σ) := fun e => by
      rw [e]; exact no3 _ rfl
    by_cases n0 : mN A = 0
    · rw [if_pos n0]
      refine sg_41_58 (d := 8) ⟨fun q => absurd q (by decide), fun _ => ⟨by decide, thr ?_⟩⟩
      unfold pushB; rw [n0]; rfl
    rw [if_neg n0]
    refine sg_41_58 (d := 8) ⟨fun _ => ⟨ax_kd f0, ?_⟩, fun q => absurd rfl q⟩
    rw [f2]
    refine ⟨ax_kd li1.1, ax_use0 (ct_157 li1) rfl ?_⟩
    refine sg_41_68 (d := 8) (pk_lt (mR A) 80 (fun c => ⟨ax_kd f0, ax_use0 (ct_71 h hI) rfl ?_⟩) (fun c => ⟨by decide, thr ?_⟩))
    · have hgl := mGo_le hI
      refine sg_41_77 (d := 8) (pk_lt (mGo A) 6 (fun d => ⟨ax_kd f0, ?_⟩) (fun d => ⟨by decide, thr ?_⟩))
      · have eP : pushB A = true := by
          unfold pushB
          rw [Nat.blt_eq.mpr (show 0 < mN A by omega), Nat.blt_eq.mpr d, Nat.blt_eq.mpr c]
          rfl
        rw [eP]
        obtain ⟨b, hb, rfl⟩ := inB_yes eb (by decide)
        obtain ⟨x1, hx1, rfl⟩ := inI_yes eu
        obtain ⟨y1, hy1, rfl⟩ := inI_yes ev
        obtain ⟨z1, hz1, rfl⟩ := inI_yes ez
        have cb : (nI b).toNatClampNeg = b := nI_clamp (by omega)
        have cx : (nI x1).toNatClampNeg = x1 := nI_clamp (by omega)
        have cy : (nI y1).toNatClampNeg = y1 := nI_clamp (by omega)
        have cz : (nI z1).toNatClampNeg = z1 := nI_clamp (by omega)
        rw [cb, cx, cy, cz]
        obtain ⟨p1, p2, p3, p4, p5⟩ := mPush_ok hJJ hT eP hb hx1 hy1 hz1
        obtain ⟨o1, o2, o3, o4⟩ := mOld_ok hJJ hT b (mR A) (Nat.le_refl _)
        have oN : mN (mOld A b (mR A)) = mN A := o4 0 0 0 0 (by decide) (by decide) (by decide)
        refine ax_use (ct_79 h hJJ hT hb) rfl fun w σ2 hw => ?_
        obtain ⟨rfl, h2, f2'⟩ := hw
        refine push_run (B := mOld A b (mR A)) (b := b) (x1 := x1) (y1 := y1) (z1 := z1) h2 o1 p1 ?_ (by rw [oN]; omega) (by rw [p3]; exact c) f2' ?_ rfl rfl rfl rfl
        · rw [f2'.1.2.2.1 _ h.2.2.2.2.2.2.2.2.1.2.1]; exact he0
        · show ((0, nI (mR A)), mPush A b x1 y1 z1) = _
          rw [p3]
          rfl
      · unfold pushB
        rw [not_true_b (b := Nat.blt (mGo A) 6) (fun q => by have := Nat.blt_eq.mp q; omega), Bool.and_false]
        rfl
    · unfold pushB
      rw [not_true_b (b := Nat.blt (mR A) 80) (fun q => by have := Nat.blt_eq.mp q; omega), Bool.and_false]
  · rw [inB_ge (n := 4) (by decide) y2]; rfl
/-- the state at the start -/
def mS0 : MS := (fun _ _ _ _ => 0, [], [])
/-- an empty list, new -/
theorem ct_154n (he0 : sgK σ e0 = (23, 0)) (ze : e0 < sgZ σ) (hz : 0 < sgZ σ) (f : Nat → Nat) : ax_ok e0 mo 2 154 [aR (sgZ σ)] (mkC σ 8 3) (fun w σ2 => w = aU ∧ ax_li σ2 (sgZ σ) e0 0 0 f ∧ ax_F (fun _ _ _ => False) σ σ2 ∧ sgZ σ2 = sgZ σ + 1 ∧ sgU σ2 = sgU σ + 3) := by
  have km : sgK (mkC σ 8 3) (sgZ σ) = (8, 3) := by rw [gK_mk]; exact if_pos rfl
  refine ax_okw (ct_154 km hz) fun w σ2 hw => ?_
  obtain ⟨rfl, hσ2⟩ := hw
  have nz : ∀ P : Prop, sgZ σ < sgZ σ → P := fun P z => absurd z (Nat.lt_irrefl _)
  have F : ax_F (fun _ _ _ => False) σ σ2 := by
    rw [hσ2]
    exact (((ax_F.refl _ _).mkC).putI fun z => nz _ z).putR fun z => nz _ z
  refine ⟨rfl, ⟨?_, ?_, ?_, ?_, Nat.le_refl _, by decide, ?_, ?_, fun i hi => absurd hi (Nat.not_lt_zero i), fun i a c => absurd c (Nat.not_lt_zero i)⟩, F, ?_, ?_⟩
  · rw [hσ2]; exact km
  · rw [hσ2]; simp only [gI_putI, gI_putR, gI_mk]; simp; rfl
  · rw [hσ2]; simp only [gR_putI, gR_putR, gR_mk]; simp
  · rw [F.2.2.1 _ ze]; exact he0
  · rw [hσ2]; exact Nat.lt_succ_self _
  · exact Nat.lt_of_lt_of_le ze F.1
  · rw [hσ2]; rfl
  · rw [hσ2]; rfl
end
end AXRY
