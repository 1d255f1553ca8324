/-! The class: push. -/
section AXRX
section
variable {e0 mo : Nat} {σ σ' σ1 : SG} {x : Nat} {L : LY} {A A' : MS} {r k j p w : Nat}
/-- the new run, from the class's heap after the older runs -/
theorem push_run {B : MS} {X : List Nat} {o : OC} {v1 v2 v3 v4 : Int32} {b x1 y1 z1 : Nat} (h : ax_rc e0 σ1 x L B) (hJJ : mJJ B) (hJn : mJJ (mNew B b x1 y1 z1)) (he0 : sgK σ1 e0 = (23, 0)) (hN1 : 1 ≤ mN B) (hR : mR B < 80) (f1 : cl_fr σ L σ1 L 0 0) (ho : o = ((0, nI (mR B)), mFol (mNew B b x1 y1 z1) (mR B))) (e1 : v1 = nI b) (e2 : v2 = nI x1) (e3 : v3 = nI y1) (e4 : v4 = nI z1) : ax_wp e0 mo 9 41 (97, [aR x, aI v1, aI v2, aI v3, aI v4, aU, aU], []) σ1 (cl_po e0 σ x L X o) := by
  obtain ⟨f0, f1', -, -, -, -, -, -, -⟩ := xf h
  obtain ⟨hb, hf, hx, hge⟩ := rc_hb h
  have hI := hJJ.1.1
  have hN := hI.1.1
  have li0 := h.2.1.1
  have li1 := h.2.1.2.1
  have f2 : sgR σ1 6 1 x = lF L 1 := (xf h).2.2.1
  have ze : e0 < sgZ σ1 := h.2.2.2.2.2.2.2.2.1.2.1
  subst e1 e2 e3 e4
  -- the run's object
  have F1 : ax_F (fun _ _ _ => False) σ1 (mkC σ1 4 5) := (ax_F.refl _ _).mkC
  have k1 : sgK (mkC σ1 4 5) x = (6, 5) := by rw [F1.2.2.1 _ hx]; exact f0
  have r1 : sgR (mkC σ1 4 5) 6 1 x = lF L 1 := by rw [(F1.2.2.2 6 1 _ hx id).2.2]; exact f2
  have l1 := li_Fn li1 F1
  refine sg_41_97 (d := 8) ⟨ax_kd k1, ?_⟩
  rw [r1]
  refine ⟨ax_kd l1.1, ax_use0 (ct_157 l1) rfl ?_⟩
  -- its inputs
  have nz1 : ∀ P : Prop, sgZ σ1 + 1 < sgZ σ1 → P := fun P z => by omega
  have F2 : ax_F (fun _ _ _ => False) σ1 (putI (putI (putI (mkC (mkC σ1 4 5) 20 3) 20 0 (sgZ σ1 + 1) (nI x1)) 20 1 (sgZ σ1 + 1) (nI y1)) 20 2 (sgZ σ1 + 1) (nI z1)) := (((F1.mkC).putI fun z => nz1 _ z).putI fun z => nz1 _ z).putI fun z => nz1 _ z
  have ki : sgK (mkC (mkC σ1 4 5) 20 3) (sgZ σ1 + 1) = (20, 3) := by rw [gK_mk]; exact if_pos rfl
  have ku : sgK (mkC (mkC σ1 4 5) 20 3) (sgZ σ1) = (4, 5) := by
    rw [gK_mk]
    refine (if_neg (show ¬ sgZ σ1 = sgZ σ1 + 1 by omega)).trans ?_
    rw [gK_mk, if_pos rfl]
  refine sg_41_108 (d := 8) ⟨⟨by decide, by decide⟩, ax_in_nI (i := 0) ki (by decide) (by decide), ax_in_nI (i := 1) ki (by decide) (by decide), ax_in_nI (i := 2) ki (by decide) (by decide), by omega, ?_⟩
  generalize hσ2 : putI (putI (putI (mkC (mkC σ1 4 5) 20 3) 20 0 (sgZ σ1 + 1) (nI x1)) 20 1 (sgZ σ1 + 1) (nI y1)) 20 2 (sgZ σ1 + 1) (nI z1) = σ2 at F2
  have z2 : sgZ σ2 = sgZ σ1 + 2 := by rw [← hσ2]; rfl
  have u2 : sgU σ2 = sgU σ1 + 8 := by rw [← hσ2]; rfl
  have ki2 : sgK σ2 (sgZ σ1 + 1) = (20, 3) := by rw [← hσ2]; exact ki
  have ku2 : sgK σ2 (sgZ σ1) = (4, 5) := by rw [← hσ2]; exact ku
  have j0 : sgI σ2 20 0 (sgZ σ1 + 1) = nI x1 := by rw [← hσ2]; simp only [gI_putI]; simp
  have j1 : sgI σ2 20 1 (sgZ σ1 + 1) = nI y1 := by rw [← hσ2]; simp only [gI_putI]; simp
  have j2 : sgI σ2 20 2 (sgZ σ1 + 1) = nI z1 := by rw [← hσ2]; simp only [gI_putI]; simp
  have c18 := ct_18 (mo := mo) (R := mR B) (b := b) ku2 (by omega) (by omega) ki2 (by omega) j0 j1 j2 (by rw [F2.2.2.1 _ ze]; exact he0) (by omega) (fun _ => 0)
  have e18 : (putI (putI (putI (mkC (mkC σ1 4 5) 20 (3 : Int32).toNatClampNeg) 20 (0 : Int32).toNatClampNeg (sgZ (mkC σ1 4 5)) (nI x1)) 20 (1 : Int32).toNatClampNeg (sgZ (mkC σ1 4 5)) (nI y1)) 20 (2 : Int32).toNatClampNeg (sgZ (mkC σ1 4 5)) (nI z1)) = σ2 := hσ2
  rw [e18]
  refine ax_use c18 rfl fun w σ3 hw => ?_
  obtain ⟨rfl, nu, nl, F3, z3, u3⟩ := hw
  refine sg_41_128 (d := 8) ?_
  rw [z2] at nu nl
  have F13 : ax_F (fun k _ q => k = 23 ∧ q = e0) σ1 σ3 := F_tr (F2.mono fun _ _ _ _ z => z.elim) F3 (fun k i q hq z => absurd z.2 (by omega))
  refine ax_down (N := mN B) (fun t => ∀ (σc : SG) (ep cap : Nat) (P0 P1 P2 : Nat → Nat) (G : Nat → Nat → Nat), nrI σ1 e0 B (sgZ σ1) (sgZ σ1 + 1) (sgZ σ1 + 2) b x1 y1 z1 t σc ep cap P0 P1 P2 G → ax_wp e0 mo 9 41 (133, [aR x, aI (nI b), aI (nI x1), aI (nI y1), aI (nI z1), aR (sgZ σ1), aI (nI t)], []) σc _) ?_ (fun t ht ih => ?_) 0 (Nat.zero_le _) σ3 e0 0 (fun _ => 0) (fun _ => 0) (fun _ => 0) (fun _ _ => 0) ⟨F13, nu, nl, Or.inl ⟨rfl, rfl, rfl⟩, fun k hk => absurd hk (Nat.not_lt_zero k), fun k => ⟨by show 0 < _; omega, by show 0 < _; omega, by show 0 < _; omega, fun j => by show 0 < _; omega⟩, ⟨by omega, by omega⟩, ⟨by omega, by omega⟩, by omega⟩
  · intro σc ep cap P0 P1 P2 G ⟨g1, g2, g3, g4, g5, g6, g7, g8, g9⟩
    have n23 : ∀ k' i q : Nat, k' ≠ 23 → ¬ (k' = 23 ∧ q = e0) := fun k' i q a z => a z.1
    have kx : sgK σc x = (6, 5) := by rw [g1.2.2.1 _ hx]; exact f0
    have rx0 : sgR σc 6 0 x = lF L 0 := by rw [(g1.2.2.2 6 0 _ hx (n23 _ 0 _ (by decide))).2.2]; exact f1'
    have rx1 : sgR σc 6 1 x = lF L 1 := by rw [(g1.2.2.2 6 1 _ hx (n23 _ 0 _ (by decide))).2.2]; exact f2
    have ne0 : ∀ el c, sgK σ1 el = (23, c) → 0 < c → el ≠ e0 := fun el c a d z => by
      rw [z, he0] at a
      have := congrArg Prod.snd a
      have : (0 : Nat) = c := this
      omega
    have lc0 : ax_li σc (lF L 0) (lF L 6) (lC L 0) (mN B) (gS L) := li_G li0 g1 ⟨n23 _ 0 _ (by decide), n23 _ 0 _ (by decide)⟩ (fun c i z => ne0 _ _ li0.2.2.2.1 c z.2)
    have lc1 : ax_li σc (lF L 1) (lF L 7) (lC L 1) (mR B) (gU L 0) := li_G li1 g1 ⟨n23 _ 0 _ (by decide), n23 _ 0 _ (by decide)⟩ (fun c i z => ne0 _ _ li1.2.2.2.1 c z.2)
    refine sg_41_133 (d := 8) ⟨ax_kd kx, ?_⟩
    rw [rx0]
    refine ⟨ax_kd lc0.1, ax_use0 (ct_157 lc0) rfl ?_⟩
    refine sg_41_142 (d := 8) ⟨fun q => absurd q (nI_nlt (Nat.le_refl _) (by omega)), fun _ => ⟨ax_kd kx, ?_⟩⟩
    rw [rx1]
    have hc := h.2.2.2.2.2.2.2.2.2.2.2.2.2.1 1 (by decide)
    have hc1 : lC L 1 ≤ 2000 := hc.1
    refine ⟨ax_kd lc1.1, ax_use (ct_163 lc1 hc.2 (by omega) (fun i hi => ?_) (by rw [g2.1.1]; show (4 : Nat) < 9; decide) g8.1) rfl fun w σ4 hw => ?_⟩
    · have hz := hb 1 i 0 0
      refine ⟨Nat.lt_of_lt_of_le hz g1.1, ?_⟩
      rw [g1.2.2.1 _ hz, (h.2.2.2.1 i hi).1.1]
      show (4 : Nat) < 9
      decide
    · obtain ⟨rfl, el', cap', d1, d2, d3⟩ := hw
      have hcap := ax_cap_le (lC L 1)
      have hpot := ax_cap_pot (lC L 1)
      have hcl := ax_cap_lt (lC L 1)
      have hle := lc1.2.2.2.2.1
      have no : ∀ k' i q : Nat, k' ≠ 8 → k' ≠ 23 → ¬ ((k' = 8 ∧ q = lF L 1) ∨ (k' = 23 ∧ q = lF L 7)) := fun k' i q a b z => by
        rcases z with z | z
        · exact a z.1
        · exact b z.1
      have hc10 : cap = 10 ∧ sgZ σ1 ≤ ep := by
        rcases g4 with g4 | g4
        · omega
        · exact g4.2
      have nep : ep ≠ lF L 7 := by have := hf 7 (by decide); omega
      have npl : sgZ σ1 + 2 ≠ lF L 1 := by have := hf 1 (by decide); omega
      have FF : ax_F (fun k' _ q => (k' = 8 ∧ q = lF L 1) ∨ (k' = 23 ∧ (q = lF L 7 ∨ q = e0))) σ1 σ4 := F_tr (g1.mono fun k i q _ z => Or.inr ⟨z.1, Or.inr z.2⟩) d2 (fun k i q _ z => by
        rcases z with z | z
        · exact Or.inl z
        · exact Or.inr ⟨z.1, Or.inl z.2⟩)
      have g3' : ax_li σ4 (sgZ σ1 + 2) ep 10 (mN B) P0 := by
        rw [hc10.1] at g3
        refine li_F g3 d2 ⟨fun z => ?_, fun z => ?_⟩ (fun i z => ?_)
        · rcases z with z | z
          · exact npl z.2
          · exact absurd z.1 (by decide)
        · rcases z with z | z
          · exact npl z.2
          · exact absurd z.1 (by decide)
        · rcases z with z | z
          · exact absurd z.1 (by decide)
          · exact nep z.2
      have hokB := qOK_of hJJ
      have epz : ep < sgZ σc := g3.2.2.2.2.2.2.2.1
      have rc := rc_new (b := b) (x1 := x1) (y1 := y1) (z1 := z1) (P0 := P0) (P1 := P1) (P2 := P2) (G := G) (ep := ep) (pl := sgZ σ1 + 2) (i3 := sgZ σ1 + 1) (u := sgZ σ1) (el := el') (cap := cap') h hI hokB (fun w hw z => ((hJJ.2.2.2.1).2.2 w (mW B w - 1) (by omega)).1) he0 FF d1 (by
        rcases d3 with ⟨c1, c2, c3, c4⟩ | ⟨c1, c2, c3, c4, c5⟩
        · exact Or.inl ⟨c1, c2⟩
        · exact Or.inr ⟨by rw [c1]; exact g1.1, by omega, by omega⟩) (nrU_F g2 d2 g8.1 g8.2 no) (fun k hk => by
        obtain ⟨c1, c2, c3⟩ := g5 k hk
        exact ⟨nrP_F c1 d2 no, c2, c3⟩) g3' ⟨Nat.lt_of_lt_of_le g8.1 d2.1, Nat.lt_of_lt_of_le g8.2 d2.1⟩ ⟨g9, hc10.2, by
        rcases d3 with ⟨c1, c2, c3, c4⟩ | ⟨c1, c2, c3, c4, c5⟩
        · rw [c1]; exact nep
        · rw [c1]; omega⟩ (fun k => by
        obtain ⟨c1, c2, c3, c4⟩ := g6 k
        exact ⟨Nat.lt_of_lt_of_le c1 d2.1, Nat.lt_of_lt_of_le c2 d2.1, Nat.lt_of_lt_of_le c3 d2.1, fun j => Nat.lt_of_lt_of_le (c4 j) d2.1⟩)
      have eg : gU (lRu L el' cap' (mR B) (sgZ σ1) (sgZ σ1 + 1) (sgZ σ1 + 2) ep P0 P1 P2 G) 0 (mR B) = sgZ σ1 := (lRu_at (t := 1) (by decide)).trans rfl
      have hRn : mR B < mR (mNew B b x1 y1 z1) := by rw [mNew_R]; exact Nat.lt_succ_self _
      have e7 : mU (mNew B b x1 y1 z1) 11 (mR B) = 7 := (mNew_at (by decide) (by decide)).trans rfl
      have frn : cl_fr σ1 L σ4 (lRu L el' cap' (mR B) (sgZ σ1) (sgZ σ1 + 1) (sgZ σ1 + 2) ep P0 P1 P2 G) 390 6000 := by
        refine ⟨FF.mono fun k i q _ z => ?_, ?_, ?_⟩
        · rcases z with z | z
          · rw [z.1]; exact ⟨by decide, by decide, by decide, by decide, by decide⟩
          · rw [z.1]; exact ⟨by decide, by decide, by decide, by decide, by decide⟩
        · show sgZ σ4 + (lC L 0 + lC L 1 + lC L 2 + lC L 3) ≤ sgZ σ1 + (lC L 0 + cap' + lC L 2 + lC L 3) + 390
          rcases d3 with ⟨c1, c2, c3, c4⟩ | ⟨c1, c2, c3, c4, c5⟩ <;> omega
        · show sgU σ4 + 4 * (lC L 0 + lC L 1 + lC L 2 + lC L 3) ≤ sgU σ1 + 4 * (lC L 0 + cap' + lC L 2 + lC L 3) + 6000
          rcases d3 with ⟨c1, c2, c3, c4⟩ | ⟨c1, c2, c3, c4, c5⟩ <;> omega
      have c73 := ct_73 (mo := mo) rc hJn hRn e7
      rw [eg] at c73
      refine sg_41_177 (d := 8) ⟨ax_kd (xf rc).1, ax_use c73 rfl fun w σ5 hw => ?_⟩
      obtain ⟨rfl, L5, h5, f5, e5⟩ := hw
      have eF : mFol (mNew B b x1 y1 z1) (mR B) = mFin (mAdv 8 (mNew B b x1 y1 z1) (mR B)) (mR B) := by
        unfold mFol
        rw [e7]
        rfl
      have hR5 : mR B < mR (mFin (mAdv 8 (mNew B b x1 y1 z1) (mR B)) (mR B)) := by
        rw [← eF, show mR (mFol (mNew B b x1 y1 z1) (mR B)) = mR (mNew B b x1 y1 z1) from mFol_lo 10 0 0 0 (by decide) (by decide)]
        exact hRn
      obtain ⟨w1, w2, -⟩ := ru_at h5 hR5
      have eg5 : gU L5 0 (mR B) = sgZ σ1 := by
        rw [← eg]
        show L5.2.2.1 1 _ _ _ = _
        rw [e5]
      rw [eg5] at w1 w2
      refine sg_41_184 (d := 8) ⟨ax_kd w1, ?_⟩
      rw [w2, ho, eF]
      exact ⟨rfl, rfl, L5, h5, fr_le (fr_trans (fr_trans f1 frn) f5) (by decide) (by decide)⟩
  · intro σc ep cap P0 P1 P2 G g
    have g1 := g.1
    have n23 : ∀ k' i q : Nat, k' ≠ 23 → ¬ (k' = 23 ∧ q = e0) := fun k' i q a z => a z.1
    have kx : sgK σc x = (6, 5) := by rw [g1.2.2.1 _ hx]; exact f0
    have rx0 : sgR σc 6 0 x = lF L 0 := by rw [(g1.2.2.2 6 0 _ hx (n23 _ 0 _ (by decide))).2.2]; exact f1'
    have ne0 : ∀ el c, sgK σ1 el = (23, c) → 0 < c → el ≠ e0 := fun el c a d z => by
      rw [z, he0] at a
      have := congrArg Prod.snd a
      have : (0 : Nat) = c := this
      omega
    have lc0 : ax_li σc (lF L 0) (lF L 6) (lC L 0) (mN B) (gS L) := li_G li0 g1 ⟨n23 _ 0 _ (by decide), n23 _ 0 _ (by decide)⟩ (fun c i z => ne0 _ _ li0.2.2.2.1 c z.2)
    have ks : sgK σc (gS L t) = (5, 10) := by rw [g1.2.2.1 _ (hb 0 t 0 0)]; exact (h.2.2.1 t ht).1
    refine sg_41_133 (d := 8) ⟨ax_kd kx, ?_⟩
    rw [rx0]
    refine ⟨ax_kd lc0.1, ax_use0 (ct_157 lc0) rfl ?_⟩
    refine sg_41_142 (d := 8) ⟨fun _ => ⟨ax_kd kx, ?_⟩, fun q => absurd (nI_lt ht (by omega)) q⟩
    rw [rx0]
    refine ⟨ax_kd lc0.1, ax_use0 (ct_160 lc0 ht) rfl ?_⟩
    refine sg_41_156 (d := 8) ⟨Or.inr (ax_kd ks), ax_kd g.2.1.1.1, ax_use (nr_step h hI g ht) rfl fun w σ2' hw => ?_⟩
    obtain ⟨rfl, ep', cap', P0', P1', P2', G', g'⟩ := hw
    refine sg_41_162 (d := 8) ?_
    rw [nI_1]
    exact ih σ2' ep' cap' P0' P1' P2' G' g'
end
end AXRX
