/-! The class: a run is there. -/
section AXRV
/-- the layout with one run more -/
def lRu (L : LY) (el cap R u i3 pl ep : Nat) (P0 P1 P2 : Nat → Nat) (G : Nat → Nat → Nat) : LY := (fun i => if i = 7 then el else L.1 i, fun i => if i = 1 then cap else L.2.1 i, fun t r k j => if r = R ∧ t ≠ 0 then (if t = 1 then u else if t = 2 then i3 else if t = 3 then pl else if t = 4 then ep else if t = 10 then P0 k else if t = 11 then P1 k else if t = 12 then P2 k else if t = 20 then G k j else 0) else L.2.2.1 t r k j, L.2.2.2)
section
variable {L : LY} {el cap R u i3 pl ep : Nat} {P0 P1 P2 : Nat → Nat} {G : Nat → Nat → Nat}
theorem lRu_old {t r k j : Nat} (h : r ≠ R ∨ t = 0) : (lRu L el cap R u i3 pl ep P0 P1 P2 G).2.2.1 t r k j = L.2.2.1 t r k j := if_neg fun z => by
  rcases h with h | h
  · exact h z.1
  · exact z.2 h
theorem lRu_at {t k j : Nat} (h : t ≠ 0) : (lRu L el cap R u i3 pl ep P0 P1 P2 G).2.2.1 t R k j = if t = 1 then u else if t = 2 then i3 else if t = 3 then pl else if t = 4 then ep else if t = 10 then P0 k else if t = 11 then P1 k else if t = 12 then P2 k else if t = 20 then G k j else 0 := if_pos ⟨rfl, h⟩
end
section
variable {e0 mo : Nat} {σ σ' σ1 : SG} {x : Nat} {L : LY} {A A' : MS} {r k j p w : Nat}
theorem rc_new (h : ax_rc e0 σ x L A) (hI : mB A) (hok : qOK A) (hwk : ∀ w, w < 4 → mW A w ≠ 0 → pR (mW A w - 1) < mR A) {b x1 y1 z1 el cap u i3 pl ep : Nat} {P0 P1 P2 : Nat → Nat} {G : Nat → Nat → Nat} (he0 : sgK σ e0 = (23, 0)) (hF : ax_F (fun k' _ q => (k' = 8 ∧ q = lF L 1) ∨ (k' = 23 ∧ (q = lF L 7 ∨ q = e0))) σ σ') (hl : ax_li σ' (lF L 1) el cap (mR A + 1) (fun i => if i = mR A then u else gU L 0 i)) (hc : (el = lF L 7 ∧ cap = lC L 1) ∨ (sgZ σ ≤ el ∧ 0 < cap ∧ cap ≤ 2000)) (hu : (sgK σ' u = (4, 5) ∧ sgI σ' 4 0 u = nI (mR A) ∧ sgI σ' 4 1 u = nI b ∧ sgR σ' 4 2 u = i3 ∧ sgR σ' 4 3 u = pl) ∧ sgI σ' 4 4 u = nI 7 ∧ sgK σ' i3 = (20, 3) ∧ sgI σ' 20 0 i3 = nI x1 ∧ sgI σ' 20 1 i3 = nI y1 ∧ sgI σ' 20 2 i3 = nI z1) (hp : ∀ k, k < mN A → nrP σ' u k (fun f => mS A f k) (P0 k) (P1 k) (P2 k) (G k) ∧ 0 < P0 k ∧ sgZ σ ≤ P1 k) (hpl : ax_li σ' pl ep 10 (mN A) P0) (hb1 : u < sgZ σ' ∧ i3 < sgZ σ') (hb2 : sgZ σ ≤ pl ∧ sgZ σ ≤ ep ∧ ep ≠ el) (hb3 : ∀ k, P0 k < sgZ σ' ∧ P1 k < sgZ σ' ∧ P2 k < sgZ σ' ∧ ∀ j, G k j < sgZ σ') : ax_rc e0 σ' x (lRu L el cap (mR A) u i3 pl ep P0 P1 P2 G) (mNew A b x1 y1 z1) := by
  obtain ⟨hb, hf, hx, hge⟩ := rc_hb h
  obtain ⟨hX, hL, hS, hU, hP, hJ, hWk, hE, hB⟩ := h
  obtain ⟨l1, l2, l3, l4, l5⟩ := hL
  obtain ⟨⟨B1, B2, B3, B4, B5⟩, B6, B7, B8, B9, B10, B11, B12⟩ := hB
  have eR : mR (mNew A b x1 y1 z1) = mR A + 1 := mNew_R A b x1 y1 z1
  have old : ∀ f r k j, f ≠ 10 → (r ≠ mR A ∨ f < 11 ∨ 43 < f) → (mNew A b x1 y1 z1).1 f r k j = A.1 f r k j := fun f r k j c d => mNew_old c fun z => by omega
  have new : ∀ f k j, 11 ≤ f → f ≤ 43 → (mNew A b x1 y1 z1).1 f (mR A) k j = mNv A b x1 y1 z1 f k j := fun f k j c d => mNew_at c d
  have eN : mN (mNew A b x1 y1 z1) = mN A := old 0 0 0 0 (by decide) (by omega)
  have e16 : mU (mNew A b x1 y1 z1) 16 (mR A) = mN A := new 16 0 0 (by decide) (by decide)
  have no : ∀ (k' i q : Nat), k' ≠ 8 → k' ≠ 23 → ¬ ((k' = 8 ∧ q = lF L 1) ∨ (k' = 23 ∧ (q = lF L 7 ∨ q = e0))) := fun k' i q a b z => by
    rcases z with z | z
    · exact a z.1
    · exact b z.1
  have n8 : ∀ i, (i = 0 ∨ i = 2 ∨ i = 5) → ¬ ((8 = 8 ∧ lF L i = lF L 1) ∨ (8 = 23 ∧ (lF L i = lF L 7 ∨ lF L i = e0))) := fun i hi z => by
    rcases z with z | z
    · have := B6 i 1 (by omega) (by decide) z.2; omega
    · exact absurd z.1 (by decide)
  have kc : ∀ i, (i = 0 ∨ i = 2 ∨ i = 3) → sgK σ (lF L (6 + i)) = (23, lC L i) := fun i hi => by
    rcases hi with rfl | rfl | rfl
    · exact l1.2.2.2.1
    · exact l3.2.2.2.1
    · exact l4.2.2.2.1
  have n23 : ∀ i, (i = 0 ∨ i = 2 ∨ i = 3) → 0 < lC L i → ∀ t : Nat, ¬ ((23 = 8 ∧ lF L (6 + i) = lF L 1) ∨ (23 = 23 ∧ (lF L (6 + i) = lF L 7 ∨ lF L (6 + i) = e0))) := fun i hi hc t z => by
    rcases z with z | z
    · exact absurd z.1 (by decide)
    · rcases z.2 with y | y
      · have := B8 i 1 (by omega) (by decide) (by omega) y; omega
      · have := kc i hi
        rw [y, he0] at this
        have := congrArg Prod.snd this
        have : (0 : Nat) = lC L i := this
        omega
  have elZ : el < sgZ σ' := hl.2.2.2.2.2.2.2.1
  have plZ : pl < sgZ σ' := hpl.2.2.2.2.2.2.1
  have epZ : ep < sgZ σ' := hpl.2.2.2.2.2.2.2.1
  have fresh : sgZ σ ≤ el → ∀ q, q < sgZ σ → q ≠ el := fun a q b z => by omega
  have pU : rcU σ' L A := by
    refine rcU_F hU hF hb rfl (fun f r' c d => rfl) (fun r' hr' => ?_) (fun r' i _ _ => no _ i _ (by decide) (by decide)) (fun i q _ => no _ i q (by decide) (by decide))
    rw [(hF.2.2.2 4 4 _ (hb _ _ _ _) (no _ 4 _ (by decide) (by decide))).1]
    exact (hU r' hr').2.1
  have pP : rcP σ' L A := rcP_F hP hF hb rfl (fun _ => rfl) (fun f r' k' c d => rfl) (fun _ _ _ _ _ => Iff.rfl) (fun r' k' i _ _ => no _ i _ (by decide) (by decide)) (fun r' k' i _ _ => no _ i _ (by decide) (by decide)) (fun r' k' i _ _ => no _ i _ (by decide) (by decide))
  have pJ : rcJ σ' L A := fun r' k' j' c d e f => rcJ1_F (hJ r' k' j' c d e f) hF hb (fun f hf => rfl) (fun i => no _ i _ (by decide) (by decide))
  have pS : rcS σ' L A := rcS_F hS hF hb rfl (fun _ _ => rfl) (fun k i _ => no _ i _ (by decide) (by decide))
  have pW : rcW σ' L A := rcW_F hWk hF (hf 3 (by decide)) (fun _ _ => rfl) (fun i => no _ i _ (by decide) (by decide))
  have pX : rcX σ' x L := rcX_F hX hF hx (hf 3 (by decide)) (hf 4 (by decide)) (fun i => no _ i _ (by decide) (by decide)) (fun i => no _ i _ (by decide) (by decide))
  have eF : ∀ i, i ≠ 7 → lF (lRu L el cap (mR A) u i3 pl ep P0 P1 P2 G) i = lF L i := fun i hi => if_neg hi
  have eF7 : lF (lRu L el cap (mR A) u i3 pl ep P0 P1 P2 G) 7 = el := rfl
  have eC : ∀ i, i ≠ 1 → lC (lRu L el cap (mR A) u i3 pl ep P0 P1 P2 G) i = lC L i := fun i hi => if_neg hi
  have eC1 : lC (lRu L el cap (mR A) u i3 pl ep P0 P1 P2 G) 1 = cap := rfl
  have eO : ∀ t r k j, (r ≠ mR A ∨ t = 0) → (lRu L el cap (mR A) u i3 pl ep P0 P1 P2 G).2.2.1 t r k j = L.2.2.1 t r k j := fun t r k j z => lRu_old z
  have g1 : gU (lRu L el cap (mR A) u i3 pl ep P0 P1 P2 G) 0 (mR A) = u := (lRu_at (t := 1) (by decide)).trans rfl
  have g2 : gU (lRu L el cap (mR A) u i3 pl ep P0 P1 P2 G) 1 (mR A) = i3 := (lRu_at (t := 2) (by decide)).trans rfl
  have g3 : gU (lRu L el cap (mR A) u i3 pl ep P0 P1 P2 G) 2 (mR A) = pl := (lRu_at (t := 3) (by decide)).trans rfl
  have g4 : gU (lRu L el cap (mR A) u i3 pl ep P0 P1 P2 G) 3 (mR A) = ep := (lRu_at (t := 4) (by decide)).trans rfl
  have q0 : ∀ k, gP (lRu L el cap (mR A) u i3 pl ep P0 P1 P2 G) 0 (mR A) k = P0 k := fun k => (lRu_at (t := 10) (by decide)).trans rfl
  have q1 : ∀ k, gP (lRu L el cap (mR A) u i3 pl ep P0 P1 P2 G) 1 (mR A) k = P1 k := fun k => (lRu_at (t := 11) (by decide)).trans rfl
  have q2 : ∀ k, gP (lRu L el cap (mR A) u i3 pl ep P0 P1 P2 G) 2 (mR A) k = P2 k := fun k => (lRu_at (t := 12) (by decide)).trans rfl
  have qJ : ∀ k j, gJ (lRu L el cap (mR A) u i3 pl ep P0 P1 P2 G) (mR A) k j = G k j := fun k j => (lRu_at (t := 20) (by decide)).trans rfl
  have eE : ∀ i, gE (lRu L el cap (mR A) u i3 pl ep P0 P1 P2 G) i = gE L i := fun _ => rfl
  have bz : ∀ t r k j, (lRu L el cap (mR A) u i3 pl ep P0 P1 P2 G).2.2.1 t r k j < sgZ σ' := fun t r k j => by
    by_cases z : r = mR A ∧ t ≠ 0
    · rw [z.1, lRu_at z.2]
      obtain ⟨d1, d2, d3, d4⟩ := hb3 k
      have d4 := d4 j
      have := hF.1
      repeat' split
      all_goals omega
    · rw [lRu_old (by by_cases c : r = mR A
                      · exact Or.inr (Classical.byContradiction fun d => z ⟨c, d⟩)
                      · exact Or.inl c)]
      exact Nat.lt_of_lt_of_le (B4 t r k j) hF.1
  generalize lRu L el cap (mR A) u i3 pl ep P0 P1 P2 G = L' at eF eF7 eC eC1 eO g1 g2 g3 g4 q0 q1 q2 qJ eE bz ⊢
  have oS : ∀ k, gS L' k = gS L k := fun k => eO 0 k 0 0 (Or.inr rfl)
  have oU : ∀ t r, r < mR A → gU L' t r = gU L t r := fun t r hr => eO (1 + t) r 0 0 (Or.inl (Nat.ne_of_lt hr))
  have oP : ∀ t r k, r < mR A → gP L' t r k = gP L t r k := fun t r k hr => eO (10 + t) r k 0 (Or.inl (Nat.ne_of_lt hr))
  have oJ : ∀ r k j, r < mR A → gJ L' r k j = gJ L r k j := fun r k j hr => eO 20 r k j (Or.inl (Nat.ne_of_lt hr))
  refine ⟨?_, ⟨?_, ?_, ?_, ?_, fun r hr => ?_⟩, fun k hk => ?_, fun r hr => ?_, fun r k hr hk => ?_, fun r k j hr hk hj hs => ?_, fun w hw => ?_, fun i hi => ?_, ⟨Nat.lt_of_lt_of_le B1 hF.1, Nat.lt_of_lt_of_le B2 hF.1, fun i hi => ?_, bz, fun i hi => ?_⟩, ?_, ?_, ?_, ?_, ?_, ?_, ?_⟩
  · unfold rcX
    rw [eF 0 (by decide), eF 1 (by decide), eF 2 (by decide), eF 3 (by decide), eF 4 (by decide), eF 5 (by decide)]
    exact pX
  · rw [eF 0 (by decide), eF 6 (by decide), eC 0 (by decide), eN]
    exact li_f (li_G l1 hF ⟨n8 0 (by decide), n8 0 (by decide)⟩ (n23 0 (by decide))) fun i hi => (oS i).symm
  · rw [eF 1 (by decide), eF7, eC1, eR]
    refine li_f hl fun i hi => ?_
    by_cases z : i = mR A
    · rw [if_pos z, z, g1]
    · rw [if_neg z, oU 0 i (by omega)]
  · rw [eF 2 (by decide), eF 8 (by decide), eC 2 (by decide)]
    refine li_f (li_G l3 hF ⟨n8 2 (by decide), n8 2 (by decide)⟩ (n23 2 (by decide))) fun i hi => ?_
    obtain ⟨o1, o2, o3⟩ := hok _ (mQ_at hi)
    exact (oJ _ _ _ o1).symm
  · rw [eF 5 (by decide), eF 9 (by decide), eC 3 (by decide)]
    exact li_f (li_G l4 hF ⟨n8 5 (by decide), n8 5 (by decide)⟩ (n23 3 (by decide))) fun i hi => (eE i).symm
  · rw [eR] at hr
    rcases Nat.lt_succ_iff_lt_or_eq.mp hr with hr | rfl
    · rw [oU 2 r hr, oU 3 r hr, show mU (mNew A b x1 y1 z1) 16 r = mU A 16 r from old 16 r 0 0 (by decide) (by omega)]
      refine li_f (li_F (l5 r hr) hF ⟨fun z => ?_, fun z => ?_⟩ (fun i z => ?_)) fun i hi => (oP 0 r i hr).symm
      · rcases z with z | z
        · exact B7 r 1 hr (by decide) z.2
        · exact absurd z.1 (by decide)
      · rcases z with z | z
        · exact B7 r 1 hr (by decide) z.2
        · exact absurd z.1 (by decide)
      · rcases z with z | z
        · exact absurd z.1 (by decide)
        · rcases z.2 with y | y
          · exact B9 r 1 hr (by decide) y
          · have := (l5 r hr).2.2.2.1
            rw [y, he0] at this
            exact absurd this (by decide)
    · rw [g3, g4, e16]
      exact li_f hpl fun i hi => (q0 i).symm
  · rw [eN] at hk
    obtain ⟨c1, c2, c3⟩ := pS k hk
    rw [oS]
    refine ⟨c1, c2, fun f d1 d2 => ?_⟩
    rw [show mS (mNew A b x1 y1 z1) f k = mS A f k from old f k 0 0 (by omega) (by omega)]
    exact c3 f d1 d2
  · rw [eR] at hr
    rcases Nat.lt_succ_iff_lt_or_eq.mp hr with hr | rfl
    · have o : ∀ f, 11 ≤ f → mU (mNew A b x1 y1 z1) f r = mU A f r := fun f a => old f r 0 0 (by omega) (by omega)
      rw [oU 0 r hr, oU 1 r hr, oU 2 r hr, o 12 (by decide), o 11 (by decide), o 13 (by decide), o 14 (by decide), o 15 (by decide)]
      exact pU r hr
    · have n : ∀ f, 11 ≤ f → f ≤ 43 → mU (mNew A b x1 y1 z1) f (mR A) = mNv A b x1 y1 z1 f 0 0 := fun f a c => new f 0 0 a c
      rw [g1, g2, g3, n 12 (by decide) (by decide), n 11 (by decide) (by decide), n 13 (by decide) (by decide), n 14 (by decide) (by decide), n 15 (by decide) (by decide)]
      exact hu
  · rw [eR] at hr
    rcases Nat.lt_succ_iff_lt_or_eq.mp hr with hr | rfl
    · rw [show mU (mNew A b x1 y1 z1) 16 r = mU A 16 r from old 16 r 0 0 (by decide) (by omega)] at hk
      obtain ⟨c1, ⟨c2, c3, c4⟩, c5, c6⟩ := pP r k hr hk
      rw [oP 0 r k hr, oP 1 r k hr, oP 2 r k hr, oU 0 r hr]
      refine ⟨c1, ⟨c2, c3, fun f d1 d2 => ?_⟩, c5, fun j hj => ?_⟩
      · rw [show mP (mNew A b x1 y1 z1) f r k = mP A f r k from old (20 + f) r k 0 (by omega) (by omega)]
        exact c4 f d1 d2
      · rw [oJ r k j hr, show mJ (mNew A b x1 y1 z1) 0 r k j = mJ A 0 r k j from old 40 r k j (by decide) (by omega)]
        exact c6 j hj
    · rw [e16] at hk
      obtain ⟨⟨⟨c1, c2, c3, c4⟩, ⟨c5, c6, c7⟩, c8, c9, -⟩, -, -⟩ := hp k hk
      rw [q0, q1, q2, g1]
      refine ⟨⟨c1, c2, c3, c4⟩, ⟨c5, c6, fun f d1 d2 => ?_⟩, c8, fun j hj => ?_⟩
      · rw [show mP (mNew A b x1 y1 z1) f (mR A) k = mS A f k from (new (20 + f) k 0 (by omega) (by omega)).trans (mNv_P d1 d2)]
        exact c7 f d1 d2
      · rw [qJ, show mJ (mNew A b x1 y1 z1) 0 (mR A) k j = mNv A b x1 y1 z1 40 k j from new 40 k j (by decide) (by decide), mNv_0]
        cases hsl : slB (fun f => mS A f k) j with
        | true =>
          have hsl := hsl
          have := ((c9 j hj).1 hsl).2.2
          unfold slB at hsl
          rw [Bool.and_eq_true] at hsl
          have cc : k < mN A ∧ j < mS A 1 k * mS A 2 k ∧ mBit (mS A 3 k) j = false := ⟨hk, Nat.blt_eq.mp hsl.1, by
            have hs2 : (!(mBit (mS A 3 k) j)) = true := hsl.2
            cases c : mBit (mS A 3 k) j with
            | false => rfl
            | true => rw [c] at hs2; cases hs2⟩
          rw [if_pos cc, if_neg (by decide)]
          exact this
        | false =>
          have := (c9 j hj).2 hsl
          unfold slB at hsl
          have cc : ¬ (k < mN A ∧ j < mS A 1 k * mS A 2 k ∧ mBit (mS A 3 k) j = false) := fun z => by
            have hsl : (Nat.blt j (mS A 1 k * mS A 2 k) && !(mBit (mS A 3 k) j)) = false := hsl
            rw [Nat.blt_eq.mpr z.2.1, z.2.2] at hsl
            cases hsl
          rw [if_neg cc, if_pos rfl]
          exact this
  · rw [eR] at hr
    rcases Nat.lt_succ_iff_lt_or_eq.mp hr with hr | rfl
    · rw [show mU (mNew A b x1 y1 z1) 16 r = mU A 16 r from old 16 r 0 0 (by decide) (by omega)] at hk
      have o : ∀ f, mJ (mNew A b x1 y1 z1) f r k j = mJ A f r k j := fun f => old (40 + f) r k j (by omega) (by omega)
      rw [o 0] at hs
      have := pJ r k j hr hk hj hs
      unfold rcJ1
      rw [o 0, o 1, o 2, o 3, oJ r k j hr, oP 0 r k hr]
      exact this
    · rw [e16] at hk
      have o : ∀ f, f < 4 → mJ (mNew A b x1 y1 z1) f (mR A) k j = mNv A b x1 y1 z1 (40 + f) k j := fun f hf => new (40 + f) k j (by omega) (by omega)
      rw [o 0 (by decide), mNv_0] at hs
      obtain ⟨⟨c0, -, -, c9, -⟩, -, -⟩ := hp k hk
      by_cases c : k < mN A ∧ j < mS A 1 k * mS A 2 k ∧ mBit (mS A 3 k) j = false
      · have hsl : slB (fun f => mS A f k) j = true := by
          unfold slB
          rw [Nat.blt_eq.mpr c.2.1, c.2.2]
          rfl
        obtain ⟨⟨d1, d2, d3, d4, d5, d6, d7, d8⟩, d9, d10⟩ := (c9 j hj).1 hsl
        unfold rcJ1
        rw [qJ, q0, o 0 (by decide), o 1 (by decide), o 2 (by decide), o 3 (by decide), mNv_0, if_pos c]
        refine ⟨⟨d9, d1, d2, d3⟩, d4, d5, fun _ => d6, d7, d8⟩
      · rw [if_neg c] at hs
        exact absurd rfl hs
  · rw [eF 3 (by decide), show mW (mNew A b x1 y1 z1) w = mW A w from old 50 w 0 0 (by decide) (by omega)]
    have := pW w hw
    by_cases z : mW A w = 0
    · rw [if_pos z]
      rw [if_pos z] at this
      exact this
    · rw [if_neg z]
      rw [if_neg z] at this
      exact this.trans (oJ _ _ _ (hwk w hw z)).symm
  · rw [eE]
    show rcE1 σ' (gE L i) ((mE A).getD i (0, 0)) (mS (mNew A b x1 y1 z1) 6 ((mE A).getD i (0, 0)).1)
    rw [show mS (mNew A b x1 y1 z1) 6 ((mE A).getD i (0, 0)).1 = mS A 6 ((mE A).getD i (0, 0)).1 from old 6 _ 0 0 (by decide) (by omega)]
    exact rcE1_F (hE i hi) hF (hge i hi) (fun i => no _ i _ (by decide) (by decide)) (fun i q _ => no _ i q (by decide) (by decide))
  · by_cases z : i = 7
    · rw [z, eF7]; exact elZ
    · rw [eF i z]; exact Nat.lt_of_lt_of_le (B3 i hi) hF.1
  · rw [eE]; exact Nat.lt_of_lt_of_le (B5 i hi) hF.1
  · intro i j hi hj
    rw [eF i (by omega), eF j (by omega)]
    exact B6 i j hi hj
  · intro r i hr hi
    rw [eR] at hr
    rw [eF i (by omega)]
    rcases Nat.lt_succ_iff_lt_or_eq.mp hr with hr | rfl
    · rw [oU 2 r hr]; exact B7 r i hr hi
    · rw [g3]
      have := B3 i (by omega)
      omega
  · intro i j hi hj
    by_cases zi : i = 1
    · by_cases zj : j = 1
      · intro _ _; rw [zi, zj]
      · rw [zi, eC1, show (6 : Nat) + 1 = 7 from rfl, eF7, eF (6 + j) (by omega)]
        intro hc0 e
        rcases hc with ⟨c1, c2⟩ | ⟨c1, c2, c3⟩
        · exact B8 1 j (by decide) hj (by rw [← c2]; exact hc0) (by rw [← c1]; exact e)
        · have := B3 (6 + j) (by omega)
          exact absurd e.symm (fresh c1 _ this)
    · by_cases zj : j = 1
      · rw [zj, eC i zi, show (6 : Nat) + 1 = 7 from rfl, eF7, eF (6 + i) (by omega)]
        intro hc0 e
        rcases hc with ⟨c1, c2⟩ | ⟨c1, c2, c3⟩
        · exact B8 i 1 hi (by decide) hc0 (by rw [← c1]; exact e)
        · have := B3 (6 + i) (by omega)
          exact absurd e (fresh c1 _ this)
      · rw [eC i zi, eF (6 + i) (by omega), eF (6 + j) (by omega)]
        exact B8 i j hi hj
  · intro r i hr hi
    rw [eR] at hr
    rcases Nat.lt_succ_iff_lt_or_eq.mp hr with hr | rfl
    · rw [oU 3 r hr]
      by_cases zi : i = 1
      · rw [zi, show (6 : Nat) + 1 = 7 from rfl, eF7]
        rcases hc with ⟨c1, c2⟩ | ⟨c1, c2, c3⟩
        · rw [c1]; exact B9 r 1 hr (by decide)
        · exact fresh c1 _ (hb _ _ _ _)
      · rw [eF (6 + i) (by omega)]; exact B9 r i hr hi
    · rw [g4]
      by_cases zi : i = 1
      · rw [zi, show (6 : Nat) + 1 = 7 from rfl, eF7]; exact hb2.2.2
      · rw [eF (6 + i) (by omega)]
        have := B3 (6 + i) (by omega)
        omega
  · intro i hi
    by_cases zi : i = 1
    · rw [zi, eC1, show (6 : Nat) + 1 = 7 from rfl, eF7]
      rcases hc with ⟨c1, c2⟩ | ⟨c1, c2, c3⟩
      · rw [c1, c2]; exact B10 1 (by decide)
      · exact ⟨c3, fun z => by omega⟩
    · rw [eC i zi, eF (6 + i) (by omega)]
      exact B10 i hi
  · intro r k k' hr hk hk'
    rw [eR] at hr
    rw [eN] at hk'
    rw [oS]
    rcases Nat.lt_succ_iff_lt_or_eq.mp hr with hr | rfl
    · rw [show mU (mNew A b x1 y1 z1) 16 r = mU A 16 r from old 16 r 0 0 (by decide) (by omega)] at hk
      rw [oP 1 r k hr]
      exact B11 r k k' hr hk hk'
    · rw [e16] at hk
      rw [q1]
      have := (hp k hk).2.2
      have := hb 0 k' 0 0
      show P1 k ≠ L.2.2.1 0 k' 0 0
      omega
  · intro r k hr hk
    rw [eR] at hr
    rcases Nat.lt_succ_iff_lt_or_eq.mp hr with hr | rfl
    · rw [show mU (mNew A b x1 y1 z1) 16 r = mU A 16 r from old 16 r 0 0 (by decide) (by omega)] at hk
      rw [oP 0 r k hr]
      exact B12 r k hr hk
    · rw [e16] at hk
      rw [q0]
      exact (hp k hk).2.1
end
end AXRV
