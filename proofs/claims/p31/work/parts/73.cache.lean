/-! The class's cache: what two keys have in common; a stage's entries go. -/
section AXRN
theorem nb_eq {a b : Nat} (h : a = b) : Nat.beq a b = true := by rw [h]; exact Nat.beq_refl b
theorem com_1 (a b : Nat) : mCom a b 1 1 = bif Nat.beq (a / 1) (b / 1) then 1 else 0 := rfl
theorem com_2 (a b : Nat) : mCom a b 2 2 = bif Nat.beq (a / 1) (b / 1) then 2 else bif Nat.beq (a / 100) (b / 100) then 1 else 0 := rfl
theorem com_3 (a b : Nat) : mCom a b 3 3 = bif Nat.beq (a / 1) (b / 1) then 3 else bif Nat.beq (a / 100) (b / 100) then 2 else bif Nat.beq (a / 10000) (b / 10000) then 1 else 0 := rfl
def dg (x y z j : Nat) : Nat := if j = 0 then x else if j = 1 then y else z
theorem com_is {x y z x' y' z' l j : Nat} (hx : x < 100) (hy : y < 100) (hz : z < 100) (hx' : x' < 100) (hy' : y' < 100) (hz' : z' < 100) (h1 : 1 ≤ l) (h3 : l ≤ 3) (hj : j ≤ l) (he : ∀ i, i < j → dg x y z i = dg x' y' z' i) (hn : j < l → dg x y z j ≠ dg x' y' z' j) : mCom ((10000 * x + 100 * y + z) / mPow (3 - l)) ((10000 * x' + 100 * y' + z') / mPow (3 - l)) l l = j := by
  have e0 : 0 < j → x = x' := fun a => he 0 a
  have e1 : 1 < j → y = y' := fun a => he 1 a
  have e2 : 2 < j → z = z' := fun a => he 2 a
  have n0 : j = 0 → x ≠ x' := fun a => by have := hn (by omega); rw [a] at this; exact this
  have n1 : j = 1 → j < l → y ≠ y' := fun a b => by have := hn b; rw [a] at this; exact this
  have n2 : j = 2 → j < l → z ≠ z' := fun a b => by have := hn b; rw [a] at this; exact this
  have el : l = 1 ∨ l = 2 ∨ l = 3 := by omega
  rcases el with rfl | rfl | rfl
  · show mCom ((10000 * x + 100 * y + z) / 10000) ((10000 * x' + 100 * y' + z') / 10000) 1 1 = j
    rw [com_1]
    have ej : j = 0 ∨ j = 1 := by omega
    rcases ej with rfl | rfl
    · have := n0 rfl; rw [nb_ne (by omega)]; rfl
    · have := e0 (by omega); rw [nb_eq (by omega)]; rfl
  · show mCom ((10000 * x + 100 * y + z) / 100) ((10000 * x' + 100 * y' + z') / 100) 2 2 = j
    rw [com_2]
    have ej : j = 0 ∨ j = 1 ∨ j = 2 := by omega
    rcases ej with rfl | rfl | rfl
    · have := n0 rfl; rw [nb_ne (by omega), nb_ne (by omega)]; rfl
    · have := e0 (by omega); have := n1 rfl (by omega); rw [nb_ne (by omega), nb_eq (by omega)]; rfl
    · have := e0 (by omega); have := e1 (by omega); rw [nb_eq (by omega)]; rfl
  · show mCom ((10000 * x + 100 * y + z) / 1) ((10000 * x' + 100 * y' + z') / 1) 3 3 = j
    rw [com_3]
    have ej : j = 0 ∨ j = 1 ∨ j = 2 ∨ j = 3 := by omega
    rcases ej with rfl | rfl | rfl | rfl
    · have := n0 rfl; rw [nb_ne (by omega), nb_ne (by omega), nb_ne (by omega)]; rfl
    · have := e0 (by omega); have := n1 rfl (by omega); rw [nb_ne (by omega), nb_ne (by omega), nb_eq (by omega)]; rfl
    · have := e0 (by omega); have := e1 (by omega); have := n2 rfl (by omega); rw [nb_ne (by omega), nb_eq (by omega)]; rfl
    · have := e0 (by omega); have := e1 (by omega); have := e2 (by omega); rw [nb_eq (by omega)]; rfl
/-- the places from the end, s of them, that are kept -/
def kp (q : Nat → Bool) (n : Nat) : Nat → List Nat
  | 0 => []
  | s + 1 => (if q (n - 1 - s) then [n - 1 - s] else []) ++ kp q n s
theorem kp_mem {q : Nat → Bool} {n m : Nat} : ∀ s, s ≤ n → m ∈ kp q n s → m < n ∧ q m = true := by
  intro s
  induction s with
  | zero => intro _ h; exact absurd h List.not_mem_nil
  | succ s ih =>
    intro hs h
    rcases List.mem_append.mp h with z | z
    · by_cases c : q (n - 1 - s) = true
      · rw [if_pos c] at z
        have e := List.mem_singleton.mp z
        rw [e]; exact ⟨by omega, c⟩
      · rw [if_neg c] at z; exact absurd z List.not_mem_nil
    · exact ih (by omega) z
theorem kp_len (q : Nat → Bool) (n : Nat) : ∀ s, (kp q n s).length ≤ s := by
  intro s
  induction s with
  | zero => exact Nat.le_refl _
  | succ s ih =>
    show ((if q (n - 1 - s) then [n - 1 - s] else []) ++ kp q n s).length ≤ s + 1
    rw [List.length_append]
    split
    · show 1 + _ ≤ _; omega
    · show 0 + _ ≤ _; omega
theorem kp_map {es : List (Nat × Nat)} {p : Nat × Nat → Bool} : ∀ s, s ≤ es.length → (kp (fun i => p (es.getD i (0, 0))) es.length s).map (fun i => es.getD i (0, 0)) = (es.drop (es.length - s)).filter p := by
  intro s
  induction s with
  | zero =>
    intro _
    rw [Nat.sub_zero, List.drop_length]
    rfl
  | succ s ih =>
    intro hs
    have hlt : es.length - 1 - s < es.length := by omega
    have e : es.getD (es.length - 1 - s) (0, 0) = es[es.length - 1 - s] := by rw [List.getD_eq_getElem?_getD, List.getElem?_eq_getElem hlt]; rfl
    have ed : es.drop (es.length - (s + 1)) = es[es.length - 1 - s] :: es.drop (es.length - s) := by
      rw [show es.length - (s + 1) = es.length - 1 - s by omega, List.drop_eq_getElem_cons hlt, show es.length - 1 - s + 1 = es.length - s by omega]
    rw [ed, List.filter_cons, ← ih (by omega), ← e]
    show List.map _ ((if p (es.getD (es.length - 1 - s) (0, 0)) then [es.length - 1 - s] else []) ++ _) = _
    rw [List.map_append]
    by_cases c : p (es.getD (es.length - 1 - s) (0, 0)) = true
    · rw [if_pos c, if_pos c]; rfl
    · rw [if_neg c, if_neg c]; rfl
theorem getD_in {l : List Nat} {i : Nat} (hi : i < l.length) : l.getD i 0 ∈ l := by
  rw [List.getD_eq_getElem?_getD, List.getElem?_eq_getElem hi]
  exact List.getElem_mem hi
theorem getD_cons0 (y : Nat) (l : List Nat) : ([y] ++ l).getD 0 0 = y := rfl
theorem getD_consS (y : Nat) (l : List Nat) (i : Nat) : ([y] ++ l).getD (i + 1) 0 = l.getD i 0 := rfl
section
variable {e0 mo : Nat} {σ σ' σ1 : SG} {x : Nat} {L : LY} {A A' : MS} {r k j p w : Nat}
theorem ct_5 (h : ax_rc e0 σ x L A) (hI : mB A) (hE : mEB A) {i : Nat} (hi : i < (mE A).length) (hr : r < mR A) (hk : k < 8) : ax_ok e0 mo 0 5 [aR (gE L i), aI (nI k), aR (gU L 1 r)] σ (fun w σ2 => w = aI (nI (mNe A r k (mS A 6 k) i)) ∧ σ2 = σ) := by
  obtain ⟨e1, e2, e3, e4⟩ := h.2.2.2.2.2.2.2.1 i hi
  obtain ⟨b1, b2, b3, b4⟩ := hE.2 _ (mE_at hi)
  have hN := hI.1.1
  obtain ⟨-, -, u7, u8, u9, u10⟩ := h.2.2.2.1 r hr
  obtain ⟨-, v2, v3, v4, v5, -⟩ := hI.2.2.2.2.1 r hr
  unfold mNe
  generalize (mE A).getD i (0, 0) = en at e2 e3 e4 b1 b2 b3 b4 ⊢
  obtain ⟨f1, -, xx, y, z, c1, c2, c3, d1, d2, d3, d4⟩ := e4
  refine sg_5_0 ⟨ax_kd e1, ?_⟩
  rw [e2]
  refine pk_eq k en.1 (fun q => ?_) (fun q => ?_)
  · subst q
    rw [e3, f1, u7, Nat.beq_refl]
    refine ⟨ax_kd e1, ax_kd e1, ⟨by decide, by decide⟩, ⟨by decide, by decide⟩, by show (1 : Nat) ≤ 8; decide, by show (0 : Nat) ≤ 8; decide, ?_⟩
    have em : (if (if (nI (20, 3).2) < (nI (20, 3).2) then (nI (20, 3).2) else (nI (20, 3).2)) < nI (mS A 6 en.1) then (if (nI (20, 3).2) < (nI (20, 3).2) then (nI (20, 3).2) else (nI (20, 3).2)) else nI (mS A 6 en.1)) = nI (mS A 6 en.1) := by
      rw [if_neg (show ¬ (nI (20, 3).2 < nI (20, 3).2) by decide)]
      exact if_neg (nI_nlt (by show mS A 6 en.1 ≤ 3; exact b3) (by decide))
    rw [em]
    have dd : ∀ j, j < 3 → sgI σ 20 j (sgR σ 1 2 (gE L i)) = nI (dg xx y z j) ∧ sgI σ 20 j (gU L 1 r) = nI (dg (mU A 13 r) (mU A 14 r) (mU A 15 r) j) ∧ dg xx y z j < 100 ∧ dg (mU A 13 r) (mU A 14 r) (mU A 15 r) j < 100 := by
      intro j hj
      have ej : j = 0 ∨ j = 1 ∨ j = 2 := by omega
      rcases ej with rfl | rfl | rfl
      · exact ⟨d1, u8, c1, v3⟩
      · exact ⟨d2, u9, c2, v4⟩
      · exact ⟨d3, u10, c3, v5⟩
    have an : ∀ j, j ≤ mS A 6 en.1 → (∀ i, i < j → dg xx y z i = dg (mU A 13 r) (mU A 14 r) (mU A 15 r) i) → (j < mS A 6 en.1 → dg xx y z j ≠ dg (mU A 13 r) (mU A 14 r) (mU A 15 r) j) → mCom en.2 (mKey A r (mS A 6 en.1)) (mS A 6 en.1) (mS A 6 en.1) = j := fun j a b c => by
      rw [d4]
      exact com_is c1 c2 c3 v3 v4 v5 b2 b3 a b c
    refine ax_down (N := mS A 6 en.1) (fun t => (∀ i, i < t → dg xx y z i = dg (mU A 13 r) (mU A 14 r) (mU A 15 r) i) → ax_wp e0 mo 0 5 (31, [aR (gE L i), aI (nI en.1), aR (gU L 1 r), aI (nI (mS A 6 en.1)), aI (nI t)], []) σ _) ?_ (fun t ht ih => ?_) 0 (Nat.zero_le _) (fun i hi => absurd hi (Nat.not_lt_zero i))
    · intro ok
      refine sg_5_31 ⟨fun q => absurd q (nI_nlt (Nat.le_refl _) (by omega)), fun _ => ⟨?_, rfl⟩⟩
      show _ = aI (nI (mCom en.2 (mKey A r (mS A 6 en.1)) (mS A 6 en.1) (mS A 6 en.1)))
      rw [an _ (Nat.le_refl _) ok (fun z => absurd z (Nat.lt_irrefl _))]
    · intro ok
      have ct : (nI t).toNatClampNeg = t := nI_clamp (by omega)
      obtain ⟨g1, g2, g3, g4⟩ := dd t (by omega)
      refine sg_5_31 ⟨fun _ => ⟨ax_kd e1, ax_in_nI f1 (show t < 3 by omega) (by decide), ax_in_nI u7 (show t < 3 by omega) (by decide), ?_⟩, fun q => absurd (nI_lt ht (by omega)) q⟩
      rw [ct, g1, g2]
      refine pk_eq (dg xx y z t) (dg (mU A 13 r) (mU A 14 r) (mU A 15 r) t) (fun q => ?_) (fun q => ⟨?_, rfl⟩)
      · rw [nI_1]
        refine ih fun i hi => ?_
        rcases Nat.lt_succ_iff_lt_or_eq.mp hi with c | c
        · exact ok i c
        · rw [c]; exact q
      · show _ = aI (nI (mCom en.2 (mKey A r (mS A 6 en.1)) (mS A 6 en.1) (mS A 6 en.1)))
        rw [an t (Nat.le_of_lt ht) ok (fun _ => q)]
  · rw [nb_ne (fun z => q z.symm)]
    exact ⟨rfl, rfl⟩
/-- the entries of a stage go; on the list alone -/
theorem ct_3 {c el cap n : Nat} {f : Nat → Nat} {st : Nat → Nat} {a : Nat} (hc : sgK σ c = (0, 1)) (hcz : c < sgZ σ) (hca : sgR σ 0 0 c = a) (hl : ax_li σ a el cap n f) (hn : n ≤ 20) (hent : ∀ i, i < n → sgK σ (f i) = (1, 3) ∧ f i < sgZ σ ∧ sgI σ 1 0 (f i) = nI (st i) ∧ st i < 8) (hk : k < 8) : ax_ok e0 mo 3 3 [aR c, aI (nI k)] σ (fun w σ2 => w = aI (nI (n - (kp (fun i => !(Nat.beq (st i) k)) n n).length)) ∧ ax_li σ2 a el cap (kp (fun i => !(Nat.beq (st i) k)) n n).length (fun i => f ((kp (fun i => !(Nat.beq (st i) k)) n n).getD i 0)) ∧ ax_F (fun k' _ q => (k' = 8 ∧ q = a) ∨ (k' = 23 ∧ q = el)) σ σ2 ∧ sgZ σ2 = sgZ σ ∧ sgU σ2 = sgU σ) := by
  generalize hq : (fun i => !(Nat.beq (st i) k)) = q
  have hq' : ∀ i, q i = !(Nat.beq (st i) k) := fun i => by rw [← hq]
  refine sg_3_0 (d := 2) ⟨ax_kd hc, ?_⟩
  rw [hca]
  refine ⟨ax_kd hl.1, ax_use0 (ct_157 hl) rfl ?_⟩
  refine sg_3_9 (d := 2) ?_
  have lp : ∀ d s, d + s = n → ∀ (σ1 : SG) (f1 : Nat → Nat), ax_li σ1 a el cap (d + (kp q n s).length) f1 → (∀ i, i < d → f1 i = f i) → (∀ i, i < (kp q n s).length → f1 (d + i) = f ((kp q n s).getD i 0)) → ax_F (fun k' _ q => (k' = 8 ∧ q = a) ∨ (k' = 23 ∧ q = el)) σ σ1 → sgZ σ1 = sgZ σ → sgU σ1 = sgU σ → ax_wp e0 mo 3 3 (12, [aR c, aI (nI k), aI (nI (s - (kp q n s).length)), aI (nI d - 1)], []) σ1 (ax_ct (fun w σ2 => w = aI (nI (n - (kp q n n).length)) ∧ ax_li σ2 a el cap (kp q n n).length (fun i => f ((kp q n n).getD i 0)) ∧ ax_F (fun k' _ q => (k' = 8 ∧ q = a) ∨ (k' = 23 ∧ q = el)) σ σ2 ∧ sgZ σ2 = sgZ σ ∧ sgU σ2 = sgU σ) (fun _ _ => False)) := by
    intro d
    induction d with
    | zero =>
      intro s hs σ1 f1 g1 g2 g3 g4 g5 g6
      obtain rfl : s = n := by omega
      refine sg_3_12 (d := 2) ⟨fun _ => ⟨rfl, ?_, g4, g5, g6⟩, fun z => absurd (show (nI 0 - 1 : Int32) < 0 by decide) z⟩
      rw [Nat.zero_add] at g1
      exact li_f g1 fun i hi => by have := g3 i hi; rw [Nat.zero_add] at this; exact this
    | succ d ih =>
      intro s hs σ1 f1 g1 g2 g3 g4 g5 g6
      have hkl := kp_len q n s
      have en : n - 1 - s = d := by omega
      have ek : kp q n (s + 1) = (if q d then [d] else []) ++ kp q n s := by
        show (if q (n - 1 - s) then [n - 1 - s] else []) ++ kp q n s = _
        rw [en]
      have c1 : sgK σ1 c = (0, 1) := by rw [g4.2.2.1 c hcz]; exact hc
      have c2 : sgR σ1 0 0 c = a := by rw [(g4.2.2.2 0 0 c hcz (fun z => by rcases z with z | z <;> exact absurd z.1 (by decide))).2.2]; exact hca
      obtain ⟨t1, t2, t3, t4⟩ := hent d (by omega)
      have t1' : sgK σ1 (f d) = (1, 3) := by rw [g4.2.2.1 _ t2]; exact t1
      have t3' : sgI σ1 1 0 (f d) = nI (st d) := by rw [(g4.2.2.2 1 0 _ t2 (fun z => by rcases z with z | z <;> exact absurd z.1 (by decide))).1]; exact t3
      have hfd : f1 d = f d := g2 d (Nat.lt_succ_self d)
      rw [nI_p1 (by omega), Nat.add_sub_cancel]
      refine sg_3_12 (d := 2) ⟨fun z => absurd z (nI_nlt (a := d) (b := 0) (Nat.zero_le _) (by omega)), fun _ => ⟨ax_kd c1, ?_⟩⟩
      rw [c2]
      refine ⟨ax_kd g1.1, ax_use0 (ct_160 g1 (by omega)) rfl ?_⟩
      rw [hfd]
      refine sg_3_24 (d := 2) ⟨Or.inr (ax_kd t1'), ax_kd t1', ?_⟩
      rw [t3']
      have next : nI d + (-1) = nI d - 1 := (pk_neg1 (nI d)).symm
      refine pk_eq (st d) k (fun y => ⟨ax_kd c1, ?_⟩) (fun y => ?_)
      · rw [c2]
        have qd : q d = false := by rw [hq' d, nb_eq y]; rfl
        have ek : kp q n (s + 1) = kp q n s := by rw [ek, qd]; rfl
        refine ⟨ax_kd g1.1, ax_use (ct_164 g1 (i := d) (by omega) (fun i hi => ?_)) rfl fun w σ2 hw => ?_⟩
        · by_cases z : i < d + 1
          · rw [g2 i z, g4.2.2.1 _ (hent i (by omega)).2.1, (hent i (by omega)).1]
            show (1 : Nat) < 9
            decide
          · have hm := kp_mem s (by omega) (getD_in (l := kp q n s) (i := i - (d + 1)) (by omega))
            have e := g3 (i - (d + 1)) (by omega)
            rw [show d + 1 + (i - (d + 1)) = i by omega] at e
            rw [e, g4.2.2.1 _ (hent _ hm.1).2.1, (hent _ hm.1).1]
            show (1 : Nat) < 9
            decide
        · obtain ⟨rfl, k1, k2, k3, k4⟩ := hw
          rw [hfd]
          refine sg_3_42 (d := 2) ?_
          rw [next, nI_1, show s - (kp q n s).length + 1 = s + 1 - (kp q n s).length by omega]
          have := ih (s + 1) (by omega) σ2 (fun j => if j < d then f1 j else f1 (j + 1)) (by rw [ek, show d + (kp q n s).length = d + 1 + (kp q n s).length - 1 by omega]; exact k1) (fun i hi => ?_) (fun i hi => ?_) (g4.trans (k2.mono fun k i q _ z => ?_)) (by omega) (by omega)
          · rw [ek] at this
            exact this
          · show (if i < d then f1 i else f1 (i + 1)) = f i
            rw [if_pos hi]; exact g2 i (by omega)
          · show (if d + i < d then f1 (d + i) else f1 (d + i + 1)) = _
            rw [if_neg (by omega), ek]
            rw [ek] at hi
            have := g3 i hi
            rw [show d + 1 + i = d + i + 1 by omega] at this
            exact this
          · rcases z with z | z
            · exact Or.inl ⟨z.1, z.2.1⟩
            · exact Or.inr z
      · have qd : q d = true := by rw [hq' d, nb_ne y]; rfl
        have ek : kp q n (s + 1) = [d] ++ kp q n s := by rw [ek, qd]; rfl
        have el : (kp q n (s + 1)).length = (kp q n s).length + 1 := by rw [ek, List.length_append]; exact Nat.add_comm _ _
        rw [next]
        have := ih (s + 1) (by omega) σ1 f1 (by rw [el, show d + ((kp q n s).length + 1) = d + 1 + (kp q n s).length by omega]; exact g1) (fun i hi => g2 i (by omega)) (fun i hi => ?_) g4 g5 g6
        · rw [el, show s + 1 - ((kp q n s).length + 1) = s - (kp q n s).length by omega] at this
          exact this
        · rw [ek]
          cases i with
          | zero => rw [getD_cons0]; exact hfd
          | succ i =>
            rw [getD_consS]
            have := g3 i (by omega)
            rw [show d + 1 + i = d + (i + 1) by omega] at this
            exact this
  exact lp n 0 (by omega) σ f (by rw [show (kp q n 0).length = 0 from rfl]; exact hl) (fun _ _ => rfl) (fun i hi => absurd hi (Nat.not_lt_zero i)) (ax_F.refl _ _) rfl rfl
end
end AXRN
