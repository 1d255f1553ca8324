/-! The class: the queue is tidied, the workers too; a run is cancelled. -/
section AXRG
theorem lQu_id (L : LY) : lQu L (lF L 8) (lC L 2) = L := by
  refine Prod.ext (funext fun i => ?_) (Prod.ext (funext fun i => ?_) rfl)
  · show (if i = 8 then L.1 8 else L.1 i) = L.1 i
    split
    · rename_i z; rw [z]
    · rfl
  · show (if i = 2 then L.2.1 2 else L.2.1 i) = L.2.1 i
    split
    · rename_i z; rw [z]
    · rfl
theorem pk_neg1 (a : Int32) : a - 1 = a + (-1) := by
  rw [Int32.sub_eq_add_neg]
/-- the queue's jobs that are still queued, of the first t -/
def fQ (A : MS) (t : Nat) : List Nat := ((mQ A).take t).filter fun p => Nat.beq (mJp A 0 p) 1
theorem fQ_succ {A : MS} {t : Nat} (h : t < (mQ A).length) : fQ A (t + 1) = fQ A t ++ (if mJp A 0 ((mQ A).getD t 0) = 1 then [(mQ A).getD t 0] else []) := by
  have e : (mQ A).getD t 0 = (mQ A)[t] := by rw [List.getD_eq_getElem?_getD, List.getElem?_eq_getElem h]; rfl
  unfold fQ
  rw [List.take_add_one, List.getElem?_eq_getElem h, List.filter_append, e]
  congr 1
  by_cases z : mJp A 0 (mQ A)[t] = 1
  · rw [if_pos z]
    show List.filter _ [(mQ A)[t]] = _
    rw [List.filter_cons, if_pos (by rw [z]; rfl)]
    rfl
  · rw [if_neg z]
    show List.filter _ [(mQ A)[t]] = _
    rw [List.filter_cons, if_neg (by rw [nb_ne z]; decide)]
    rfl
theorem fQ_le (A : MS) (t : Nat) : (fQ A t).length ≤ t := Nat.le_trans (List.length_filter_le _ _) (by rw [List.length_take]; omega)
theorem fQ_all (A : MS) : fQ A (mQ A).length = (mQ A).filter fun p => Nat.beq (mJp A 0 p) 1 := by
  unfold fQ
  rw [List.take_length]
section
variable {e0 mo : Nat} {σ σ' σ1 : SG} {x : Nat} {L : LY} {A A' : MS} {r k j p w : Nat}
theorem ct_161v {a el cap n i v : Nat} {f : Nat → Nat} (h : ax_li σ a el cap n f) (hi : i < n) (hv : (sgK σ v).1 < 9) : ax_ok e0 mo 2 161 [aR a, aI (nI i), aR v] σ (fun w σ2 => w = aR (f i) ∧ σ2 = putR σ 23 i el v) := by
  obtain ⟨h1, h2, h3, h4, h5, h6, h7, h8, h9, h10⟩ := id h
  refine sg_161_0 (d := 1) ⟨ax_kd h1, ?_⟩
  rw [h2]
  refine ax_use0 (ct_168 hi (by omega)) rfl ?_
  refine sg_161_8 (d := 1) ⟨ax_kd h1, ?_⟩
  refine ax_use0 (ct_159 h hi) rfl ?_
  refine sg_161_14 (d := 1) ⟨ax_kd h1, ?_⟩
  rw [h3, nI_clamp (by omega)]
  exact ⟨⟨ax_fitE hv, ax_in_nI h4 (by omega) (by omega)⟩, rfl, rfl⟩
def q81 (σ : SG) (L : LY) (A : MS) (t : Nat) (σ1 : SG) (f1 : Nat → Nat) : Prop := ax_F (fun k _ q => (k = 8 ∧ q = lF L 2) ∨ (k = 23 ∧ q = lF L 8)) σ σ1 ∧ ax_li σ1 (lF L 2) (lF L 8) (lC L 2) (mQ A).length f1 ∧ (∀ i, t ≤ i → i < (mQ A).length → f1 i = lQ L A i) ∧ (∀ i, i < (fQ A t).length → f1 i = gJp L ((fQ A t).getD i 0)) ∧ (∀ i, i < (mQ A).length → ∃ q, q ∈ mQ A ∧ f1 i = gJp L q) ∧ sgZ σ1 = sgZ σ ∧ sgU σ1 = sgU σ
theorem q81_F {W : Nat → Nat → Nat → Prop} (h : ax_rc e0 σ x L A) (hW : ∀ i q, ¬ W 6 i q) (hF : ax_F W σ σ1) : sgK σ1 x = (6, 5) ∧ sgR σ1 6 2 x = lF L 2 := by
  obtain ⟨f0, f1, f2, f3, f4, f5, f6, f7, f8⟩ := xf h
  have hx := (rc_hb h).2.2.1
  exact ⟨by rw [hF.2.2.1 x hx]; exact f0, by rw [(hF.2.2.2 6 2 x hx (hW _ _)).2.2]; exact f3⟩
theorem q81_J (h : ax_rc e0 σ x L A) (hok : qOK A) (hF : ax_F (fun k _ q => (k = 8 ∧ q = lF L 2) ∨ (k = 23 ∧ q = lF L 8)) σ σ1) {q : Nat} (hq : q ∈ mQ A) : sgK σ1 (gJp L q) = (2, 7) ∧ sgI σ1 2 2 (gJp L q) = nI (mSt (mJp A 0 q)) := by
  obtain ⟨q1, q2, q3⟩ := hok q hq
  have hj := h.2.2.2.2.2.1 _ _ _ q1 q2 (pl_of q).2.2 q3
  have hb := (rc_hb h).1
  exact ⟨by rw [hF.2.2.1 _ (hb _ _ _ _)]; exact hj.1.2.1, by rw [(hF.2.2.2 2 2 _ (hb _ _ _ _) (fun z => by rcases z with z | z <;> exact absurd z.1 (by decide))).1]; exact hj.2.1⟩
theorem ct_81 (h : ax_rc e0 σ x L A) (hI : mB A) (hq : (mQ A).length ≤ 900) (hok : qOK A) : ax_ok e0 mo 3 81 [aR x] σ (fun w σ2 => w = aU ∧ ax_rc e0 σ2 x L (A.1, (mQ A).filter (fun p => Nat.beq (mJp A 0 p) 1), mE A) ∧ cl_fr σ L σ2 L 0 0) := by
  have W6 : ∀ i q : Nat, ¬ (((6 : Nat) = 8 ∧ q = lF L 2) ∨ ((6 : Nat) = 23 ∧ q = lF L 8)) := fun i q z => by rcases z with z | z <;> exact absurd z.1 (by decide)
  refine sg_81_0 (d := 2) ?_
  refine ax_down (N := (mQ A).length) (fun t => ∀ (σ1 : SG) (f1 : Nat → Nat) (v : AV), q81 σ L A t σ1 f1 → ax_wp e0 mo 3 81 (4, [aR x, aI (nI (fQ A t).length), aI (nI t), v], []) σ1 _) ?_ (fun t ht ih => ?_) 0 (Nat.zero_le _) σ (lQ L A) aU ⟨ax_F.refl _ _, h.2.1.2.2.1, fun _ _ _ => rfl, fun i hi => absurd hi (Nat.not_lt_zero i), fun i hi => ⟨_, mQ_at hi, rfl⟩, rfl, rfl⟩
  · intro σ1 f1 v ⟨g1, g2, g3, g4, g5, g6, g7⟩
    obtain ⟨x1, x2⟩ := q81_F h (fun i q => W6 i q) g1
    refine sg_81_4 (d := 2) ⟨ax_kd x1, ?_⟩
    rw [x2]
    refine ⟨ax_kd g2.1, ax_use0 (ct_157 g2) rfl ?_⟩
    refine sg_81_12 (d := 2) ⟨fun q => absurd q (nI_nlt (Nat.le_refl _) (by omega)), fun _ => ⟨ax_kd x1, ?_⟩⟩
    rw [x2]
    refine ⟨ax_kd g2.1, ax_use0 (ct_157 g2) rfl ?_⟩
    refine sg_81_61 (d := 2) ?_
    have hle := fQ_le A (mQ A).length
    have fin : ∀ σ2 f2, ax_F (fun k _ q => (k = 8 ∧ q = lF L 2) ∨ (k = 23 ∧ q = lF L 8)) σ σ2 → ax_li σ2 (lF L 2) (lF L 8) (lC L 2) (fQ A (mQ A).length).length f2 → (∀ i, i < (fQ A (mQ A).length).length → f2 i = gJp L ((fQ A (mQ A).length).getD i 0)) → sgZ σ2 = sgZ σ → sgU σ2 = sgU σ → ax_rc e0 σ2 x L (A.1, (mQ A).filter (fun p => Nat.beq (mJp A 0 p) 1), mE A) ∧ cl_fr σ L σ2 L 0 0 := by
      intro σ2 f2 b1 b2 b3 b4 b5
      refine ⟨?_, b1.mono fun k i q _ z => ?_, by omega, by omega⟩
      · have := rc_qu h (q' := fQ A (mQ A).length) b1 (li_f b2 b3) (Or.inl ⟨rfl, rfl⟩)
        rw [lQu_id, fQ_all] at this
        exact this
      · rcases z with z | z
        · rw [z.1]; exact ⟨by decide, by decide, by decide, by decide, by decide⟩
        · rw [z.1]; exact ⟨by decide, by decide, by decide, by decide, by decide⟩
    have lp : ∀ d n, n = (fQ A (mQ A).length).length + d → n ≤ (mQ A).length → ∀ (σ2 : SG) (f2 : Nat → Nat), ax_F (fun k _ q => (k = 8 ∧ q = lF L 2) ∨ (k = 23 ∧ q = lF L 8)) σ σ2 → ax_li σ2 (lF L 2) (lF L 8) (lC L 2) n f2 → (∀ i, i < n → f2 i = f1 i) → sgZ σ2 = sgZ σ → sgU σ2 = sgU σ → ax_wp e0 mo 3 81 (64, [aR x, aI (nI (fQ A (mQ A).length).length), aI (nI n - 1), v], []) σ2 (ax_ct (fun w σ2 => w = aU ∧ ax_rc e0 σ2 x L (A.1, (mQ A).filter (fun p => Nat.beq (mJp A 0 p) 1), mE A) ∧ cl_fr σ L σ2 L 0 0) (fun _ _ => False)) := by
      intro d
      induction d with
      | zero =>
        intro n hn hn2 σ2 f2 b1 b2 b3 b4 b5
        refine sg_81_64 (d := 2) ⟨fun _ => ⟨rfl, fin σ2 f2 b1 (by rw [hn] at b2; exact b2) (fun i hi => by rw [b3 i (by omega)]; exact g4 i hi) b4 b5⟩, fun z => ?_⟩
        exfalso
        apply z
        rcases Nat.eq_zero_or_pos n with y | y
        · have y' : (fQ A (mQ A).length).length = 0 := by omega
          rw [y, y']; decide
        · rw [nI_p1 (by omega)]
          exact nI_lt (by omega) (by omega)
      | succ d ihd =>
        intro n hn hn2 σ2 f2 b1 b2 b3 b4 b5
        obtain ⟨y1, y2⟩ := q81_F h (fun i q => W6 i q) b1
        rw [nI_p1 (by omega)]
        refine sg_81_64 (d := 2) ⟨fun z => absurd z (nI_nlt (by omega) (by omega)), fun _ => ⟨ax_kd y1, ?_⟩⟩
        rw [y2]
        refine ⟨ax_kd b2.1, ax_use (ct_164 b2 (i := n - 1) (by omega) (fun i hi => ?_)) rfl fun w σ3 hw => ?_⟩
        · obtain ⟨q, q1, q2⟩ := g5 i (by omega)
          rw [b3 i hi, q2, (q81_J h hok b1 q1).1]
          show (2 : Nat) < 9
          decide
        · obtain ⟨rfl, c1, c2, c3, c4⟩ := hw
          refine sg_81_77 (d := 2) ?_
          have := ihd (n - 1) (by omega) (by omega) σ3 _ (b1.trans (c2.mono fun k i q _ z => ?_)) c1 (fun i hi => ?_) (by omega) (by omega)
          · rw [show nI (n - 1) - 1 = nI (n - 1) + (-1) from pk_neg1 (nI (n - 1))] at this
            exact this
          · rcases z with z | z
            · exact Or.inl ⟨z.1, z.2.1⟩
            · exact Or.inr z
          · show (if i < n - 1 then f2 i else f2 (i + 1)) = f1 i
            rw [if_pos hi]; exact b3 i (by omega)
    exact lp ((mQ A).length - (fQ A (mQ A).length).length) (mQ A).length (by omega) (Nat.le_refl _) σ1 f1 g1 g2 (fun _ _ => rfl) g6 g7
  · intro σ1 f1 v ⟨g1, g2, g3, g4, g5, g6, g7⟩
    obtain ⟨x1, x2⟩ := q81_F h (fun i q => W6 i q) g1
    have hle := fQ_le A t
    refine sg_81_4 (d := 2) ⟨ax_kd x1, ?_⟩
    rw [x2]
    refine ⟨ax_kd g2.1, ax_use0 (ct_157 g2) rfl ?_⟩
    refine sg_81_12 (d := 2) ⟨fun _ => ⟨ax_kd x1, ?_⟩, fun q => absurd (nI_lt ht (by omega)) q⟩
    rw [x2]
    refine ⟨ax_kd g2.1, ax_use0 (ct_160 g2 ht) rfl ?_⟩
    rw [g3 t (Nat.le_refl _) ht]
    have hm := mQ_at ht
    obtain ⟨j1, j2⟩ := q81_J h hok g1 hm
    obtain ⟨o1, o2, o3⟩ := hok _ hm
    have s8 : mJp A 0 ((mQ A).getD t 0) < 8 := by
      have : mJp A 0 ((mQ A).getD t 0) ≤ 8 := (hI.2.2.2.2.2 _ _ _ o1).1
      omega
    have st := st_012 _ s8 1 (by decide)
    have hmS : mSt (mJp A 0 ((mQ A).getD t 0)) < 8 := by show (if _ then _ else _) < 8; split <;> omega
    refine sg_81_23 (d := 2) ⟨Or.inr (ax_kd j1), ax_kd j1, ?_⟩
    rw [show sgI σ1 2 2 (lQ L A t) = nI (mSt (mJp A 0 ((mQ A).getD t 0))) from j2]
    refine pk_eq (mSt (mJp A 0 ((mQ A).getD t 0))) 1 (fun q => ⟨ax_kd x1, ?_⟩) (fun q => ?_)
    · have e1 := st.mp q
      rw [x2]
      refine ⟨ax_kd g2.1, ax_use (ct_161v g2 (i := (fQ A t).length) (by omega) (by rw [show sgK σ1 (lQ L A t) = (2, 7) from j1]; show (2 : Nat) < 9; decide)) rfl fun w σ2 hw => ?_⟩
      obtain ⟨rfl, rfl⟩ := hw
      refine sg_81_44 (d := 2) ?_
      have e2 : fQ A (t + 1) = fQ A t ++ [(mQ A).getD t 0] := by rw [fQ_succ ht, if_pos e1]
      have := ih (putR σ1 23 (fQ A t).length (lF L 8) (lQ L A t)) _ (aR (lQ L A t)) ⟨g1.putR fun _ => Or.inr ⟨rfl, rfl⟩, g2.set (by omega) _, fun i a b => ?_, fun i hi => ?_, fun i hi => ?_, g6, g7⟩
      · rw [e2, List.length_append] at this
        rw [nI_1, nI_1]
        exact this
      · show (if i = (fQ A t).length then _ else f1 i) = _
        rw [if_neg (by omega)]
        exact g3 i (by omega) b
      · rw [e2] at hi
        rw [List.length_append] at hi
        have hi : i < (fQ A t).length + 1 := hi
        show (if i = (fQ A t).length then _ else f1 i) = _
        rw [e2]
        by_cases z : i = (fQ A t).length
        · rw [if_pos z, z, getD_snoc]
        · rw [if_neg z, getD_app (by omega)]
          exact g4 i (by omega)
      · show ∃ q, q ∈ mQ A ∧ (if i = (fQ A t).length then _ else f1 i) = _
        by_cases z : i = (fQ A t).length
        · rw [if_pos z]; exact ⟨_, hm, rfl⟩
        · rw [if_neg z]; exact g5 i hi
    · have e2 : fQ A (t + 1) = fQ A t := by rw [fQ_succ ht, if_neg (fun z => q (st.mpr z)), List.append_nil]
      rw [nI_1]
      have := ih σ1 f1 (aR (lQ L A t)) ⟨g1, g2, fun i a b => g3 i (by omega) b, fun i hi => by rw [e2]; rw [e2] at hi; exact g4 i hi, g5, g6, g7⟩
      rw [e2] at this
      exact this
end
end AXRG
