/-! What each call answers, and the reference's calls that only read. -/
section AXMK
/-- code (0: it answers; else which exception), answer, state -/
abbrev OC : Type := (Nat × Int32) × MS
def inB (x : Int32) (n : Nat) : Bool := decide ((0 : Int32) ≤ x ∧ x ≤ nI n - 1)
theorem bI0 {b : Bool} (h : bI b = 0) : b = false := by
  cases b with
  | false => rfl
  | true => exact absurd h (by decide)
theorem bI1 {b : Bool} (h : ¬ bI b = 0) : b = true := by
  cases b with
  | true => rfl
  | false => exact absurd rfl h
theorem inB_yes {x : Int32} {n : Nat} (h : inB x n = true) (hn : n < 2 ^ 31) : ∃ i, i < n ∧ x = nI i := by
  have h1 : (0 : Int32) ≤ x ∧ x ≤ nI n - 1 := of_decide_eq_true h
  rcases pk_ix x hn with q | q | q
  · exact absurd q (Int32.not_lt.mpr h1.1)
  · rcases Nat.eq_zero_or_pos n with z | z
    · subst z
      have h2 : (0 : Int32) ≤ nI 0 - 1 := Int32.le_trans h1.1 h1.2
      exact absurd h2 (by decide)
    · have h2 : nI n ≤ nI n - 1 := Int32.le_trans q h1.2
      rw [show nI n - 1 = nI (n - 1) from pk_sub (a := n) (b := 1) z] at h2
      exact absurd h2 (nI_ge (by omega) hn)
  · exact q
theorem inB_nI {n i : Nat} (hi : i < n) (hn : n < 2 ^ 31) : inB (nI i) n = true := in_nI hi hn
theorem inB_no {x : Int32} {n : Nat} (h : inB x n = false) (hn : n < 2 ^ 31) : x < 0 ∨ nI n ≤ x := by
  rcases pk_ix x hn with q | q | ⟨i, hi, rfl⟩
  · exact Or.inl q
  · exact Or.inr q
  · rw [inB_nI hi hn] at h; cases h
/-- the reference's answer to a call -/
def rf_an (m : Nat) (M : Nat → Nat) (σ : SG) (o : OC) (w : AV) (σ2 : SG) : Prop := (o.1.1 = 0 → w = aI o.1.2) ∧ sgI σ2 7 23 m = nI o.1.1 ∧ ax_rm σ2 m M o.2 ∧ rf_w m M σ σ2
section
variable {e0 mo : Nat} {σ : SG} {m : Nat} {M : Nat → Nat} {A : MS} {r k j : Nat}
theorem as_thr (h : ax_rm σ m M A) {c : Nat} {v : Int32} (hv : v = nI c) : ax_rm (putI σ 7 23 m v) m M A ∧ rf_w m M σ (putI σ 7 23 m v) ∧ sgI (putI σ 7 23 m v) 7 23 m = nI c := ⟨h.thr, (rf_w.refl m M σ).num _, (if_pos ⟨rfl, rfl, rfl⟩ : sgI (putI σ 7 23 m v) 7 23 m = v).trans hv⟩
theorem as_86 (h : ax_rm σ m M A) (b : Bool) : ax_ok e0 mo 0 86 [aR m, aI (bI b)] σ (fun w σ2 => w = aI (bI b) ∧ ax_rm σ2 m M A ∧ rf_w m M σ σ2 ∧ sgI σ2 7 23 m = nI (bif b then 0 else 1)) :=
  ax_okw (ct_86 h.1.1 b) fun v σ2 hv => by
    obtain ⟨rfl, rfl⟩ := hv
    exact ⟨rfl, as_thr h (by cases b <;> rfl)⟩
theorem as_87 (h : ax_rm σ m M A) (b c : Bool) : ax_ok e0 mo 0 87 [aR m, aI (bI b), aI (bI c)] σ (fun w σ2 => w = aI (bI (b && c)) ∧ ax_rm σ2 m M A ∧ rf_w m M σ σ2 ∧ sgI σ2 7 23 m = nI (bif b then (bif c then 0 else 2) else 1)) :=
  ax_okw (ct_87 h.1.1 b c) fun v σ2 hv => by
    obtain ⟨rfl, rfl⟩ := hv
    exact ⟨rfl, as_thr h (by cases b <;> cases c <;> rfl)⟩
theorem as_88 (h : ax_rm σ m M A) (b c d : Bool) : ax_ok e0 mo 0 88 [aR m, aI (bI b), aI (bI c), aI (bI d)] σ (fun w σ2 => w = aI (bI (b && c && d)) ∧ ax_rm σ2 m M A ∧ rf_w m M σ σ2 ∧ sgI σ2 7 23 m = nI (bif b then (bif c then (bif d then 0 else 3) else 2) else 1)) :=
  ax_okw (ct_88 h.1.1 b c d) fun v σ2 hv => by
    obtain ⟨rfl, rfl⟩ := hv
    exact ⟨rfl, as_thr h (by cases b <;> cases c <;> cases d <;> rfl)⟩
theorem as_89 (h : ax_rm σ m M A) (x : Int32) : ax_ok e0 mo 0 89 [aR m, aI x] σ (fun w σ2 => w = aI x ∧ ax_rm σ2 m M A ∧ rf_w m M σ σ2 ∧ sgI σ2 7 23 m = nI 0) :=
  ax_okw (ct_89 h.1.1 x) fun v σ2 hv => by
    obtain ⟨rfl, rfl⟩ := hv
    exact ⟨rfl, as_thr h rfl⟩
theorem ct_100 (h : ax_rm σ m M A) : ax_ok e0 mo 1 100 [aR m] σ (rf_an m M σ ((0, nI (mN A)), A)) := by
  refine sg_100_0 (d := 0) ⟨ax_kd h.1.1, ax_kd h.1.1, ?_⟩
  rw [h.2.1.1]
  refine ax_use (as_89 h _) rfl fun w σ2 hw => ?_
  obtain ⟨rfl, h2, f2, t2⟩ := hw
  exact sg_100_8 (d := 0) ⟨fun _ => rfl, t2, h2, f2⟩
theorem ct_122 (h : ax_rm σ m M A) : ax_ok e0 mo 1 122 [aR m] σ (rf_an m M σ ((0, nI (mR A)), A)) := by
  refine sg_122_0 (d := 0) ⟨ax_kd h.1.1, ax_kd h.1.1, ?_⟩
  rw [h.2.1.2.1]
  refine ax_use (as_89 h _) rfl fun w σ2 hw => ?_
  obtain ⟨rfl, h2, f2, t2⟩ := hw
  exact sg_122_8 (d := 0) ⟨fun _ => rfl, t2, h2, f2⟩
theorem ct_131 (h : ax_rm σ m M A) : ax_ok e0 mo 1 131 [aR m] σ (rf_an m M σ ((0, nI (mQ A).length), A)) := by
  refine sg_131_0 (d := 0) ⟨ax_kd h.1.1, ax_kd h.1.1, ?_⟩
  rw [h.2.1.2.2.1]
  refine ax_use (as_89 h _) rfl fun w σ2 hw => ?_
  obtain ⟨rfl, h2, f2, t2⟩ := hw
  exact sg_131_8 (d := 0) ⟨fun _ => rfl, t2, h2, f2⟩
theorem ct_148 (h : ax_rm σ m M A) : ax_ok e0 mo 1 148 [aR m] σ (rf_an m M σ ((0, nI (mE A).length), A)) := by
  refine sg_148_0 (d := 0) ⟨ax_kd h.1.1, ax_kd h.1.1, ?_⟩
  rw [h.2.1.2.2.2]
  refine ax_use (as_89 h _) rfl fun w σ2 hw => ?_
  obtain ⟨rfl, h2, f2, t2⟩ := hw
  exact sg_148_8 (d := 0) ⟨fun _ => rfl, t2, h2, f2⟩
def oState (A : MS) (x : Int32) : OC := bif inB x (mR A) then ((0, nI (mU A 11 x.toNatClampNeg)), A) else ((1, 0), A)
theorem ct_123 (h : ax_rm σ m M A) (hI : mB A) (x : Int32) : ax_ok e0 mo 2 123 [aR m, aI x] σ (rf_an m M σ (oState A x)) := by
  have hR := hI.1.2
  refine sg_123_0 (d := 1) ⟨ax_kd h.1.1, ?_⟩
  refine ax_use0 (ct_120 h x) rfl ?_
  refine sg_123_6 (d := 1) ⟨ax_kd h.1.1, ?_⟩
  refine ax_use (as_86 h (inB x (mR A))) rfl fun w σ2 hw => ?_
  obtain ⟨rfl, h2, f2, t2⟩ := hw
  unfold oState
  refine sg_123_9 (d := 1) ⟨fun q => ?_, fun q => ?_⟩
  · rw [bI0 q] at t2 ⊢
    exact ⟨fun z => (Nat.one_ne_zero z).elim, t2, h2, f2⟩
  · have e := bI1 q
    rw [e] at t2 ⊢
    obtain ⟨r, hr, rfl⟩ := inB_yes e (by omega)
    obtain ⟨g1, g2, g3⟩ := rm_run h2 hI (f := 11) (Or.inl rfl) (show r < 80 by omega)
    refine ⟨ax_kd h2.1.1, by rw [g1]; exact g2, fun _ => ?_, t2, h2, f2⟩
    rw [g1, g3, (h2.2.2.2.1 r hr).1]
    rfl
/-- a job that there is -/
def jobB (A : MS) (x y z : Int32) : Bool := inB x (mR A) && inB y 8 && inB z 16 && !(Nat.beq (mJ A 0 x.toNatClampNeg y.toNatClampNeg z.toNatClampNeg) 8)
theorem jobB_yes {x y z : Int32} (h : jobB A x y z = true) (hI : mB A) : ∃ r k j, x = nI r ∧ y = nI k ∧ z = nI j ∧ r < mR A ∧ k < 8 ∧ j < 16 ∧ mJ A 0 r k j ≠ 8 ∧ x.toNatClampNeg = r ∧ y.toNatClampNeg = k ∧ z.toNatClampNeg = j := by
  have hR := hI.1.2
  unfold jobB at h
  simp only [Bool.and_eq_true] at h
  obtain ⟨⟨⟨h1, h2⟩, h3⟩, h4⟩ := h
  obtain ⟨r, hr, rfl⟩ := inB_yes h1 (by omega)
  obtain ⟨k, hk, rfl⟩ := inB_yes h2 (by decide)
  obtain ⟨j, hj, rfl⟩ := inB_yes h3 (by decide)
  have c1 : (nI r).toNatClampNeg = r := nI_clamp (by omega)
  have c2 : (nI k).toNatClampNeg = k := nI_clamp (by omega)
  have c3 : (nI j).toNatClampNeg = j := nI_clamp (by omega)
  rw [c1, c2, c3] at h4
  refine ⟨r, k, j, rfl, rfl, rfl, hr, hk, hj, fun z => ?_, c1, c2, c3⟩
  rw [z] at h4
  cases h4
theorem ct_124 (h : ax_rm σ m M A) (hI : mB A) (hT : mT A) (x y z : Int32) : ax_ok e0 mo 2 124 [aR m, aI x, aI y, aI z] σ (fun w σ2 => w = aI (bI (jobB A x y z)) ∧ ax_rm σ2 m M A ∧ rf_w m M σ σ2 ∧ sgI σ2 7 23 m = nI (bif jobB A x y z then 0 else 1)) := by
  have hR := hI.1.2
  have no : jobB A x y z = false → ∀ u : Int32, ax_wp e0 mo 1 86 (0, ax_entry 86 [aR m, aI 0], []) σ (ax_ct (fun w σ2 => ax_wp e0 mo 2 124 (64, [aR m, aI x, aI y, aI z, aI u], ax_push w []) σ2 (ax_ct (fun w σ2 => w = aI (bI (jobB A x y z)) ∧ ax_rm σ2 m M A ∧ rf_w m M σ σ2 ∧ sgI σ2 7 23 m = nI (bif jobB A x y z then 0 else 1)) (fun _ _ => False))) (fun E σ2 => ax_exc 124 61 (ax_ct (fun w σ2 => w = aI (bI (jobB A x y z)) ∧ ax_rm σ2 m M A ∧ rf_w m M σ σ2 ∧ sgI σ2 7 23 m = nI (bif jobB A x y z then 0 else 1)) (fun _ _ => False)) E σ2)) := fun e u => by
    refine ax_use (as_86 h false) rfl fun w σ2 hw => ?_
    obtain ⟨rfl, h2, f2, t2⟩ := hw
    refine sg_124_64 (d := 1) ⟨Or.inl rfl, ?_⟩
    rw [e]
    exact ⟨rfl, h2, f2, t2⟩
  refine sg_124_0 (d := 1) ⟨ax_kd h.1.1, ?_⟩
  refine ax_use0 (ct_120 h x) rfl ?_
  refine sg_124_5 (d := 1) ⟨fun q => ⟨fun _ => ⟨ax_kd h.1.1, no ?_ _⟩, fun q => absurd rfl q⟩, fun q => ?_⟩
  · unfold jobB
    rw [show inB x (mR A) = false from bI0 q]
    rfl
  · have e1 : inB x (mR A) = true := bI1 q
    refine ax_use0 (ct_85 _ _ _) rfl ?_
    refine sg_124_15 (d := 1) ⟨fun q => ⟨fun _ => ⟨ax_kd h.1.1, no ?_ _⟩, fun q => absurd rfl q⟩, fun q => ?_⟩
    · unfold jobB
      rw [e1, show inB y 8 = false from bI0 q]
      rfl
    · have e2 : inB y 8 = true := bI1 q
      refine ax_use0 (ct_85 _ _ _) rfl ?_
      refine sg_124_25 (d := 1) ⟨fun q => ⟨fun _ => ⟨ax_kd h.1.1, no ?_ _⟩, fun q => absurd rfl q⟩, fun q => ⟨fun q => absurd q (by decide), fun _ => ?_⟩⟩
      · unfold jobB
        rw [e1, e2, show inB z 16 = false from bI0 q]
        rfl
      · have e3 : inB z 16 = true := bI1 q
        obtain ⟨r, hr, rfl⟩ := inB_yes e1 (by omega)
        obtain ⟨k, hk, rfl⟩ := inB_yes e2 (by decide)
        obtain ⟨j, hj, rfl⟩ := inB_yes e3 (by decide)
        have c1 : (nI r).toNatClampNeg = r := nI_clamp (by omega)
        have c2 : (nI k).toNatClampNeg = k := nI_clamp (by omega)
        have c3 : (nI j).toNatClampNeg = j := nI_clamp (by omega)
        have hs : mJ A 0 r k j ≤ 8 := (hI.2.2.2.2.2 r k j hr).1
        refine ax_use0 ct_103 rfl ?_
        refine sg_124_48 (d := 1) ⟨ax_kd h.1.1, ?_⟩
        refine ax_use0 (ct_104 h hI hT hr hk hj) rfl ?_
        refine sg_124_51 (d := 1) (pk_eq (mJ A 0 r k j) 8 (fun q => ⟨ax_kd h.1.1, no ?_ _⟩) (fun q => ⟨ax_kd h.1.1, ?_⟩))
        · unfold jobB
          rw [e1, e2, e3, c1, c2, c3, q]
          rfl
        · have e4 : jobB A (nI r) (nI k) (nI j) = true := by
            unfold jobB
            rw [e1, e2, e3, c1, c2, c3, nb_ne q]
            rfl
          refine ax_use (as_86 h true) rfl fun w σ2 hw => ?_
          obtain ⟨rfl, h2, f2, t2⟩ := hw
          refine sg_124_64 (d := 1) ⟨Or.inr rfl, ?_⟩
          rw [e4]
          exact ⟨rfl, h2, f2, t2⟩
/-- a state as the document has it -/
abbrev mSt (s : Nat) : Nat := if s = 7 then 5 else s
def oJobState (A : MS) (x y z : Int32) : OC := bif jobB A x y z then ((0, nI (mSt (mJ A 0 x.toNatClampNeg y.toNatClampNeg z.toNatClampNeg))), A) else ((1, 0), A)
def oAttempts (A : MS) (x y z : Int32) : OC := bif jobB A x y z then ((0, nI (mJ A 1 x.toNatClampNeg y.toNatClampNeg z.toNatClampNeg)), A) else ((1, 0), A)
def oRestored (A : MS) (x y z : Int32) : OC := bif jobB A x y z then ((0, nI (mJ A 3 x.toNatClampNeg y.toNatClampNeg z.toNatClampNeg) - 1), A) else ((1, 0), A)
theorem ct_125 (h : ax_rm σ m M A) (hI : mB A) (hT : mT A) (x y z : Int32) : ax_ok e0 mo 3 125 [aR m, aI x, aI y, aI z] σ (rf_an m M σ (oJobState A x y z)) := by
  refine sg_125_0 (d := 2) ⟨ax_kd h.1.1, ?_⟩
  refine ax_use (ct_124 h hI hT x y z) rfl fun w σ2 hw => ?_
  obtain ⟨rfl, h2, f2, t2⟩ := hw
  unfold oJobState
  refine sg_125_7 (d := 2) ⟨fun q => ⟨fun q => absurd q (by decide), fun _ => ?_⟩, fun q => ?_⟩
  · rw [bI0 q] at t2 ⊢
    exact ⟨fun z => (Nat.one_ne_zero z).elim, t2, h2, f2⟩
  · have e := bI1 q
    rw [e] at t2 ⊢
    obtain ⟨r, k, j, rfl, rfl, rfl, hr, hk, hj, hs, c1, c2, c3⟩ := jobB_yes e hI
    rw [c1, c2, c3]
    have hs8 : mJ A 0 r k j ≤ 8 := (hI.2.2.2.2.2 r k j hr).1
    refine ax_use0 ct_103 rfl ?_
    refine sg_125_17 (d := 2) ⟨ax_kd h2.1.1, ?_⟩
    refine ax_use0 (ct_104 h2 hI hT hr hk hj) rfl ?_
    refine sg_125_20 (d := 2) (pk_eq (mJ A 0 r k j) 7 (fun q => ?_) (fun q => ?_))
    · refine ⟨fun _ => ?_, t2, h2, f2⟩
      show aI 5 = aI (nI (mSt (mJ A 0 r k j)))
      rw [q]; rfl
    · refine ⟨fun _ => ?_, t2, h2, f2⟩
      show _ = aI (nI (mSt (mJ A 0 r k j)))
      rw [show mSt (mJ A 0 r k j) = mJ A 0 r k j from if_neg q]
theorem mC_parts (hI : mB A) (hT : mT A) (hr : r < mR A) : mC A r k j / 512 = mJ A 1 r k j ∧ mC A r k j / 16 % 8 = mJ A 3 r k j ∧ mC A r k j / 128 % 4 = mJ A 2 r k j := by
  have h1 := (hI.2.2.2.2.2 r k j hr)
  unfold mC
  omega
theorem ct_126 (h : ax_rm σ m M A) (hI : mB A) (hT : mT A) (x y z : Int32) : ax_ok e0 mo 3 126 [aR m, aI x, aI y, aI z] σ (rf_an m M σ (oAttempts A x y z)) := by
  refine sg_126_0 (d := 2) ⟨ax_kd h.1.1, ?_⟩
  refine ax_use (ct_124 h hI hT x y z) rfl fun w σ2 hw => ?_
  obtain ⟨rfl, h2, f2, t2⟩ := hw
  unfold oAttempts
  refine sg_126_7 (d := 2) ⟨fun q => ?_, fun q => ⟨ax_kd h2.1.1, ?_⟩⟩
  · rw [bI0 q] at t2 ⊢
    exact ⟨fun z => (Nat.one_ne_zero z).elim, t2, h2, f2⟩
  · have e := bI1 q
    rw [e] at t2 ⊢
    obtain ⟨r, k, j, rfl, rfl, rfl, hr, hk, hj, hs, c1, c2, c3⟩ := jobB_yes e hI
    rw [c1, c2, c3]
    obtain ⟨g1, g2, g3, g4⟩ := rm_job h2 hI hr hk hj
    obtain ⟨b1, b2⟩ := mC_lt (k := k) (j := j) hI hT hr
    refine ax_use0 ct_103 rfl ?_
    rw [g1]
    refine sg_126_20 (d := 2) ⟨g2, by decide, fun _ => ?_, t2, h2, f2⟩
    show _ = aI (nI (mJ A 1 r k j))
    rw [g3, g4, show (512 : Int32) = nI 512 from rfl, pk_div (by omega) (by decide) (by decide), (mC_parts hI hT hr).1]
theorem ct_127 (h : ax_rm σ m M A) (hI : mB A) (hT : mT A) (x y z : Int32) : ax_ok e0 mo 3 127 [aR m, aI x, aI y, aI z] σ (rf_an m M σ (oRestored A x y z)) := by
  refine sg_127_0 (d := 2) ⟨ax_kd h.1.1, ?_⟩
  refine ax_use (ct_124 h hI hT x y z) rfl fun w σ2 hw => ?_
  obtain ⟨rfl, h2, f2, t2⟩ := hw
  unfold oRestored
  refine sg_127_7 (d := 2) ⟨fun q => ?_, fun q => ⟨ax_kd h2.1.1, ?_⟩⟩
  · rw [bI0 q] at t2 ⊢
    exact ⟨fun z => (Nat.one_ne_zero z).elim, t2, h2, f2⟩
  · have e := bI1 q
    rw [e] at t2 ⊢
    obtain ⟨r, k, j, rfl, rfl, rfl, hr, hk, hj, hs, c1, c2, c3⟩ := jobB_yes e hI
    rw [c1, c2, c3]
    obtain ⟨g1, g2, g3, g4⟩ := rm_job h2 hI hr hk hj
    obtain ⟨b1, b2⟩ := mC_lt (k := k) (j := j) hI hT hr
    refine ax_use0 ct_103 rfl ?_
    rw [g1]
    refine sg_127_20 (d := 2) ⟨g2, by decide, by decide, fun _ => ?_, t2, h2, f2⟩
    show _ = aI (nI (mJ A 3 r k j) - 1)
    rw [g3, g4, show (16 : Int32) = nI 16 from rfl, pk_div (by omega) (by decide) (by decide), show (8 : Int32) = nI 8 from rfl, pk_rem (by omega) (by decide) (by decide), (mC_parts hI hT hr).2.1]
/-- a stage of a run -/
def stgB (A : MS) (x y : Int32) : Bool := inB x (mR A) && inB y (mU A 16 x.toNatClampNeg)
theorem stgB_yes {x y : Int32} (h : stgB A x y = true) (hI : mB A) : ∃ r k, x = nI r ∧ y = nI k ∧ r < mR A ∧ k < mU A 16 r ∧ k < 8 ∧ x.toNatClampNeg = r ∧ y.toNatClampNeg = k := by
  have hR := hI.1.2
  unfold stgB at h
  rw [Bool.and_eq_true] at h
  obtain ⟨h1, h2⟩ := h
  obtain ⟨r, hr, rfl⟩ := inB_yes h1 (by omega)
  have c1 : (nI r).toNatClampNeg = r := nI_clamp (by omega)
  rw [c1] at h2
  have h16 := (hI.2.2.2.2.1 r hr).2.2.2.2.2.2
  have hN := hI.1.1
  obtain ⟨k, hk, rfl⟩ := inB_yes h2 (by omega)
  exact ⟨r, k, rfl, rfl, hr, hk, by omega, c1, nI_clamp (by omega)⟩
theorem ct_128 (h : ax_rm σ m M A) (hI : mB A) (x y : Int32) : ax_ok e0 mo 2 128 [aR m, aI x, aI y] σ (fun w σ2 => w = aI (bI (stgB A x y)) ∧ ax_rm σ2 m M A ∧ rf_w m M σ σ2 ∧ sgI σ2 7 23 m = nI (bif stgB A x y then 0 else 1)) := by
  have hR := hI.1.2
  refine sg_128_0 (d := 1) ⟨ax_kd h.1.1, ?_⟩
  refine ax_use0 (ct_120 h x) rfl ?_
  refine sg_128_5 (d := 1) ⟨fun q => ⟨ax_kd h.1.1, ?_⟩, fun q => ?_⟩
  · have e : stgB A x y = false := by
      unfold stgB
      rw [show inB x (mR A) = false from bI0 q]
      rfl
    refine ax_use (as_86 h false) rfl fun w σ2 hw => ?_
    obtain ⟨rfl, h2, f2, t2⟩ := hw
    refine sg_128_35 (d := 1) ⟨Or.inl rfl, ?_⟩
    rw [e]
    exact ⟨rfl, h2, f2, t2⟩
  · have e1 : inB x (mR A) = true := bI1 q
    obtain ⟨r, hr, rfl⟩ := inB_yes e1 (by omega)
    have c1 : (nI r).toNatClampNeg = r := nI_clamp (by omega)
    obtain ⟨g1, g2, g3⟩ := rm_run h hI (f := 14) (by decide) (show r < 80 by omega)
    have ev := (h.2.2.2.1 r hr).2.2.2
    refine ⟨ax_kd h.1.1, by rw [g1]; exact g2, ?_⟩
    rw [g1, g3, ev]
    refine ax_use0 (ct_85 _ _ _) rfl ?_
    have e2 : stgB A (nI r) y = inB y (mU A 16 r) := by
      unfold stgB
      rw [e1, c1]
      rfl
    refine sg_128_24 (d := 1) ⟨fun q => ⟨ax_kd h.1.1, ?_⟩, fun q => ⟨ax_kd h.1.1, ?_⟩⟩
    · have e : inB y (mU A 16 r) = false := bI0 q
      refine ax_use (as_86 h false) rfl fun w σ2 hw => ?_
      obtain ⟨rfl, h2, f2, t2⟩ := hw
      refine sg_128_35 (d := 1) ⟨Or.inl rfl, ?_⟩
      rw [e2, e]
      exact ⟨rfl, h2, f2, t2⟩
    · have e : inB y (mU A 16 r) = true := bI1 q
      refine ax_use (as_86 h true) rfl fun w σ2 hw => ?_
      obtain ⟨rfl, h2, f2, t2⟩ := hw
      refine sg_128_35 (d := 1) ⟨Or.inr rfl, ?_⟩
      rw [e2, e]
      exact ⟨rfl, h2, f2, t2⟩
end
end AXMK
