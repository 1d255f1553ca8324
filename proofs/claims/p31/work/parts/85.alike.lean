/-! The law's comparison answers 1. -/
section AXAL
section
variable {e0 ms mo scr len a b pa : Nat} {p q : Nat → Nat} {τ : SG} {A : MS} {n Z U : Nat}
theorem mQ_lt (h : lwA A n) : (mQ A).length < 2 ^ 31 := by
  have := mQ_len h.1.2.1 h.1.2.2.1
  omega
theorem mE_lt (h : lwA A n) : (mE A).length < 2 ^ 31 := by
  have := h.1.2.2.2.2.2.1.1
  omega
theorem mR_lt (h : lwA A n) : mR A ≤ 80 := h.1.1.1.1.2
theorem cs_in {x : Int32} {N : Nat} {o o' : OC} (h : inB x N = true) (ho : o.1.1 = 0) : cs (bif inB x N then o else o') = 0 := by
  rw [h]
  exact cs_0 ho
theorem inBn {j N : Nat} (hj : j < N) (hN : N < 2 ^ 31) : inB (nI j) N = true := in_nI hj hN
theorem cs_qr {j : Nat} (h : lwA A n) (hj : j < (mQ A).length) : cs (oQRun A (nI j)) = 0 := cs_in (inBn hj (mQ_lt h)) rfl
theorem cs_qs {j : Nat} (h : lwA A n) (hj : j < (mQ A).length) : cs (oQStage A (nI j)) = 0 := cs_in (inBn hj (mQ_lt h)) rfl
theorem cs_es {j : Nat} (h : lwA A n) (hj : j < (mE A).length) : cs (oEStage A (nI j)) = 0 := cs_in (inBn hj (mE_lt h)) rfl
theorem cs_ei {j c : Nat} (h : lwA A n) (hj : j < (mE A).length) (hc : c < 3) : cs (oEInput A (nI j) (nI c)) = 0 := by
  unfold oEInput
  rw [inBn hj (mE_lt h), inBn hc (by decide)]
  rfl
/-- what areAlike comes to -/
def alQ (e0 ms mo scr len a b pa : Nat) (p q : Nat → Nat) (A : MS) (n Z U : Nat) : Res → SG → Prop := ax_ct (fun w τ2 => w = aI 1 ∧ lv e0 ms mo scr len a b pa p q τ2 A n Z U) (fun _ _ => False)
/-- the jobs of one stage -/
theorem al_job {Q : Res → SG → Prop} {run : Int32} {k : Nat} (hk : k < 4) {U0 Z0 : Nat} (K : ∀ τ2, lv e0 ms mo scr len a b pa p q τ2 A n (Z0 + 24) (U0 + 144) → ax_wp e0 mo 12 150 (297, [aR a, aR b, aR pa, aI run, aI 1, aI (nI k + 1), aI (nI 4)], []) τ2 Q) :
    ∀ d j (τ : SG), j + d = 4 → lv e0 ms mo scr len a b pa p q τ A n (Z0 + 6 * j) (U0 + 36 * j) → ax_wp e0 mo 12 150 (319, [aR a, aR b, aR pa, aI run, aI 1, aI (nI k), aI (nI j)], []) τ Q := by
  intro d
  induction d with
  | zero =>
    intro j τ hj h
    obtain rfl : j = 4 := by omega
    exact sg_150_319 (d := 11) ⟨fun z => absurd z (by decide), fun _ => K τ h⟩
  | succ d ih =>
    intro j τ hj h
    refine sg_150_319 (d := 11) ⟨fun _ => ⟨fun z => absurd z (by decide), fun _ => ax_use (ra_js h run (nI k) (nI j)) rfl fun v τ1 hv => ?_⟩, fun z => absurd (nI_lt (b := 4) (by omega) (by decide)) z⟩
    obtain ⟨rfl, h1⟩ := hv
    refine sg_150_340 (d := 11) (ax_use (rb_js h1 run (nI k) (nI j)) rfl fun v τ2 hv => ?_)
    obtain ⟨rfl, h2⟩ := hv
    refine sg_150_350 (d := 11) ⟨fun _ => ax_use (ra_ja h2 run (nI k) (nI j)) rfl fun v τ3 hv => ?_, fun z => absurd rfl z⟩
    obtain ⟨rfl, h3⟩ := hv
    refine sg_150_363 (d := 11) (ax_use (rb_ja h3 run (nI k) (nI j)) rfl fun v τ4 hv => ?_)
    obtain ⟨rfl, h4⟩ := hv
    refine sg_150_373 (d := 11) ⟨fun _ => ax_use (ra_jr h4 run (nI k) (nI j)) rfl fun v τ5 hv => ?_, fun z => absurd rfl z⟩
    obtain ⟨rfl, h5⟩ := hv
    refine sg_150_386 (d := 11) (ax_use (rb_jr h5 run (nI k) (nI j)) rfl fun v τ6 hv => ?_)
    obtain ⟨rfl, h6⟩ := hv
    refine sg_150_396 (d := 11) ⟨fun _ => ?_, fun z => absurd rfl z⟩
    rw [nI_1]
    have c1 := cs_le (oJobState A run (nI k) (nI j))
    have c2 := cs_le (oAttempts A run (nI k) (nI j))
    have c3 := cs_le (oRestored A run (nI k) (nI j))
    exact ih (j + 1) τ6 (by omega) (lv_le h6 (by omega) (by omega))
/-- the stages of the run -/
theorem al_stage {run : Int32} {Z0 U0 : Nat} (hA : lwA A n) : ∀ d k (τ : SG) (l6 : AV), k + d = 4 → lv e0 ms mo scr len a b pa p q τ A n (Z0 + 24 * k) (U0 + 144 * k) → ax_wp e0 mo 12 150 (297, [aR a, aR b, aR pa, aI run, aI 1, aI (nI k), l6], []) τ (alQ e0 ms mo scr len a b pa p q A n (Z0 + 96) (U0 + 576)) := by
  intro d
  induction d with
  | zero =>
    intro k τ l6 hk h
    obtain rfl : k = 4 := by omega
    exact sg_150_297 (d := 11) ⟨fun z => absurd z (by decide), fun _ => ⟨Or.inr rfl, rfl, h⟩⟩
  | succ d ih =>
    intro k τ l6 hk h
    refine sg_150_297 (d := 11) ⟨fun _ => ⟨lv_kd h, ax_use (ra_runs h) rfl fun v τ1 hv => ?_⟩, fun z => absurd (nI_lt (b := 4) (by omega) (by decide)) z⟩
    obtain ⟨rfl, h1⟩ := hv
    refine sg_150_308 (d := 11) ⟨fun _ => ⟨fun z => absurd z (by decide), fun _ => ?_⟩, fun _ => ⟨Or.inr rfl, rfl, lv_le h1 (by omega) (by omega)⟩⟩
    refine al_job (Z0 := Z0 + 24 * k) (U0 := U0 + 144 * k) (show k < 4 by omega) (fun τ2 h2 => ?_) 4 0 τ1 rfl h1
    rw [nI_1]
    exact ih (k + 1) τ2 _ (by omega) (lv_le h2 (by omega) (by omega))
/-- the cache's entries -/
theorem al_entry {Q : Res → SG → Prop} {run : Int32} (hA : lwA A n) (K : ∀ τ2, lv e0 ms mo scr len a b pa p q τ2 A n Z U → ax_wp e0 mo 12 150 (297, [aR a, aR b, aR pa, aI run, aI 1, aI 0, aU], []) τ2 Q) :
    ∀ d k (τ : SG), k + d = (mE A).length → lv e0 ms mo scr len a b pa p q τ A n Z U → ax_wp e0 mo 12 150 (187, [aR a, aR b, aR pa, aI run, aI 1, aI (nI k), aU], []) τ Q := by
  have hE := mE_lt hA
  intro d
  induction d with
  | zero =>
    intro k τ hk h
    refine sg_150_187 (d := 11) ⟨lv_kd h, ax_use (ra_entries h) rfl fun v τ1 hv => ?_⟩
    obtain ⟨rfl, h1⟩ := hv
    exact sg_150_193 (d := 11) ⟨fun z => absurd z (nI_nlt (by omega) (by omega)), fun _ => K τ1 h1⟩
  | succ d ih =>
    intro k τ hk h
    have hk' : k < (mE A).length := by omega
    refine sg_150_187 (d := 11) ⟨lv_kd h, ax_use (ra_entries h) rfl fun v τ0 hv => ?_⟩
    obtain ⟨rfl, h⟩ := hv
    have z0 := cs_es hA hk'
    have e0' := cs_ei (c := 0) hA hk' (by decide)
    have e1 := cs_ei (c := 1) hA hk' (by decide)
    have e2 := cs_ei (c := 2) hA hk' (by decide)
    refine sg_150_193 (d := 11) ⟨fun _ => ⟨fun z => absurd z (by decide), fun _ => ax_use (ra_es h (nI k)) rfl fun v τ1 hv => ?_⟩, fun z => absurd (nI_lt hk' hE) z⟩
    obtain ⟨rfl, h1⟩ := hv
    refine sg_150_208 (d := 11) (ax_use (rb_es h1 (nI k)) rfl fun v τ2 hv => ?_)
    obtain ⟨rfl, h2⟩ := hv
    refine sg_150_215 (d := 11) ⟨fun _ => ax_use (ra_ei h2 (nI k) (nI 0) (nI 0)) rfl fun v τ3 hv => ?_, fun z => absurd rfl z⟩
    obtain ⟨rfl, h3⟩ := hv
    refine sg_150_227 (d := 11) (ax_use (rb_ei h3 (nI k) (nI 0) (nI 0)) rfl fun v τ4 hv => ?_)
    obtain ⟨rfl, h4⟩ := hv
    refine sg_150_236 (d := 11) ⟨fun _ => ax_use (ra_ei h4 (nI k) (nI 0) (nI 1)) rfl fun v τ5 hv => ?_, fun z => absurd rfl z⟩
    obtain ⟨rfl, h5⟩ := hv
    refine sg_150_248 (d := 11) (ax_use (rb_ei h5 (nI k) (nI 0) (nI 1)) rfl fun v τ6 hv => ?_)
    obtain ⟨rfl, h6⟩ := hv
    refine sg_150_257 (d := 11) ⟨fun _ => ax_use (ra_ei h6 (nI k) (nI 0) (nI 2)) rfl fun v τ7 hv => ?_, fun z => absurd rfl z⟩
    obtain ⟨rfl, h7⟩ := hv
    refine sg_150_269 (d := 11) (ax_use (rb_ei h7 (nI k) (nI 0) (nI 2)) rfl fun v τ8 hv => ?_)
    obtain ⟨rfl, h8⟩ := hv
    refine sg_150_278 (d := 11) ⟨fun _ => ?_, fun z => absurd rfl z⟩
    rw [nI_1]
    exact ih (k + 1) τ8 (by omega) (lv_le h8 (by omega) (by omega))
/-- the queue -/
theorem al_queue {Q : Res → SG → Prop} {run : Int32} (hA : lwA A n) (K : ∀ τ2, lv e0 ms mo scr len a b pa p q τ2 A n Z U → ax_wp e0 mo 12 150 (187, [aR a, aR b, aR pa, aI run, aI 1, aI 0, aU], []) τ2 Q) :
    ∀ d k (τ : SG), k + d = (mQ A).length → lv e0 ms mo scr len a b pa p q τ A n Z U → ax_wp e0 mo 12 150 (123, [aR a, aR b, aR pa, aI run, aI 1, aI (nI k), aU], []) τ Q := by
  have hQ := mQ_lt hA
  intro d
  induction d with
  | zero =>
    intro k τ hk h
    refine sg_150_123 (d := 11) ⟨lv_kd h, ax_use (ra_queued h) rfl fun v τ1 hv => ?_⟩
    obtain ⟨rfl, h1⟩ := hv
    exact sg_150_129 (d := 11) ⟨fun z => absurd z (nI_nlt (by omega) (by omega)), fun _ => K τ1 h1⟩
  | succ d ih =>
    intro k τ hk h
    have hk' : k < (mQ A).length := by omega
    refine sg_150_123 (d := 11) ⟨lv_kd h, ax_use (ra_queued h) rfl fun v τ0 hv => ?_⟩
    obtain ⟨rfl, h⟩ := hv
    have z0 := cs_qr hA hk'
    have z1 := cs_qs hA hk'
    refine sg_150_129 (d := 11) ⟨fun _ => ⟨fun z => absurd z (by decide), fun _ => ax_use (ra_qr h (nI k)) rfl fun v τ1 hv => ?_⟩, fun z => absurd (nI_lt hk' hQ) z⟩
    obtain ⟨rfl, h1⟩ := hv
    refine sg_150_144 (d := 11) (ax_use (rb_qr h1 (nI k)) rfl fun v τ2 hv => ?_)
    obtain ⟨rfl, h2⟩ := hv
    refine sg_150_151 (d := 11) ⟨fun _ => ax_use (ra_qs h2 (nI k)) rfl fun v τ3 hv => ?_, fun z => absurd rfl z⟩
    obtain ⟨rfl, h3⟩ := hv
    refine sg_150_161 (d := 11) (ax_use (rb_qs h3 (nI k)) rfl fun v τ4 hv => ?_)
    obtain ⟨rfl, h4⟩ := hv
    refine sg_150_168 (d := 11) ⟨fun _ => ?_, fun z => absurd rfl z⟩
    rw [nI_1]
    exact ih (k + 1) τ4 (by omega) (lv_le h4 (by omega) (by omega))
/-- the workers -/
theorem al_worker {Q : Res → SG → Prop} {run : Int32} (hp : pq p q) (hp4 : ∀ w, w < 4 → p w < 4) (K : ∀ τ2, lv e0 ms mo scr len a b pa p q τ2 A n Z U → ax_wp e0 mo 12 150 (123, [aR a, aR b, aR pa, aI run, aI 1, aI 0, aU], []) τ2 Q) :
    ∀ d w (τ : SG), w + d = 4 → lv e0 ms mo scr len a b pa p q τ A n Z U → ax_wp e0 mo 12 150 (58, [aR a, aR b, aR pa, aI run, aI 1, aI (nI w), aU], []) τ Q := by
  intro d
  induction d with
  | zero =>
    intro w τ hw h
    obtain rfl : w = 4 := by omega
    exact sg_150_58 (d := 11) ⟨fun z => absurd z (by decide), fun _ => K τ h⟩
  | succ d ih =>
    intro w τ hw h
    have hw4 : w < 4 := by omega
    refine sg_150_58 (d := 11) ⟨fun _ => ⟨fun z => absurd z (by decide), fun _ => ax_use (ra_wr h hw4) rfl fun v τ1 hv => ?_⟩, fun z => absurd (nI_lt (b := 4) hw4 (by decide)) z⟩
    obtain ⟨rfl, h1⟩ := hv
    refine sg_150_76 (d := 11) ⟨ax_in_nI h1.2.2.2.1 hw4 (by decide), ?_⟩
    rw [nI_clamp (show w < 2 ^ 31 by omega), h1.2.2.2.2.1 w hw4]
    refine ax_use (rb_wr hp hw4 (hp4 w hw4) h1) rfl fun v τ2 hv => ?_
    obtain ⟨rfl, h2⟩ := hv
    refine sg_150_85 (d := 11) ⟨fun _ => ax_use (ra_ws h2 hw4) rfl fun v τ3 hv => ?_, fun z => absurd rfl z⟩
    obtain ⟨rfl, h3⟩ := hv
    refine sg_150_95 (d := 11) ⟨ax_in_nI h3.2.2.2.1 hw4 (by decide), ?_⟩
    rw [nI_clamp (show w < 2 ^ 31 by omega), h3.2.2.2.2.1 w hw4]
    refine ax_use (rb_ws hp hw4 (hp4 w hw4) h3) rfl fun v τ4 hv => ?_
    obtain ⟨rfl, h4⟩ := hv
    refine sg_150_104 (d := 11) ⟨fun _ => ?_, fun z => absurd rfl z⟩
    rw [nI_1]
    exact ih (w + 1) τ4 (by omega) h4
theorem ct_150 (hp : pq p q) (hp4 : ∀ w, w < 4 → p w < 4) (h : lv e0 ms mo scr len a b pa p q τ A n Z U) (run : Int32) : ax_ok e0 mo 12 150 [aR a, aR b, aR pa, aI run] τ (fun w τ2 => w = aI 1 ∧ lv e0 ms mo scr len a b pa p q τ2 A n (Z + 98) (U + 588)) := by
  have hA := h.2.1
  refine sg_150_0 (d := 11) ⟨lv_kd h, ax_use (ra_runs h) rfl fun v τ1 hv => ?_⟩
  obtain ⟨rfl, h1⟩ := hv
  refine sg_150_4 (d := 11) ⟨lv_kb h1, ax_use (rb_runs h1) rfl fun v τ2 hv => ?_⟩
  obtain ⟨rfl, h2⟩ := hv
  refine sg_150_8 (d := 11) ⟨fun _ => ⟨lv_kd h2, ax_use (ra_queued h2) rfl fun v τ3 hv => ?_⟩, fun z => absurd rfl z⟩
  obtain ⟨rfl, h3⟩ := hv
  refine sg_150_15 (d := 11) ⟨lv_kb h3, ax_use (rb_queued h3) rfl fun v τ4 hv => ?_⟩
  obtain ⟨rfl, h4⟩ := hv
  refine sg_150_19 (d := 11) ⟨fun _ => ⟨lv_kd h4, ax_use (ra_entries h4) rfl fun v τ5 hv => ?_⟩, fun z => absurd rfl z⟩
  obtain ⟨rfl, h5⟩ := hv
  refine sg_150_26 (d := 11) ⟨lv_kb h5, ax_use (rb_entries h5) rfl fun v τ6 hv => ?_⟩
  obtain ⟨rfl, h6⟩ := hv
  refine sg_150_30 (d := 11) ⟨fun _ => ax_use (ra_st h6 run) rfl fun v τ7 hv => ?_, fun z => absurd rfl z⟩
  obtain ⟨rfl, h7⟩ := hv
  refine sg_150_39 (d := 11) (ax_use (rb_st h7 run) rfl fun v τ8 hv => ?_)
  obtain ⟨rfl, h8⟩ := hv
  have c := cs_le (oState A run)
  have h9 : lv e0 ms mo scr len a b pa p q τ8 A n (Z + 2) (U + 12) := lv_le h8 (by omega) (by omega)
  refine sg_150_45 (d := 11) ⟨fun _ => ?_, fun z => absurd rfl z⟩
  refine al_worker hp hp4 (fun τ9 g => ?_) 4 0 τ8 rfl h9
  refine al_queue hA (fun τ9 g => ?_) (mQ A).length 0 τ9 (Nat.zero_add _) g
  refine al_entry hA (fun τ9 g => ?_) (mE A).length 0 τ9 (Nat.zero_add _) g
  exact al_stage (Z0 := Z + 2) (U0 := U + 12) hA 4 0 τ9 aU rfl g
end
end AXAL
