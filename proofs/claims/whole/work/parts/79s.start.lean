/-! The law's start. -/
section AXLWS
theorem mJJ_0 : mJJ mS0 := by
  have z : ∀ f r k j, mS0.1 f r k j = 0 := fun _ _ _ _ => rfl
  refine ⟨⟨⟨⟨by decide, by decide⟩, fun k hk => absurd hk (Nat.not_lt_zero k), fun k => ⟨Nat.zero_le _, Nat.zero_le _, Nat.zero_le _, Nat.zero_le _, Nat.zero_le _⟩, fun k f _ _ _ => rfl, fun r hr => absurd hr (Nat.not_lt_zero r), fun r k j hr => absurd hr (Nat.not_lt_zero r)⟩, fun r k hr => absurd hr (Nat.not_lt_zero r), fun r hr => absurd hr (Nat.not_lt_zero r)⟩, Nat.zero_le _, ⟨List.nodup_nil, fun p hp => absurd hp List.not_mem_nil⟩, ⟨fun w _ => rfl, fun w v h => absurd rfl h, fun w p h => absurd h.symm (Nat.succ_ne_zero p)⟩, ⟨fun r k j hr => absurd hr (Nat.not_lt_zero r), fun r k j hr => absurd hr (Nat.not_lt_zero r), fun r k j j' hr => absurd hr (Nat.not_lt_zero r)⟩, ⟨Nat.zero_le _, fun e he => absurd he List.not_mem_nil⟩, rfl⟩
theorem lwA_0 : lwA mS0 0 := ⟨mJJ_0, fun _ _ _ => Nat.le_refl _, fun k hk => absurd hk (Nat.not_lt_zero k), fun r k j hr => absurd hr (Nat.not_lt_zero r)⟩
theorem lRho_le {e0 x : Nat} {σ : SG} {L : LY} {A : MS} (h : ax_rc e0 σ x L A) : lRho L ≤ 8000 := by
  have c := h.2.2.2.2.2.2.2.2.2.2.2.2.2.1
  have c0 := (c 0 (by decide)).1
  have c1 := (c 1 (by decide)).1
  have c2 := (c 2 (by decide)).1
  have c3 := (c 3 (by decide)).1
  show lC L 0 + lC L 1 + lC L 2 + lC L 3 ≤ 8000
  omega
theorem law_wp {e0 mo scr len : Nat} {σ : SG} (ks : sgK σ scr = (25, len)) (zs : scr < sgZ σ) (ke : sgK σ e0 = (23, 0)) (ze : e0 < sgZ σ) (h0 : 0 < sgZ σ) (hlen : len ≤ 2560) : ax_wp e0 mo 14 195 (0, ax_entry 195 [aR scr], []) σ (fun r σ' => r = .inl (aI 1) ∧ sgZ σ' ≤ sgZ σ + 28 + 8000 + 390 * 512 ∧ sgU σ' ≤ sgU σ + 11654 + 32000 + 6000 * 512) := by
  have kx : sgK (mkC σ 6 5) (sgZ σ) = (6, 5) := by rw [gK_mk, if_pos rfl]
  refine sg_195_0 (d := 13) ⟨h0, ax_use (ct_32 kx (Nat.lt_succ_self _) h0 (by rw [gK_mk, if_neg (Nat.ne_of_lt ze)]; exact ke) (Nat.lt_succ_of_lt ze)) rfl fun w σ1 hw => ?_⟩
  obtain ⟨rfl, ⟨L1, rc1⟩, F1, z1, u1⟩ := hw
  have z1 : sgZ σ1 = sgZ σ + 7 := z1
  have u1 : sgU σ1 = sgU σ + 22 := u1
  have km : sgK (mkC σ1 7 24) (sgZ σ1) = (7, 24) := by rw [gK_mk, if_pos rfl]
  refine sg_195_7 (d := 13) ⟨by omega, ax_use (ct_83 km (Nat.lt_succ_self _) (by omega) (fun i => by rw [gI_mk, if_pos ⟨rfl, rfl⟩])) rfl fun w σ2 hw => ?_⟩
  obtain ⟨rfl, ⟨M, rm, hM⟩, F2, z2, u2⟩ := hw
  have z2 : sgZ σ2 = sgZ σ + 27 := by rw [z2]; show sgZ σ1 + 1 + 19 = _; omega
  have u2 : sgU σ2 = sgU σ + 11653 := by rw [u2]; show sgU σ1 + 24 + 11607 = _; omega
  refine sg_195_15 (d := 13) ⟨⟨by decide, by decide⟩, ?_⟩
  have F12 : ax_F (fun k _ q => k = 7) σ1 (mkC σ2 22 1) := (((ax_F.refl _ σ1).mkC (k := 7) (n := 24)).trans (F2.mono fun _ _ _ _ z => z.1)).mkC
  have F01 : ax_F (fun k _ q => k = 6 ∧ q = sgZ σ) (mkC σ 6 5) σ1 := F1
  have kk : ∀ q, q < sgZ σ → sgK (mkC σ2 22 1) q = sgK σ q := fun q hq => by
    rw [F12.2.2.1 q (by omega), F01.2.2.1 q (by show q < sgZ σ + 1; omega), gK_mk, if_neg (by omega)]
  have hlw : lw e0 scr (sgZ σ) (sgZ σ1) (sgZ σ2) len M (sgZ σ + 28) (sgU σ + 11654) 0 (mkC σ2 22 1) L1 mS0 := by
    refine ⟨lwA_0, rm_F rm (W := fun _ _ _ => False) ((ax_F.refl _ _).mkC) (by omega) (fun i hi => (hM i hi).2) (fun _ => id) (fun _ _ _ _ _ => id), rc_F rc1 F12 (fun k i q z => Or.inl z), ⟨by rw [gK_mk, if_pos rfl], by rw [kk e0 ze]; exact ke, by rw [kk scr zs]; exact ks⟩, ⟨by show _ < sgZ σ2 + 1; omega, fun i hi => by have := (hM i hi).2; show _ < sgZ σ2 + 1; omega, Nat.lt_succ_self _, by show _ < sgZ σ2 + 1; omega, by show _ < sgZ σ2 + 1; omega⟩, fun i hi => by have := (hM i hi).2; omega, by show sgZ σ2 + 1 ≤ _; omega, by show sgU σ2 + 1 ≤ _; omega⟩
  refine lw_loop hlen (fun n σ' L' A' hn h => ?_) 512 0 _ L1 mS0 aU aU rfl hlw
  have hr := lRho_le h.2.2.1
  obtain ⟨-, -, -, -, -, -, b1, b2⟩ := h
  exact ⟨rfl, by omega, by omega⟩
end AXLWS
