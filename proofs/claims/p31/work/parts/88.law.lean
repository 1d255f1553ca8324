/-! The law answers 1 on the abstract machine. -/
section AXLL
theorem mJJ_0 : mJJ mS0 := by
  have z : ∀ f r k j, mS0.1 f r k j = 0 := fun _ _ _ _ => rfl
  refine ⟨⟨⟨⟨by decide, by decide⟩, fun k hk => absurd hk (Nat.not_lt_zero k), fun k => ⟨Nat.zero_le _, Nat.zero_le _, Nat.zero_le _, Nat.zero_le _, Nat.zero_le _⟩, fun k f _ _ _ => rfl, fun r hr => absurd hr (Nat.not_lt_zero r), fun r k j hr => absurd hr (Nat.not_lt_zero r)⟩, fun r k hr => absurd hr (Nat.not_lt_zero r), fun r hr => absurd hr (Nat.not_lt_zero r)⟩, Nat.zero_le _, ⟨List.nodup_nil, fun p hp => absurd hp List.not_mem_nil⟩, ⟨fun w _ => rfl, fun w v h => absurd rfl h, fun w p h => absurd h.symm (Nat.succ_ne_zero p)⟩, ⟨fun r k j hr => absurd hr (Nat.not_lt_zero r), fun r k j hr => absurd hr (Nat.not_lt_zero r), fun r k j j' hr => absurd hr (Nat.not_lt_zero r)⟩, ⟨Nat.zero_le _, fun e he => absurd he List.not_mem_nil⟩, rfl⟩
theorem lwA_0 : lwA mS0 0 := ⟨mJJ_0, fun _ _ _ => Nat.le_refl _, fun k hk => absurd hk (Nat.not_lt_zero k), fun r k j hr => absurd hr (Nat.not_lt_zero r)⟩
theorem lRho_le {e0 x : Nat} {σ : SG} {L : LY} {A : MS} (h : ax_rc e0 σ x L A) : lRho L ≤ 8000 := by
  have c := h.2.2.2.2.2.2.2.2.2.2.2.2.2.1
  have c0 := (c 0 (by decide)).1
  have c1 := (c 1 (by decide)).1
  have c2 := (c 2 (by decide)).1
  have c3 := (c 3 (by decide)).1
  show lC L 0 + lC L 1 + lC L 2 + lC L 3 ≤ 8000
  omega
theorem pm_0 (q : Nat → Nat) : pm q mS0 = mS0 := (pm_ext (fun _ _ _ _ _ => rfl) (fun _ _ _ => rfl) rfl).symm
theorem jj_room {e0 ms mo a b : Nat} {τ : SG} {A B : MS} {ws : List Nat} {Z U : Nat} (h : jj e0 ms mo τ a b A B ws Z U) : sgZ τ ≤ Z + 16000 ∧ sgU τ ≤ U + 64000 := by
  obtain ⟨φ, σ, x, L, φ', σ', x', L', ⟨-, h1, -⟩, ⟨-, h2, -⟩, -, -, h5, h6⟩ := h
  have r1 := lRho_le h1
  have r2 := lRho_le h2
  exact ⟨by omega, by omega⟩
theorem law_wp {e0 mo scr len : Nat} {τ : SG} (ks : sgK τ scr = (25, len)) (zs : scr < sgZ τ) (ke : sgK τ e0 = (23, 0)) (ze : e0 < sgZ τ) (h0 : 0 < e0) (hse : scr ≠ e0) (hr : ∀ i, sgR τ 23 i e0 = 0) (hm : 0 < mo) (hlen : len < 2 ^ 31) : ax_wp e0 mo 14 195 (0, ax_entry 195 [aR scr], []) τ (fun r τ' => r = .inl (aI 1) ∧ sgZ τ' ≤ sgZ τ + 15 + 190000 ∧ sgU τ' ≤ sgU τ + 48 + 2600000) := by
  refine sg_195_0 (d := 13) ⟨by omega, ax_use (jj_one ss_cks h0 ze ke hr hm) rfl fun w τ1 hw => ?_⟩
  obtain ⟨rfl, ⟨φ, σ, x, L, s1, o1⟩, z1, u1, f1⟩ := hw
  have ke1 : sgK τ1 e0 = (23, 0) := (f1 e0 ze).1.trans ke
  refine sg_195_7 (d := 13) ⟨by omega, ax_use (jj_one ss_cks h0 (by omega) ke1 (fun i => ((f1 e0 ze).2 23 i).2.2.trans (hr i)) hm) rfl fun w τ2 hw => ?_⟩
  obtain ⟨rfl, ⟨φ', σ', x', L', s2, o2⟩, z2, u2, f2⟩ := hw
  have ks2 : sgK τ2 scr = (25, len) := ((f2 scr (by omega)).1.trans (f1 scr zs).1).trans ks
  have J0 : jj e0 (e0 + 1) mo τ2 (sgZ τ) (sgZ τ1) mS0 mS0 [scr] (sgZ τ2) (sgU τ2) := by
    refine ⟨φ, σ, x, L, φ', σ', x', L', ⟨ss_stay s1.1 (by omega) (fun q hq => (f2 q hq).1) fun r hr hk k i => (f2 _ (ss_kd s1.1 hr rfl hk).1).2 k i, s1.2⟩, s2, fun r s hr hs => ?_, fun w hw => ?_, by omega, by omega⟩
    · have a1 := (ss_kd s1.1 hr.1 rfl hr.2.1).1
      have a2 := o2 s hs
      omega
    · rw [List.mem_singleton] at hw
      subst hw
      exact ⟨by omega, fun r hr => by have := o1 r hr; omega, fun r hr => by have := o2 r hr; omega⟩
  have J1 := jj_mk J0 20 4
  have kp : sgK (mkC τ2 20 4) (sgZ τ2) = (20, 4) := by rw [gK_mk, if_pos rfl]
  have ks3 : sgK (mkC τ2 20 4) scr = (25, len) := by rw [gK_mk, if_neg (by omega)]; exact ks2
  refine sg_195_15 (d := 13) ⟨⟨by decide, by decide⟩, ?_⟩
  rw [show ((4 : Int32).toNatClampNeg) = 4 from rfl]
  refine ax_use (ct_149 (f := fun i => sgI (mkC τ2 20 4) 25 i scr) (k := 0) ks3 (fun _ => rfl) hlen (by decide)) rfl fun v τ3 hv => ?_
  obtain ⟨rfl, rfl⟩ := hv
  obtain ⟨z, hz, ez⟩ := drw_nat (fun i => sgI (mkC τ2 20 4) 25 i scr) len 0
  rw [ez]
  refine sg_195_25 (d := 13) ⟨by decide, ?_⟩
  rw [show nI z - nI z / 4 * 4 = nI (z % 4) from pk_rem (d := 4) hz (by decide) (by decide)]
  refine sg_195_27 (d := 13) ?_
  refine la_fill hz ez hlen (by omega) (by omega) (fun τ4 j4 k4 p4 s4 _ => ?_) 4 0 _ rfl J1 kp (fun w hw => absurd hw (Nat.not_lt_zero w)) ks3 (fun _ => rfl)
  refine sg_195_77 (d := 13) ?_
  have hpq := pq_z z
  have hp4 := pp_lt z
  have l0 : lv e0 (e0 + 1) mo scr len (sgZ τ) (sgZ τ1) (sgZ τ2) (pp z) (qq z) τ4 mS0 0 (sgZ τ2 + 1) (sgU τ2 + 4) := ⟨by rw [pm_0]; exact j4, lwA_0, by rw [pm_0]; exact lwA_0, k4, p4, s4⟩
  refine la_stages hlen (Z0 := sgZ τ2 + 1) (U0 := sgU τ2 + 4) (fun τ5 A5 l7 l5 => ?_) 4 0 τ4 mS0 aU rfl l0 rfl rfl
  refine sg_195_286 (d := 13) ?_
  refine la_turns hpq hp4 hlen (Z0 := sgZ τ2 + 1 + 12480) (U0 := sgU τ2 + 4 + 192000) (fun τ6 A6 n6 m7 m8 m9 m10 l6 => ?_) 175 0 τ5 A5 16 l7 aU aU aU rfl l5
  refine sg_195_577 (d := 13) ?_
  have hR := mR_lt l6.2.1
  refine la_last hpq hp4 (Z0 := sgZ τ2 + 1 + 12480 + 878 * 175) (U0 := sgU τ2 + 4 + 192000 + 12588 * 175) hR (fun τ7 l7' => ?_) (mR A6) 0 τ6 (Nat.zero_add _) l6
  obtain ⟨r1, r2⟩ := jj_room l7'.1
  exact ⟨rfl, by omega, by omega⟩
end AXLL
