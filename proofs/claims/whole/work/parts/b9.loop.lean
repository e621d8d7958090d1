/-! the law's loop -/
section LLOOP
variable {L : Nat} {xs : Nat → Int}
theorem law_loop (hL : L ≤ 2147483647) : ∀ (n k : Nat) (i : Int) (S : ShT) (σ : StT) (M : Ms), i = 6 * (k : Int) → 6 * (k + n) ≤ L → L < 6 * (k + n) + 6 → SHP S → S.1 ≤ 155 + k → S.2.1 BIG = (7, L) → (∀ j, σ BIG j = xs j) → cT σ M → mT σ M → AW mL_law 23 (lL i) [] S σ n (152 * n) (fun r _ _ => r = 1) := by
  intro n
  induction n with
  | zero =>
    intro k i S σ M hi b1 b2 hS hz hk hx hc hm
    refine r_iload dL_law_23 rfl ?_
    refine r_aload_n dL_law_25 rfl ?_
    refine r_alen dL_law_26 hk hL ?_
    refine r_bipush dL_law_27 (by decide) ⟨by decide, by decide⟩ ?_
    refine r_isub dL_law_29 ⟨by omega, by omega⟩ ?_
    refine r_icmp_gt (tgt := 1291) dL_law_30 rfl (fun _ => ?_) (fun c => by omega)
    refine r_iconst dL_law_1291 ⟨by decide, by decide⟩ ?_
    exact r_zret dL_law_1292 rfl (Or.inr rfl) rfl
  | succ n ih =>
    intro k i S σ M hi b1 b2 hS hz hk hx hc hm
    refine r_iload dL_law_23 rfl ?_
    refine r_aload_n dL_law_25 rfl ?_
    refine r_alen dL_law_26 hk hL ?_
    refine r_bipush dL_law_27 (by decide) ⟨by decide, by decide⟩ ?_
    refine r_isub dL_law_29 ⟨by omega, by omega⟩ ?_
    refine r_icmp_gt (tgt := 1291) dL_law_30 rfl (fun c => by omega) (fun _ => ?_)
    have hb : S.1 + 1 < BIG := by unfold BIG; omega
    have h0 : (0 : Int) ≤ i := by omega
    have h1 : i + 6 ≤ L := by omega
    have nx : NX S σ i n (152 * n) (fun r _ _ => r = 1) := by
      intro S' σ' M' x hc' hm' hf
      refine r_iinc (ls' := lL (i + 6)) dL_law_1285 rfl (by decide) rfl rfl ⟨by omega, by omega⟩ ?_
      refine r_goto (tgt := 23) dL_law_1288 rfl ?_
      exact ih (k + 1) (i + 6) S' σ' M' (by omega) (by omega) (by omega) x.1 (by have := x.2.2.1; omega) ((x.2.2.2 BIG (Nat.le_refl _)).trans hk) (fun j => (hf BIG (Nat.le_refl _) j).trans (hx j)) hc' hm'
    refine AW_rc (rc := 1 + n) (rs := 152 + 152 * n) ?_ (by omega) (by omega)
    refine r_aload_n dL_law_33 rfl ?_
    refine r_iload dL_law_34 rfl ?_
    refine r_iald dL_law_36 (Or.inr hk) h0 (by omega) ?_
    refine r_bipush dL_law_37 (by decide) ⟨by decide, by decide⟩ ?_
    refine r_iand dL_law_39 ?_
    generalize iAnd (σ BIG i.toNat) 63 = zz
    refine r_tsw (dt := 1285) [208, 281, 306, 319, 332, 357, 394, 431, 468, 505, 542, 579, 616, 629, 642, 667, 704, 717, 730, 767, 780, 793, 806, 831, 892, 905, 918, 943, 1004, 1029, 1066, 1091, 1128, 1165, 1178, 1191, 1247, 1272] dL_law_40 rfl (by decide +kernel) rfl (fun _ => ?_) ⟨fun _ => lc_feed hS hb hk hL h0 h1 hx hc hm nx, fun _ => lc_sheet hS hb hk hL h0 h1 hx hc hm nx, fun _ => lc_fault hS hb hk hL h0 h1 hx hc hm nx, fun _ => lc_where hS hb hk hL h0 h1 hx hc hm nx, fun _ => lc_about hS hb hk hL h0 h1 hx hc hm nx, fun _ => lc_stroke hS hb hk hL h0 h1 hx hc hm nx, fun _ => lc_meeting hS hb hk hL h0 h1 hx hc hm nx, fun _ => lc_part hS hb hk hL h0 h1 hx hc hm nx, fun _ => lc_pair hS hb hk hL h0 h1 hx hc hm nx, fun _ => lc_walk hS hb hk hL h0 h1 hx hc hm nx, fun _ => lc_trail hS hb hk hL h0 h1 hx hc hm nx, fun _ => lc_ride hS hb hk hL h0 h1 hx hc hm nx, fun _ => lc_travel hS hb hk hL h0 h1 hx hc hm nx, fun _ => lc_started hS hb hk hL h0 h1 hx hc hm nx, fun _ => lc_better hS hb hk hL h0 h1 hx hc hm nx, fun _ => lc_exchanged hS hb hk hL h0 h1 hx hc hm nx, fun _ => lc_floor hS hb hk hL h0 h1 hx hc hm nx, fun _ => lc_time hS hb hk hL h0 h1 hx hc hm nx, fun _ => lc_pen hS hb hk hL h0 h1 hx hc hm nx, fun _ => lc_longest hS hb hk hL h0 h1 hx hc hm nx, fun _ => lc_farthest hS hb hk hL h0 h1 hx hc hm nx, fun _ => lc_lifts hS hb hk hL h0 h1 hx hc hm nx, fun _ => lc_rides hS hb hk hL h0 h1 hx hc hm nx, fun _ => lc_would hS hb hk hL h0 h1 hx hc hm nx, fun _ => lc_worst hS hb hk hL h0 h1 hx hc hm nx, fun _ => lc_nearest hS hb hk hL h0 h1 hx hc hm nx, fun _ => lc_enough hS hb hk hL h0 h1 hx hc hm nx, fun _ => lc_add hS hb hk hL h0 h1 hx hc hm nx, fun _ => lc_drop hS hb hk hL h0 h1 hx hc hm nx, fun _ => lc_home hS hb hk hL h0 h1 hx hc hm nx, fun _ => lc_join hS hb hk hL h0 h1 hx hc hm nx, fun _ => lc_pace hS hb hk hL h0 h1 hx hc hm nx, fun _ => lc_exchange hS hb hk hL h0 h1 hx hc hm nx, fun _ => lc_improve hS hb hk hL h0 h1 hx hc hm nx, fun _ => lc_undo hS hb hk hL h0 h1 hx hc hm nx, fun _ => lc_loose hS hb hk hL h0 h1 hx hc hm nx, fun _ => lc_size hS hb hk hL h0 h1 hx hc hm nx, fun _ => lc_trouble hS hb hk hL h0 h1 hx hc hm nx, trivial⟩
    exact AW_rc (nx S σ M (xS.rf hS) hc hm (fun _ _ _ => rfl)) (by omega) (by omega)
end LLOOP
