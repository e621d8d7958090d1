/-! Model: floor, improve, loose -/
theorem bets_0 {G : Geo} {H : Int × Int} {T : Tr} {N : Nat} {f : Nat → Nat} : ∀ {n : Nat}, (bets G H T N n f).1 = 0 → (bets G H T N n f).2 = f
  | 0, _ => rfl
  | n + 1, h => by
    cases e : win G H T N f with
    | none => rw [bets_n e]
    | some x => rw [bets_s e] at h; simp at h
section AWM
variable {y : ME} {pc : Nat} {ls : List (Nat × AV)} {st : List AV} {S : ShT} {σ : StT} {rc rs : Nat} {Q Q' : Int → ShT → StT → Prop}
theorem AW_mono (h : AW y pc ls st S σ rc rs Q) (hq : ∀ r S' σ', Q r S' σ' → Q' r S' σ') : AW y pc ls st S σ rc rs Q' := by
  intro p l e s m args below meth c H locs cells slots mc ms K L C B hH hl hs hL T hT X
  obtain ⟨t, a1, o, b1, b2, ⟨r, S', σ', h1, h2⟩, b4⟩ := h p l e s m args below meth c H locs cells slots mc ms K L C B hH hl hs hL T hT X
  exact ⟨t, a1, o, b1, b2, ⟨r, S', σ', hq _ _ _ h1, h2⟩, b4⟩
end AWM
section MFLOOR2
variable {S : ShT} {σ : StT} {Q : Int → StT → Prop} {M : Ms}
theorem q_floor (hS : SHP S) : MCm S mX11_floor [vR 125] M (A_floor M) 1 25 := fun σ Q hb ho h hQ => by
  unfold A_floor at hQ
  refine r_entry (by decide) (Nat.le_of_ble_eq_true rfl) rfl rfl ?_
  refine r_aload_n dX11_floor_0 rfl ?_
  refine r_iconst dX11_floor_1 ⟨by decide, by decide⟩ ?_
  refine g_callVv (z := mX11_isAsked) [vI 1] dX11_floor_2 mv_X11_isAsked lk_X11_318 rfl (by decide) (k_125 hS) (Nat.le_of_ble_eq_true rfl) ?_
  refine m_ask1 hS ho h (fun d σ1 a F => ?_) (fun d σ1 a b F => ?_)
  · rw [if_neg (by rw [d]; decide)] at hQ
    refine r_if_ne (tgt := 10) dX11_floor_5 rfl (fun h => absurd rfl h) (fun h => ?_)
    refine r_iconst dX11_floor_8 ⟨by decide, by decide⟩ ?_
    exact r_iret dX11_floor_9 rfl (hQ S σ1 (xS.rf hS) a F.T)
  · rw [if_pos d] at hQ
    refine r_if_ne (tgt := 10) dX11_floor_5 rfl (fun h => ?_) (fun h => absurd h (by decide))
    refine r_bipush dX11_floor_10 (by decide +kernel) ⟨by decide, by decide⟩ ?_
    refine r_newI (n := 25) (rc := 0) (rs := 0) (kk := 2) dX11_floor_12 (Or.inr (Or.inl ⟨rfl, rfl⟩)) w_newZ rfl (by decide) hb ?_
    refine r_astore_n dX11_floor_14 (by decide) rfl rfl ?_
    have hS1 : SHP (pushC S (2, 25)) := pushC_S hS
    have h155 : 155 ≤ S.1 := hS.1
    have ha : (pushC S (2, 25)).2.1 S.1 = (2, 25) := if_pos rfl
    have Z : ∀ b, b ≠ S.1 → ∀ j, pushZ σ1 S.1 b j = σ1 b j := fun b hb j => pushZ_b hb
    have w1 : wQ (pushZ σ1 S.1) M.D M.N M.f := b.ext (fun b hb => Z b (by omega)) (fun j _ => Z 125 (by omega) j)
    have hl := w1.1.le
    have e50 : (pushZ σ1 S.1) 125 50 = (TT M.D).length := w1.2.2.2.2.2.2.2.1
    have fin : ∀ (r : Int) (σ' : StT), r = flr (gG M.D) (hm M.D) (TT M.D) → fr [S.1] (pushZ σ1 S.1) σ' → Q r (pushC S (2, 25)) σ' := fun r σ' hr f => by
      rw [hr]
      refine hQ _ σ' (xS.push hS hb) (a.ext (fun j hj => by rw [f 125 (by simp; omega), Z 125 (by omega)]) (fun b hb j => by rw [f b (by simp; omega), Z b (by omega)])) (F.T.trans (fun b hbb j => ?_))
      have hne : b ≠ S.1 := by omega
      rw [f b (by simpa using hne), Z b hne]
    refine AW_mono (t_X11_floor_15 (Q := fun r σ' => Q r (pushC S (2, 25)) σ') hS1 ha ?_) (fun r S' σ' h => by rw [h.1]; exact h.2)
    rw [e50, tn_cast]
    refine ⟨⟨by omega, by omega⟩, ?_⟩
    refine floor_go (σ := pushZ σ1 S.1) hS1 ha h155 w1 (fun σ' f => fin _ σ' rfl f) (TT M.D).length 0 (fun _ => false) (brh (gG M.D) (hm M.D) (TT M.D)) 0 _ (by omega) (fr.rf.put (by simp)) (fun t ht => ?_) (up2_s _ _ _ _) ?_ (fun t => brh_i w1.1.G w1.1.H t) (fun t => Int.le_refl _) (fun t o _ hJ => by cases hJ) (fun t => Or.inl rfl) (by omega) (by omega) ?_
    · rw [up2_i (by omega), if_neg (by simp)]; exact if_pos rfl
    · have : ∀ n, cnt (fun _ => false) n = 0 := fun n => by
        induction n with
        | zero => rfl
        | succ n ih => rw [cnt_s, ih]; rfl
      exact this _
    · unfold flr; omega
theorem q_improve (hS : SHP S) : MCm S mX11_improve [vR 125] M (A_improve M) 1 152 := fun σ Q hb ho h hQ => by
  unfold A_improve at hQ
  refine r_entry (by decide) (Nat.le_of_ble_eq_true rfl) rfl rfl ?_
  refine r_aload_n dX11_improve_0 rfl ?_
  refine r_iconst dX11_improve_1 ⟨by decide, by decide⟩ ?_
  refine g_callVv (z := mX11_isAsked) [vI 1] dX11_improve_2 mv_X11_isAsked lk_X11_318 rfl (by decide) (k_125 hS) (Nat.le_of_ble_eq_true rfl) ?_
  refine m_ask1 hS ho h (fun d σ1 a F => ?_) (fun d σ1 a b F => ?_)
  · rw [if_neg (by rw [d]; decide)] at hQ
    refine r_if_ne (tgt := 10) dX11_improve_5 rfl (fun h => absurd rfl h) (fun h => ?_)
    refine r_iconst dX11_improve_8 ⟨by decide, by decide⟩ ?_
    exact r_iret dX11_improve_9 rfl (hQ S σ1 (xS.rf hS) a F.T)
  · rw [if_pos d] at hQ
    have hE := ho.E d
    refine r_if_ne (tgt := 10) dX11_improve_5 rfl (fun h => ?_) (fun h => absurd h (by decide))
    refine r_aload_n dX11_improve_10 rfl ?_
    refine g_callVv (z := mX11_laysAside) [] dX11_improve_11 mv_X11_laysAside lk_X11_364 rfl (by decide) (k_125 hS) (Nat.le_of_ble_eq_true rfl) ?_
    refine m_laysAside hS ?_
    intro σ2 h2 f2
    have w2 : wQ σ2 M.D M.N M.f := b.ext (fun b hb => f2 b (by simp; omega)) (fun j _ => f2 125 (by decide) j)
    refine r_aload_n dX11_improve_14 rfl ?_
    refine g_callVv (z := mX11_betters) [] dX11_improve_15 mv_X11_betters lk_X11_377 rfl (by decide) (k_125 hS) (Nat.le_of_ble_eq_true rfl) ?_
    refine m_betters hS w2 ?_
    intro σ3 w3 r3
    refine r_istore_n dX11_improve_18 (by decide) rfl rfl ?_
    refine r_iload_n dX11_improve_19 rfl ?_
    refine r_if_ne (tgt := 29) dX11_improve_20 rfl (fun c => ?_) (fun c => ?_)
    · have hb1 : ¬ M.b.1 = 0 := fun q => c (by show (M.b.1 : Int) = 0; omega)
      rw [if_neg hb1] at hQ
      refine r_aload_n dX11_improve_29 rfl ?_
      refine g_callVv (z := mX11_leaps) [] dX11_improve_30 mv_X11_leaps lk_X11_361 rfl (by decide) (k_125 hS) (Nat.le_of_ble_eq_true rfl) ?_
      refine m_leaps hS w3 ?_
      refine r_istore_n dX11_improve_33 (by decide) rfl rfl ?_
      refine r_sipush dX11_improve_34 (by decide +kernel) ⟨by decide, by decide⟩ ?_
      refine r_newI (n := 152) (rc := 0) (rs := 0) (kk := 1) dX11_improve_37 (Or.inl ⟨rfl, rfl⟩) w_newI rfl (by decide) hb ?_
      refine r_astore_n dX11_improve_39 (by decide) rfl rfl ?_
      have hS1 : SHP (pushC S (1, 152)) := pushC_S hS
      have h155 : 155 ≤ S.1 := hS.1
      have ha : (pushC S (1, 152)).2.1 S.1 = (1, 152) := if_pos rfl
      have Z : ∀ b, b ≠ S.1 → ∀ j, pushZ σ3 S.1 b j = σ3 b j := fun b hb j => pushZ_b hb
      refine r_loc [0, 2, 3] rfl ?_
      refine AW_mono (t_X11_improve_40 (Q := fun r σ' => Q r (pushC S (1, 152)) σ') hS1 ha ?_) (fun r S' σ' h => by rw [h.1]; exact h.2)
      refine m_copies (f := 0) (t := 0) hS1 (k_127 hS1) ha (by omega) (by omega) (by omega) (by omega) (by omega) ?_
      intro σ4 c4 _ f4
      refine m_takesBack hS1 ?_
      intro σ5 c5 f5
      have X5 : ∀ b, b ≠ S.1 → b ≠ 127 → b ≠ 129 → ∀ j, σ5 b j = σ1 b j := fun b b1 b2 b3 j => by rw [f5 b (by simpa using b2), f4 b (by simpa using b1), Z b b1, r3.1 b (by simpa using b2), f2 b (by simpa using b3)]
      have row5 : ∀ k, k < 152 → σ5 127 k = σ1 127 k := fun k hk => by rw [c5 k hk, f4 129 (by simp; omega), Z 129 (by omega), r3.1 129 (by decide), h2 k hk]
      have K5 : mK σ5 M.L := a.2.1.ext (X5 125 (by omega) (by omega) (by omega) _) (X5 130 (by omega) (by omega) (by omega))
      refine m_keeps (L := M.L) (D := M.D) (N := M.N) (f := M.f) hS1 K5 ho.2.2.2.1 (fun i hi => ⟨(ho.2.2.1 i hi).1.1, (ho.2.2.1 i hi).N⟩) (b.2.1.ext hE.1.1 (fun k hk => row5 k (by omega))) hE.1.1 (b.2.2.1.ext hE.N (fun k _ hk => row5 k hk)) hE.N ?_
      intro σ6 k6 f6 b6
      refine m_copies (f := 0) (t := 0) hS1 ha (k_127 hS1) (by omega) (by omega) (by omega) (by omega) (by omega) ?_
      intro σ7 c7 _ f7
      have row7 : ∀ k, k < 152 → σ7 127 k = σ3 127 k := fun k hk => by
        have e1 := c7 k hk
        have e2 := c4 k hk
        rw [Nat.zero_add] at e1 e2
        rw [e1, f6 S.1 (by simp; omega), f5 S.1 (by simp; omega), e2, Z 127 (by omega)]
      refine hQ _ σ7 (xS.push hS hb) ⟨mW.w (a.1.ext (fun j hj => ?_) (fun j => ?_)) d, k6.ext (f7 125 (by decide) _) (f7 130 (by decide)), fun _ => ⟨w3.2.1.ext hE.1.1 (fun k hk => row7 k (by omega)), w3.2.2.1.ext hE.N (fun k _ hk => row7 k hk)⟩⟩ (fun bb hbb j => ?_)
      · rw [f7 125 (by decide), b6 j (by omega), X5 125 (by omega) (by omega) (by omega)]
      · rw [f7 126 (by decide), f6 126 (by decide), X5 126 (by omega) (by omega) (by omega)]
      · have hlt : S.1 < BIG := by omega
        have hne : bb ≠ S.1 := by omega
        have h4 : bb ≠ 125 ∧ bb ≠ 127 ∧ bb ≠ 129 ∧ bb ≠ 130 := by unfold BIG at hbb; omega
        rw [f7 bb (by simp; omega), f6 bb (by simp; omega), X5 bb hne (by omega) (by omega)]
        exact F.T bb hbb j
    · have hb1 : M.b.1 = 0 := by
        have : (M.b.1 : Int) = 0 := c
        omega
      rw [if_pos hb1] at hQ
      refine r_aload_n dX11_improve_23 rfl ?_
      refine r_iconst dX11_improve_24 ⟨by decide, by decide⟩ ?_
      refine g_callVv (z := mX11_no) [vI 5] dX11_improve_25 mv_X11_no lk_X11_216 rfl (by decide) (k_125 hS) (Nat.le_of_ble_eq_true rfl) ?_
      have e3 : (bets (gG M.D) (hm M.D) (TT M.D) M.N c200 M.f).2 = M.f := bets_0 hb1
      rw [e3] at w3
      have a3 : mT σ3 (M.t 0) := ⟨a.1.ext (fun j _ => by rw [r3.1 125 (by decide), f2 125 (by decide)]) (fun j => by rw [r3.1 126 (by decide), f2 126 (by decide)]), a.2.1.ext (by rw [r3.1 125 (by decide), f2 125 (by decide)]) (fun j => by rw [r3.1 130 (by decide), f2 130 (by decide)]), fun _ => ⟨w3.2.1, w3.2.2.1⟩⟩
      refine m_no (M := M.t 0) hS (by decide) a3 (fun σ4 a4 F4 => ?_)
      exact r_iret dX11_improve_28 rfl (hQ S σ4 (xS.rf hS) a4 (F.trans ((f2.R (by simp)).trans ((r3.1.R (by simp)).trans F4))).T)
end MFLOOR2
