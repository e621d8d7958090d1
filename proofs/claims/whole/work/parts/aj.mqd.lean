/-! Model: rides, the pen -/
/-- a stroke lies in one trail only -/
theorem in_one {T : Tr} {t u k j : Nat} (hnd : ((flat T).map (fun q => q.2)).Nodup) (ht : t < T.length) (hu : u < T.length) (hk : k < (tg T t).2.length) (hj : j < (tg T u).2.length) (he : ((tg T t).2.getD k (0, 0)).2 = ((tg T u).2.getD j (0, 0)).2) : t = u := by
  have main : ∀ {t u k j : Nat}, t < u → t < T.length → u < T.length → k < (tg T t).2.length → j < (tg T u).2.length → ((tg T t).2.getD k (0, 0)).2 = ((tg T u).2.getD j (0, 0)).2 → False := by
    intro t u k j htu ht hu hk hj he
    obtain ⟨T0, T1, e, el⟩ := tg_spl ht
    have hu2 : tg T u = tg T1 (u - (t + 1)) := by
      have : tg T u = tg (T0 ++ tg T t :: T1) u := by rw [← e]
      rw [this]
      unfold tg
      rw [gd_r (by omega), show u - T0.length = (u - (t + 1)) + 1 by omega]; rfl
    have hl : T.length = T0.length + (T1.length + 1) := by
      have : T.length = (T0 ++ tg T t :: T1).length := by rw [← e]
      rw [this, List.length_append, List.length_cons]
    have hm : (tg T u).2.getD j (0, 0) ∈ flat T1 := by
      rw [hu2]; exact tg_flat (by omega) (by rw [← hu2]; exact hj)
    have hf : flat T = flat T0 ++ ((tg T t).2 ++ flat T1) := by
      have : flat T = flat (T0 ++ tg T t :: T1) := by rw [← e]
      rw [this, flat_app, flat_cons]
    rw [hf, List.map_append, List.map_append] at hnd
    have h2 := (List.nodup_append.mp hnd).2.1
    have h3 := (List.nodup_append.mp h2).2.2
    exact h3 _ (List.mem_map.mpr ⟨_, gd_mem hk, rfl⟩) _ (List.mem_map.mpr ⟨_, hm, rfl⟩) he
  rcases Nat.lt_trichotomy t u with c | c | c
  · exact (main c ht hu hk hj he).elim
  · exact c
  · exact (main c hu ht hj hk he.symm).elim
section MQD
variable {S : ShT} {σ : StT} {Q : Int → StT → Prop} {M : Ms} {D : Dw} {N : Nat} {f : Nat → Nat}
theorem q_rides {s : Int} (hS : SHP S) : MC S mX11_rides [vR 125, vI s] M (A_rides M s) := fun σ Q ho h hQ => by
  unfold A_rides at hQ
  refine e_X11_rides hS ⟨fun q => ?_, fun q => ?_⟩
  · rw [if_neg (fun c => absurd q (h.dr1 c.1))] at hQ
    exact m_ask0 hS ho h (fun σ' a b => ⟨fun c => absurd rfl c, fun _ => hQ σ' a b⟩)
  · have d := h.d q
    have hn := ho.n d
    have e2 : σ 127 2 = M.D.n := (h.2.2 d).1.2.2.1
    rw [e2]
    refine ⟨inR_s (by omega) (by omega), m_in hS (fun q1 => ⟨fun _ => ?_, fun c => absurd rfl c⟩) (fun q1 => ⟨fun c => absurd c (by decide), fun _ => ?_⟩)⟩
    · rw [if_neg (fun c => q1 ⟨c.2.1, by omega⟩)] at hQ
      exact m_ask0 hS ho h (fun σ' a b => ⟨fun c => absurd rfl c, fun _ => hQ σ' a b⟩)
    · rw [if_pos ⟨d, q1.1, by omega⟩] at hQ
      refine m_ask1 hS ho h (fun d' => absurd d (by rw [d']; decide)) (fun _ σ' a b c => ?_)
      have hQ := hQ σ' a c
      obtain ⟨s, rfl⟩ := nat_of q1.1
      rw [tn_cast] at hQ
      have hs : s < (gG M.D).1 := by show s < M.D.n; omega
      obtain ⟨x, hx, hxs⟩ := in_flat b.n hs
      obtain ⟨t, k0, ht, hk0, ek⟩ := in_tg (T := TT M.D) hx
      have hnd := b.1.T.2.2.2
      have one : ∀ u j, u < (TT M.D).length → j < (tg (TT M.D) u).2.length → ((tg (TT M.D) u).2.getD j (0, 0)).2 = s → u = t := fun u j hu hj e => in_one hnd hu ht hj hk0 (by rw [e, ek, hxs])
      have hto : toS M.T s = some t := by
        unfold toS
        refine fst1_is ht ?_ (fun y hy => ?_)
        · exact List.any_eq_true.mpr ⟨x, by rw [← ek]; exact gd_mem hk0, by simp [hxs]⟩
        · cases cc : (tg M.T y).2.any (fun x => decide (x.2 = s)) with
          | false => rfl
          | true =>
            obtain ⟨z, hz, hzs⟩ := List.any_eq_true.mp cc
            obtain ⟨j, hj, rfl⟩ := List.getElem_of_mem hz
            have := one y j (by omega) hj (by show ((tg M.T y).2.getD j (0, 0)).2 = s; rw [List.getD_eq_getElem?_getD, List.getElem?_eq_getElem hj]; simpa using hzs)
            omega
      rw [hto] at hQ
      replace hQ : Q (plc M.N M.f t) σ' := hQ
      have hN := b.1.N
      have e103 := b.2.2.1.1
      refine ⟨fun _ => ?_, fun c => absurd c (by decide)⟩
      refine lup (I := fun i σ1 => 0 ≤ i ∧ i ≤ (M.N : Int) ∧ σ1 = σ' ∧ ∀ y : Nat, (y : Int) < i → M.f y / 2 ≠ t) (W := fun i σ1 => AWs mX11_rides 39 [(0, vR 125), (1, vI (s : Int)), (2, vI i)] [] S σ1 Q) (M.N : Int) ?_ ?_ 0 σ' ⟨by omega, by omega, rfl, fun y hy => by omega⟩
      · rintro i σ1 ⟨i0, i1, rfl, i3⟩ hge
        have ei : i = (M.N : Int) := by omega
        subst ei
        refine t_X11_rides_39 hS ?_
        rw [e103]
        refine ⟨fun _ => ?_, fun q => absurd (by omega) q⟩
        have : plc M.N M.f t = -1 := by
          unfold plc
          rw [fst1_no (fun y hy => by simp [i3 y (by omega)])]
        rw [this] at hQ; exact hQ
      · rintro i σ1 ⟨i0, i1, rfl, i3⟩ hlt kk
        obtain ⟨i, rfl⟩ := nat_of i0
        have hi : i < M.N := by omega
        have hti := b.1.2.2.2 i hi
        have hl := b.1.le
        obtain ⟨t1, t2, t3, -⟩ := b.t hti
        refine t_X11_rides_39 hS ?_
        rw [e103]
        refine ⟨fun q => absurd q (by omega), fun _ => ?_⟩
        refine lup (I := fun k σ2 => 0 ≤ k ∧ k ≤ ((tg (TT M.D) (M.f i / 2)).2.length : Int) ∧ σ2 = σ1 ∧ ∀ y : Nat, (y : Int) < k → ((tg (TT M.D) (M.f i / 2)).2.getD (if M.f i % 2 = 1 then (tg (TT M.D) (M.f i / 2)).2.length - 1 - y else y) (0, 0)).2 ≠ s) (W := fun k σ2 => AWs mX11_rides 52 [(0, vR 125), (1, vI (s : Int)), (2, vI (i : Int)), (3, vI k)] [] S σ2 Q) ((tg (TT M.D) (M.f i / 2)).2.length : Int) ?_ ?_ 0 σ1 ⟨by omega, by omega, rfl, fun y hy => by omega⟩
        · rintro k σ2 ⟨k1, k2, rfl, k3⟩ hge
          refine t_X11_rides_52 hS (m_planned hS b hi ?_)
          rw [tn_cast, t2]
          refine ⟨⟨by omega, by omega⟩, fun _ => ⟨inR_s (by omega) (by omega), kk σ2 ⟨by omega, by omega, rfl, fun y hy => ?_⟩⟩, fun q => absurd (by omega) q⟩
          by_cases e : y = i
          · subst e
            intro c2
            by_cases p : M.f y % 2 = 1
            · have := k3 ((tg (TT M.D) (M.f y / 2)).2.length - 1 - k0) (by rw [c2]; rw [c2] at k2 hge; omega)
              rw [if_pos p, c2, show (tg (TT M.D) t).2.length - 1 - ((tg (TT M.D) t).2.length - 1 - k0) = k0 by omega, ek] at this
              exact this hxs
            · have := k3 k0 (by rw [c2] at hge; omega)
              rw [if_neg p, c2, ek] at this
              exact this hxs
          · exact i3 y (by omega)
        · rintro k σ2 ⟨k1, k2, rfl, k3⟩ hlt2 kk2
          obtain ⟨k, rfl⟩ := nat_of k1
          have hk : k < (tg (TT M.D) (M.f i / 2)).2.length := by omega
          obtain ⟨r1, r2⟩ := rdN_ok (c := M.f i) b.n b.1.T hti hk
          refine t_X11_rides_52 hS (m_planned hS b hi ?_)
          rw [tn_cast, t2]
          refine ⟨⟨by omega, by omega⟩, fun q => absurd q (by omega), fun _ => m_rideAt hS b hi hk ⟨by omega, fun q => ⟨inR_s (by omega) (by omega), kk2 σ2 ⟨by omega, by omega, rfl, fun y hy => ?_⟩⟩, fun q => ?_⟩⟩
          · by_cases e : y = k
            · subst e; rw [← r2]; omega
            · exact k3 y (by omega)
          · have e1 : rdN (gG M.D) (TT M.D) (M.f i) k / 2 = s := by omega
            rw [e1] at r2
            have e2 : M.f i / 2 = t := by
              refine one _ _ hti ?_ r2.symm
              split <;> omega
            have : plc M.N M.f t = i := by
              unfold plc
              rw [fst1_is (x := i) hi (by simp [e2]) (fun y hy => by simp [i3 y (by omega)])]
            rw [this] at hQ; exact hQ
theorem m_goesTill {t : Int} (hS : SHP S) (h : wQ σ D N f) (hQ : ∀ σ' : StT, σ' 125 51 = (pen (gG D) (hm D) (TT D) N f D.dn D.up t).1 → σ' 125 53 = (pen (gG D) (hm D) (TT D) N f D.dn D.up t).2.1 → σ' 125 52 = (pen (gG D) (hm D) (TT D) N f D.dn D.up t).2.2 → fr [125] σ σ' → (∀ j, j ≠ 51 → j ≠ 52 → j ≠ 53 → σ' 125 j = σ 125 j) → Q 0 σ') : WPs mX11_goesTill [vR 125, vI t] S σ Q := by
  obtain ⟨-, -, -, -, -, ⟨d0, d9⟩, ⟨u0, u9⟩, -⟩ := h.1.1
  have hN := h.1.N
  have hn := h.n
  have hgl : ∀ i, 0 ≤ D.up * lg (gG D) (hm D) (TT D) N f i ∧ D.up * lg (gG D) (hm D) (TT D) N f i ≤ 3600 := fun i => by
    have b2 := lg_i (T := TT D) (N := N) (f := f) h.1.G h.1.H i
    exact mul_in (m := 9) (n := 400) (by omega) u9 b2.1 (by omega)
  have hgs : ∀ s, 0 ≤ D.dn * sl (gG D) s ∧ D.dn * sl (gG D) s ≤ 3600 := fun s => by
    have b2 := sl_in h.1.G s
    exact mul_in (m := 9) (n := 400) (by omega) d9 b2.1 (by omega)
  have wq : ∀ σ1 : StT, fr [125] σ σ1 → (∀ j, j ≠ 51 → j ≠ 52 → j ≠ 53 → σ1 125 j = σ 125 j) → wQ σ1 D N f := fun σ1 f1 b1 => h.ext (fun b hb => f1 b (by simp; omega)) (fun j hj => b1 j (by omega) (by omega) (by omega))
  refine e_X11_goesTill hS ?_
  have key : ∀ (r i : Nat) (c hh : Int) (σ1 : StT), r + i = N → 0 ≤ c → c ≤ 100000 * i → 0 ≤ hh → hh ≤ 24 * i → σ1 125 51 = hh → σ1 125 52 = i → σ1 125 53 = 0 → fr [125] σ σ1 → (∀ j, j ≠ 51 → j ≠ 52 → j ≠ 53 → σ1 125 j = σ 125 j) → pen (gG D) (hm D) (TT D) N f D.dn D.up t = pA t D.dn D.up (lg (gG D) (hm D) (TT D) N f) (fun i => (tg (TT D) (f i / 2)).2.length) (fun i k => sl (gG D) (rdN (gG D) (TT D) (f i) k / 2)) r i c hh → AWs mX11_goesTill 19 [(0, vR 125), (1, vI t), (2, vI c), (3, vI (i : Int))] [] S σ1 Q := by
    intro r
    induction r with
    | zero =>
      intro i c hh σ1 hr c0 c1 h0 h1 s51 s52 s53 f1 b1 e
      refine t_X11_goesTill_19 hS ?_
      rw [(wq σ1 f1 b1).2.2.1.1]
      refine ⟨fun _ => hQ σ1 ?_ ?_ ?_ f1 b1, fun q => absurd (by omega) q⟩
      · rw [s51, e]; rfl
      · rw [s53, e]; rfl
      · rw [s52, e]; rfl
    | succ r ih =>
      intro i c hh σ1 hr c0 c1 h0 h1 s51 s52 s53 f1 b1 e
      have w1 := wq σ1 f1 b1
      have hi : i < N := by omega
      have ht := w1.1.2.2.2 i hi
      have hle := w1.1.le
      have b2 := hgl i
      have e6 : σ1 127 6 = D.up := w1.2.1.2.2.2.2.2.2.1
      refine t_X11_goesTill_19 hS ?_
      rw [w1.2.2.1.1, e6]
      refine ⟨fun q => absurd q (by omega), fun _ => m_leap hS w1 (by omega) ?_⟩
      rw [if_neg (by omega)]
      refine ⟨inR_s (by omega) (by omega), inR_s (by omega) (by omega), fun x hx => ?_⟩
      subst hx
      rw [show pA t D.dn D.up (lg (gG D) (hm D) (TT D) N f) (fun i => (tg (TT D) (f i / 2)).2.length) (fun i k => sl (gG D) (rdN (gG D) (TT D) (f i) k / 2)) (r + 1) i c hh = (if c + D.up * lg (gG D) (hm D) (TT D) N f i ≤ t then (if (pS t D.dn (fun k => sl (gG D) (rdN (gG D) (TT D) (f i) k / 2)) (tg (TT D) (f i / 2)).2.length 0 (c + D.up * lg (gG D) (hm D) (TT D) N f i) hh).2.2 = true then ((pS t D.dn (fun k => sl (gG D) (rdN (gG D) (TT D) (f i) k / 2)) (tg (TT D) (f i / 2)).2.length 0 (c + D.up * lg (gG D) (hm D) (TT D) N f i) hh).2.1, 1, (i : Int)) else pA t D.dn D.up (lg (gG D) (hm D) (TT D) N f) (fun i => (tg (TT D) (f i / 2)).2.length) (fun i k => sl (gG D) (rdN (gG D) (TT D) (f i) k / 2)) r (i + 1) (pS t D.dn (fun k => sl (gG D) (rdN (gG D) (TT D) (f i) k / 2)) (tg (TT D) (f i / 2)).2.length 0 (c + D.up * lg (gG D) (hm D) (TT D) N f i) hh).1 (pS t D.dn (fun k => sl (gG D) (rdN (gG D) (TT D) (f i) k / 2)) (tg (TT D) (f i / 2)).2.length 0 (c + D.up * lg (gG D) (hm D) (TT D) N f i) hh).2.1) else (hh, 0, (i : Int))) from rfl] at e
      refine ⟨fun q => ?_, fun q => ?_⟩
      · rw [if_pos q] at e
        have hL := (w1.t ht).2.2.1
        have key2 : ∀ (r2 k : Nat) (c2 h2 : Int) (σ2 : StT), r2 + k = (tg (TT D) (f i / 2)).2.length → 0 ≤ c2 → c2 ≤ 100000 * i + 3600 + 3600 * k → 0 ≤ h2 → h2 ≤ 24 * i + k → σ2 125 51 = h2 → σ2 125 52 = i → fr [125] σ σ2 → (∀ j, j ≠ 51 → j ≠ 52 → j ≠ 53 → σ2 125 j = σ 125 j) → pS t D.dn (fun k => sl (gG D) (rdN (gG D) (TT D) (f i) k / 2)) (tg (TT D) (f i / 2)).2.length 0 (c + D.up * lg (gG D) (hm D) (TT D) N f i) hh = pS t D.dn (fun k => sl (gG D) (rdN (gG D) (TT D) (f i) k / 2)) r2 k c2 h2 → AWs mX11_goesTill 55 [(0, vR 125), (1, vI t), (2, vI c2), (3, vI (i : Int)), (4, vI (k : Int))] [] S σ2 Q := by
          intro r2
          induction r2 with
          | zero =>
            intro k c2 h2 σ2 hk c20 c21 h20 h21 z51 z52 f2 bb2 e2
            have w2 := wq σ2 f2 bb2
            refine t_X11_goesTill_55 hS (m_planned hS w2 hi ?_)
            rw [tn_cast, (w2.t ht).2.1, z52]
            refine ⟨⟨by omega, by omega⟩, fun _ => ⟨inR_s (by omega) (by omega), inR_s (by omega) (by omega), ?_⟩, fun q => absurd (by omega) q⟩
            rw [e2] at e
            rw [show (pS t D.dn (fun k => sl (gG D) (rdN (gG D) (TT D) (f i) k / 2)) 0 k c2 h2) = (c2, h2, false) from rfl] at e
            rw [if_neg (by simp)] at e
            exact ih (i + 1) c2 h2 _ (by omega) c20 (by omega) h20 (by omega) (by rw [up2_i (by decide), up2_i (by decide)]; exact z51) (by rw [up2_s]; omega) (by rw [up2_i (by decide), up2_s]) ((f2.put (by simp)).put (by simp)) (fun j j1 j2 j3 => by rw [up2_i j2, up2_i j3]; exact bb2 j j1 j2 j3) e
          | succ r2 ih2 =>
            intro k c2 h2 σ2 hk c20 c21 h20 h21 z51 z52 f2 bb2 e2
            have w2 := wq σ2 f2 bb2
            have hk' : k < (tg (TT D) (f i / 2)).2.length := by omega
            obtain ⟨s1, s2⟩ := rdN_ok (c := f i) hn w2.1.T ht hk'
            have b3 := hgs (rdN (gG D) (TT D) (f i) k / 2)
            have e5 : σ2 127 5 = D.dn := w2.2.1.2.2.2.2.2.1
            refine t_X11_goesTill_55 hS (m_planned hS w2 hi ?_)
            rw [tn_cast, (w2.t ht).2.1]
            refine ⟨⟨by omega, by omega⟩, fun q => absurd q (by omega), fun _ => m_rideAt hS w2 hi hk' ?_⟩
            rw [show (2 * ((rdN (gG D) (TT D) (f i) k : Int) / 2)) = ((2 * (rdN (gG D) (TT D) (f i) k / 2) : Nat) : Int) by omega, e5]
            have f3 : fr [125] σ (up2 σ2 125 53 1) := f2.put (by simp)
            have bb3 : ∀ j, j ≠ 51 → j ≠ 52 → j ≠ 53 → (up2 σ2 125 53 1) 125 j = σ 125 j := fun j j1 j2 j3 => by rw [up2_i j3]; exact bb2 j j1 j2 j3
            have w3 := wq _ f3 bb3
            refine ⟨by omega, inR_s (by omega) (by omega), inR_s (by omega) (by omega), inR_s (by omega) (by omega), ?_⟩
            refine m_apart (G := gG D) (a := 2 * (rdN (gG D) (TT D) (f i) k / 2)) (b := 2 * (rdN (gG D) (TT D) (f i) k / 2) + 1) hS w3.rG w3.1.G (by omega) (by omega) ?_
            have ee : ds (gG D) (2 * (rdN (gG D) (TT D) (f i) k / 2)) (2 * (rdN (gG D) (TT D) (f i) k / 2) + 1) = sl (gG D) (rdN (gG D) (TT D) (f i) k / 2) := rfl
            rw [ee]
            refine ⟨inR_s (by omega) (by omega), inR_s (by omega) (by omega), fun x hx => ?_⟩
            subst hx
            have z51' : (up2 σ2 125 53 1) 125 51 = h2 := by rw [up2_i (by decide)]; exact z51
            have z52' : (up2 σ2 125 53 1) 125 52 = i := by rw [up2_i (by decide)]; exact z52
            rw [show pS t D.dn (fun k => sl (gG D) (rdN (gG D) (TT D) (f i) k / 2)) (r2 + 1) k c2 h2 = (if c2 + D.dn * sl (gG D) (rdN (gG D) (TT D) (f i) k / 2) ≤ t then pS t D.dn (fun k => sl (gG D) (rdN (gG D) (TT D) (f i) k / 2)) r2 (k + 1) (c2 + D.dn * sl (gG D) (rdN (gG D) (TT D) (f i) k / 2)) (h2 + 1) else (c2 + D.dn * sl (gG D) (rdN (gG D) (TT D) (f i) k / 2), h2, true)) from rfl] at e2
            rw [z51']
            refine ⟨fun q2 => ⟨inR_s (by omega) (by omega), inR_s (by omega) (by omega), ?_⟩, fun q2 => ?_⟩
            · rw [if_pos q2] at e2
              exact ih2 (k + 1) _ _ _ (by omega) (by omega) (by omega) (by omega) (by omega) (up2_s _ _ _ _) (by rw [up2_i (by decide)]; exact z52') (f3.put (by simp)) (fun j j1 j2 j3 => by rw [up2_i j1]; exact bb3 j j1 j2 j3) e2
            · rw [if_neg q2] at e2
              rw [e2, if_pos rfl] at e
              refine hQ _ ?_ ?_ ?_ f3 bb3
              · rw [z51', e]
              · rw [up2_s, e]
              · rw [z52', e]
        exact key2 _ 0 _ _ _ rfl (by omega) (by omega) h0 (by omega) s51 s52 f1 b1 rfl
      · rw [if_neg q] at e
        refine hQ σ1 ?_ ?_ ?_ f1 b1
        · rw [s51, e]
        · rw [s53, e]
        · rw [s52, e]
  exact key N 0 0 0 _ (by omega) (by omega) (by omega) (by omega) (by omega) (by rw [up2_i (by decide), up2_i (by decide), up2_s]) (by rw [up2_i (by decide), up2_s]; rfl) (up2_s _ _ _ _) (((fr.rf.put (by simp)).put (by simp)).put (by simp)) (fun j j1 j2 j3 => by rw [up2_i j3, up2_i j2, up2_i j1]) rfl
theorem pA_b (t d u : Int) (l : Nat → Int) (n : Nat → Nat) (g : Nat → Nat → Int) : ∀ (r i : Nat) (c h : Int), (pA t d u l n g r i c h).2.1 = 0 ∨ (pA t d u l n g r i c h).2.1 = 1
  | 0, i, c, h => Or.inl rfl
  | r + 1, i, c, h => by
    unfold pA
    split
    · split
      · exact Or.inr rfl
      · exact pA_b t d u l n g r _ _ _
    · exact Or.inl rfl
theorem q_pen {t w : Int} (hS : SHP S) : MC S mX11_pen [vR 125, vI t, vI w] M (A_pen M t w) := fun σ Q ho h hQ => by
  unfold A_pen at hQ
  refine e_X11_pen hS (m_in hS (fun q => ?_) (fun q => ?_))
  · rw [if_neg (fun c => q c.2)] at hQ
    exact m_ask0 hS ho h (fun σ' a b => ⟨fun c => absurd rfl c, fun _ => hQ σ' a b⟩)
  · refine m_ask1 hS ho h (fun d σ' a b => ?_) (fun d σ' a b c => ?_)
    · rw [if_neg (fun c => by rw [d] at c; exact absurd c.1 (by decide))] at hQ
      exact ⟨fun c => absurd rfl c, fun _ => hQ σ' a b⟩
    · rw [if_pos ⟨d, q⟩] at hQ
      refine ⟨fun _ => m_in hS (fun q2 => ⟨fun c => absurd rfl c, fun _ => ?_⟩) (fun q2 => ⟨fun _ => ?_, fun c => absurd c (by decide)⟩), fun c => absurd c (by decide)⟩
      · rw [if_neg q2] at hQ
        exact m_no hS (by decide) a (fun σ2 a2 b2 => hQ σ2 a2 (c.trans b2))
      · rw [if_pos q2] at hQ
        refine m_goesTill hS b ?_
        intro σ2 p1 p2 p3 f2 b2
        have hQ := hQ σ2 (a.ext (fun j hj => b2 j (by omega) (by omega) (by omega)) (fun b hb => f2 b (by simp; omega))) (c.trans (f2.R (by simp)))
        unfold tld ofP at hQ
        simp only at hQ
        have pb := pA_b t M.D.dn M.D.up (lg M.g (hm M.D) M.T M.N M.f) (fun i => (tg M.T (M.f i / 2)).2.length) (fun i k => sl M.g (rdN M.g M.T (M.f i) k / 2)) M.N 0 0 0
        replace pb : (pen M.g (hm M.D) M.T M.N M.f M.D.dn M.D.up t).2.1 = 0 ∨ (pen M.g (hm M.D) M.T M.N M.f M.D.dn M.D.up t).2.1 = 1 := pb
        replace p2 : σ2 125 53 = (pen M.g (hm M.D) M.T M.N M.f M.D.dn M.D.up t).2.1 := p2
        refine ⟨fun c0 => ⟨fun c1 => ?_, fun c1 => ⟨fun c2 => ?_, fun c2 => ?_⟩⟩, fun c0 => ?_⟩
        · rw [if_neg c0, if_neg c1] at hQ; rw [p3]; exact hQ
        · rw [if_neg c0, if_pos c1, ← p2, c2] at hQ; exact hQ
        · rw [if_neg c0, if_pos c1, ← p2, show σ2 125 53 = 1 by omega] at hQ; exact hQ
        · rw [if_pos c0] at hQ; rw [p1]; exact hQ
end MQD
