/-! the law's turns -/
section LTURN
variable {S : ShT} {σ : StT} {rc rs L : Nat} {Q : Int → ShT → StT → Prop} {M : Ms} {i : Int} {xs : Nat → Int} {ls : List (Nat × AV)} {st : List AV}
abbrev lL (i : Int) : List (Nat × AV) := [(0, vR BIG), (1, vR 1), (2, vR 125), (3, vR 154), (4, vI i)]
def NX (S : ShT) (σ : StT) (i : Int) (rc rs : Nat) (Q : Int → ShT → StT → Prop) : Prop := ∀ (S' : ShT) (σ' : StT) (M' : Ms), xS S S' → cT σ' M' → mT σ' M' → (∀ b, BIG ≤ b → ∀ j, σ' b j = σ b j) → AW mL_law 1285 (lL i) [] S' σ' rc rs Q
theorem a_arg {pc : Nat} {kc : Int} (d0 : decode cL_law pc = .ok (.aload_n 0, 1)) (d1 : decode cL_law (pc + 1) = .ok (.iload 4, 2)) (d3 : decode cL_law (pc + 3) = .ok (.iconst kc, 1)) (d4 : decode cL_law (pc + 4) = .ok (.iadd, 1)) (d5 : decode cL_law (pc + 5) = .ok (.iaload, 1)) (g0 : lget ls 0 = some (vR BIG)) (g4 : lget ls 4 = some (vI i)) (hk : S.2.1 BIG = (7, L)) (hL : L ≤ 2147483647) (h0 : 0 ≤ i) (h1 : i + 6 ≤ L) (hx : ∀ j, σ BIG j = xs j) (hkc : 0 ≤ kc ∧ kc ≤ 5)
    (kk : AW mL_law (pc + 6) ls (vI (xs (i + kc).toNat) :: st) S σ rc rs Q) : AW mL_law pc ls st S σ rc rs Q := by
  refine r_aload_n d0 g0 ?_
  refine r_iload d1 g4 ?_
  refine r_iconst d3 ⟨by omega, by omega⟩ ?_
  refine r_iadd d4 ⟨by omega, by omega⟩ ?_
  refine r_iald d5 (Or.inr hk) (by omega) (by omega) ?_
  rw [hx]
  exact kk
theorem fr_m {σ1 : StT} (hm : mT σ M) (f : frR 1 125 σ σ1) : mT σ1 M := hm.ext (fun j _ => f 125 (by omega) j) (fun b hb j => f b (by omega) j)
theorem fr_c {σ1 : StT} (hc : cT σ M) (f : frR 125 154 σ σ1) : cT σ1 M := hc.scr (fun b hb j => f b (by omega) j)
theorem fr_cT {σ1 : StT} (hc : cT σ M) (f : frT σ σ1) : cT σ1 M := hc.scr (fun b hb j => f b (Or.inl (by omega)) j)
theorem m_callV {y : ME} {pc : Nat} {z : ME} {o ci n ix nc ns : Nat} (as : List AV) (hd : decode (me_c y) pc = .ok (.invokevirtual ix, 3)) (hm : MV z n ci) (hl : LK (me_n y).cls ix (me_n z)) (hn : as.length = n) (hR : fits2 z y = true) (ho : S.2.1 o = (10 + ci, 0)) (hst : (st.map vcat).sum ≤ 8) (h1 : nc ≤ 1) (h2 : ns ≤ 152)
    (k : WPm z (vR o :: as) S σ nc ns (fun r S' σ' => AW y (pc + 3) ls (prt (me_r z) r st) S' σ' rc rs Q)) : AW y pc ls (as.reverse ++ vR o :: st) S σ (1 + rc) (152 + rs) Q := by
  obtain ⟨m1, m2, m3, q, m4, m5⟩ := hm
  exact AW_rc (r_callV (rc' := nc) (rs' := ns) (rc := rc) (rs := rs) hd m1 hl m2 m3 m4 m5 hn (fits2_ok hR) (by rw [ho]) hst (fun r S' σ' h => h) k) (by omega) (by omega)
abbrev l5 (i r : Int) : List (Nat × AV) := [(0, vR BIG), (1, vR 1), (2, vR 125), (3, vR 154), (4, vI i), (5, vI r)]
abbrev l6 (i r z : Int) : List (Nat × AV) := [(0, vR BIG), (1, vR 1), (2, vR 125), (3, vR 154), (4, vI i), (5, vI r), (6, vI z)]
/-- behind the catch: the model's answer, and its flag -/
theorem lt_tail {r : Int} (hS : SHP S) (hk : S.2.1 BIG = (7, L)) (hL : L ≤ 2147483647) (h0 : 0 ≤ i) (h1 : i + 6 ≤ L) (hx : ∀ j, σ BIG j = xs j) (hc : cT σ M) (hm : mT σ M)
    (hs : ∀ m : Nat, A_loose M (xs (i + 1).toNat) = some m → r = 0 ∧ σ 154 0 = (m : Int)) (hn : A_loose M (xs (i + 1).toNat) = none → r = 1)
    (kk : ∀ σ2 : StT, mT σ2 M → frR 125 154 σ σ2 → AW mL_law 1285 (lL i) [] S σ2 rc rs Q) : AW mL_law 1202 (lL i) [vI r] S σ rc rs Q := by
  refine r_istore dL_law_1202 (by decide) rfl (ls' := l5 i r) rfl ?_
  refine r_aload_n dL_law_1204 rfl ?_
  refine a_arg (ls := l5 i r) (kc := 1) dL_law_1205 dL_law_1206 dL_law_1208 dL_law_1209 dL_law_1210 rfl rfl hk hL h0 h1 hx (by decide) ?_
  have e44 : ∀ z σ2, mT σ2 M → frR 125 154 σ σ2 → AW mL_law 1244 (l6 i r z) [] S σ2 rc rs Q := fun z σ2 hm2 f2 => r_goto (tgt := 1285) dL_law_1244 rfl (r_loc [0, 1, 2, 3, 4] rfl (kk σ2 hm2 f2))
  have tl : ∀ (z : Int) (σ2 : StT), mT σ2 M → frR 125 154 σ σ2 → σ2 125 0 = r → (r = 0 → σ2 154 0 = z) → AW mL_law 1214 (l5 i r) [vI z] S σ2 rc rs Q := by
    intro z σ2 hm2 f2 e1 e2
    refine r_istore dL_law_1214 (by decide) rfl (ls' := l6 i r z) rfl ?_
    refine r_aload_n dL_law_1216 rfl ?_
    refine g_callVv (z := mX11_thrown) [] dL_law_1217 mv_X11_thrown lk_L_170 rfl (by decide) (k_125 hS) (Nat.le_of_ble_eq_true rfl) (e_X11_thrown hS ?_)
    refine r_iload dL_law_1220 rfl ?_
    refine r_icmp_eq (tgt := 1227) dL_law_1222 rfl (fun _ => ?_) (fun c => absurd e1 c)
    refine r_iload dL_law_1227 rfl ?_
    refine r_if_ne (tgt := 1244) dL_law_1229 rfl (fun _ => e44 z σ2 hm2 f2) (fun c => ?_)
    refine r_aload_n dL_law_1232 rfl ?_
    refine r_iconst dL_law_1233 ⟨by decide, by decide⟩ ?_
    refine r_lald dL_law_1234 (k_154 hS) (by decide) (by decide) ?_
    refine r_iload dL_law_1235 rfl ?_
    refine r_i2l dL_law_1237 ?_
    refine r_lcmpE dL_law_1238 (e2 c) ?_
    refine r_if_eq (tgt := 1244) dL_law_1239 rfl (fun _ => e44 z σ2 hm2 f2) (fun c => absurd rfl c)
  refine g_callVv (z := mX11_loose) [vI (xs (i + 1).toNat)] dL_law_1211 mv_X11_loose lk_L_169 rfl (by decide) (k_125 hS) (Nat.le_of_ble_eq_true rfl) (q_loose hS hc.1 hm (fun m σ2 e hm2 z2 f2 => ?_) (fun σ2 e hm2 z2 f2 => ?_))
  · obtain ⟨e1, e2⟩ := hs m e
    exact tl _ σ2 hm2 f2 (by rw [z2, e1]) (fun _ => by rw [f2 154 (by omega)]; exact e2)
  · have e1 := hn e
    exact tl _ σ2 hm2 f2 (by rw [z2, e1]) (fun c => by omega)
theorem lc_loose (hS : SHP S) (hb : S.1 + 1 < BIG) (hk : S.2.1 BIG = (7, L)) (hL : L ≤ 2147483647) (h0 : 0 ≤ i) (h1 : i + 6 ≤ L) (hx : ∀ j, σ BIG j = xs j) (hc : cT σ M) (hm : mT σ M) (nx : NX S σ i rc rs Q) : AW mL_law 1191 (lL i) [] S σ (1 + rc) (152 + rs) Q := by
  refine AW_rc (rc := 1 + rc) (rs := 6 + rs) ?_ (Nat.le_refl _) (by omega)
  refine r_aload_n dL_law_1191 rfl ?_
  refine a_arg (ls := lL i) (kc := 1) dL_law_1192 dL_law_1193 dL_law_1195 dL_law_1196 dL_law_1197 rfl rfl hk hL h0 h1 hx (by decide) ?_
  refine r_aload_n dL_law_1198 rfl ?_
  refine r_lawloose hS hc hb (fun m e => ?_) (fun e => ?_) (fun e => ?_)
  · have u : ∀ b, b ≠ 154 → ∀ j, up2 σ 154 0 (m : Int) b j = σ b j := fun b hb j => up2_a hb
    refine lt_tail (xs := xs) hS hk hL h0 h1 (fun j => (u BIG (by unfold BIG; omega) j).trans (hx j)) (hc.scr (fun b hb j => u b (by omega) j)) (hm.ext (fun j _ => u 125 (by omega) j) (fun b hb j => u b (by omega) j)) (fun m2 e2 => ?_) (fun e2 => by rw [e] at e2; cases e2) (fun σ2 hm2 f2 => ?_)
    · rw [e] at e2; cases e2
      exact ⟨rfl, up2_s _ _ _ _⟩
    · exact nx S σ2 M (xS.rf hS) (fr_c (hc.scr (fun b hb j => u b (by omega) j)) f2) hm2 (fun b hb j => (f2 b (by unfold BIG at hb; omega) j).trans (u b (by unfold BIG at hb; omega) j))
  · refine lt_tail (xs := xs) hS hk hL h0 h1 hx hc hm (fun m2 e2 => by rw [e] at e2; cases e2) (fun _ => rfl) (fun σ2 hm2 f2 => ?_)
    exact nx S σ2 M (xS.rf hS) (fr_c hc f2) hm2 (fun b hb j => f2 b (by unfold BIG at hb; omega) j)
  · have h155 := hS.1
    have u : ∀ b, b ≠ S.1 → ∀ j, pushZ σ S.1 b j = σ b j := fun b hb j => pushZ_b hb
    have hxS : xS S (pushC S (0, 0)) := xS.push hS hb
    refine lt_tail (xs := xs) hxS.1 ((hxS.2.2.2 BIG (Nat.le_refl _)).trans hk) hL h0 h1 (fun j => (u BIG (by omega) j).trans (hx j)) (hc.scr (fun b hb j => u b (by omega) j)) (hm.ext (fun j _ => u 125 (by omega) j) (fun b hb j => u b (by omega) j)) (fun m2 e2 => by rw [e] at e2; cases e2) (fun _ => rfl) (fun σ2 hm2 f2 => ?_)
    exact nx _ σ2 M hxS (fr_c (hc.scr (fun b hb j => u b (by omega) j)) f2) hm2 (fun b hb j => (f2 b (by unfold BIG at hb; omega) j).trans (u b (by omega) j))
end LTURN
