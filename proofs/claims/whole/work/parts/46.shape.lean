/-! wrappers, and the shape of the world behind the constructors -/
theorem up2_s (σ : StT) (a i : Nat) (v : Int) : up2 σ a i v a i = v := by simp [up2]
theorem up2_n {σ : StT} {a i b j : Nat} {v : Int} (h : ¬ (b = a ∧ j = i)) : up2 σ a i v b j = σ b j := by unfold up2; rw [if_neg h]
theorem up2_a {σ : StT} {a i b j : Nat} {v : Int} (h : b ≠ a) : up2 σ a i v b j = σ b j := up2_n (fun q => h q.1)
theorem up2_i {σ : StT} {a i b j : Nat} {v : Int} (h : j ≠ i) : up2 σ a i v b j = σ b j := up2_n (fun q => h q.2)
section PR2
variable {y : ME} {pc : Nat} {ls ls' : List (Nat × AV)} {st : List AV} {S : ShT} {σ : StT} {rc rs : Nat} {Q : Int → ShT → StT → Prop} {Qs : Int → StT → Prop}
theorem r_loc (ks : List Nat) (h : ks.filterMap (fun k => ls[k]?) = ls') (k : AW y pc ls' st S σ rc rs Q) : AW y pc ls st S σ rc rs Q := by
  intro p l e s m args below meth c H locs cells slots mc ms K L C B hH hl hs hL
  have hm : ∀ q ∈ ls', q ∈ ls := by
    intro q hq
    rw [← h] at hq
    obtain ⟨i, -, hi⟩ := List.mem_filterMap.mp hq
    exact List.mem_of_getElem? hi
  exact k p l e s m args below meth c H locs cells slots mc ms K L C B hH (fun q hq => hl q (hm q hq)) hs (lv_more hL (fun q hq => by
    obtain ⟨r, hr, rfl⟩ := List.mem_map.mp hq
    exact List.mem_map.mpr ⟨r, hm r hr, rfl⟩))
theorem WPm.mono {as : List AV} {Q' : Int → ShT → StT → Prop} (h : WPm y as S σ rc rs Q) (hq : ∀ r S' σ', Q r S' σ' → Q' r S' σ') : WPm y as S σ rc rs Q' := fun l K hl => MetFree.mono (h l K hl) (fun _ _ h => h) (fun _ _ _ _ _ h => h) (fun _ _ _ _ _ h => ⟨by
  obtain ⟨r, S', σ', h1, h2⟩ := h.1
  exact ⟨r, S', σ', hq _ _ _ h1, h2⟩, h.2⟩)
theorem WPs.mono {as : List AV} {Q' : Int → StT → Prop} (h : WPs y as S σ Qs) (hq : ∀ r σ', Qs r σ' → Q' r σ') : WPs y as S σ Q' := WPm.mono h (fun r S' σ' h => ⟨h.1, hq r σ' h.2⟩)
theorem r_getIv {o ci k ix : Nat} (hd : decode (me_c y) pc = .ok (.getfield ix, 3)) (hf : FL (me_n y).cls ix ci k) (hty : isRf (clTy ci k) = false) (ho : S.2.1 o = (10 + ci, 0)) (kk : AW y (pc + 3) ls (vI (σ o k) :: st) S σ rc rs Q) : AW y pc ls (vR o :: st) S σ rc rs Q := r_getI hd hf hty (by rw [ho]) kk
theorem r_putIv {o ci k ix : Nat} {z : Int} (hd : decode (me_c y) pc = .ok (.putfield ix, 3)) (hf : FL (me_n y).cls ix ci k) (hfin : ∀ q : vw_C, vwCl[ci]? = some q → (q.2.1 k).2.2.2 = false) (hty : clTy ci k = .int ∨ (clTy ci k = .boolean ∧ (z = 0 ∨ z = 1))) (ho : S.2.1 o = (10 + ci, 0)) (kk : AW y (pc + 3) ls st S (up2 σ o k z) rc rs Q) : AW y pc ls (vI z :: vR o :: st) S σ rc rs Q := r_putI hd hf hfin hty (by rw [ho]) kk
theorem s_callVv {z : ME} {o ci n ix : Nat} (as : List AV) (hd : decode (me_c y) pc = .ok (.invokevirtual ix, 3)) (hm : MV z n ci) (hl : LK (me_n y).cls ix (me_n z)) (hn : as.length = n) (hR : fits2 z y = true) (ho : S.2.1 o = (10 + ci, 0)) (hst : (st.map vcat).sum ≤ 8)
    (k : WPs z (vR o :: as) S σ (fun r σ' => AWs y (pc + 3) ls (prt (me_r z) r st) S σ' Qs)) : AWs y pc ls (as.reverse ++ vR o :: st) S σ Qs := s_callV as hd hm hl hn hR (by rw [ho]) hst k
theorem r_top {z z' : Int} (h : z = z') (k : AW y pc ls (vI z' :: st) S σ rc rs Q) : AW y pc ls (vI z :: st) S σ rc rs Q := h ▸ k
theorem r_gen {z : Int} (k : ∀ x : Int, x = z → AW y pc ls (vI x :: st) S σ rc rs Q) : AW y pc ls (vI z :: st) S σ rc rs Q := k z rfl
theorem r_aaldv {a n b : Nat} {i : Int} (hd : decode (me_c y) pc = .ok (.aaload, 1)) (hk : S.2.1 a = (4, n) ∨ S.2.1 a = (5, n)) (h0 : 0 ≤ i) (h1 : i < n) (he : S.2.2 a i.toNat = b) (hne : b ≠ 0) (kk : AW y (pc + 1) ls (vR b :: st) S σ rc rs Q) : AW y pc ls (vI i :: vR a :: st) S σ rc rs Q := by
  subst he
  exact r_aald hd hk h0 h1 hne kk
end PR2
def KDt : List (Nat × Nat) := [(0, 0), (20, 0), (17, 0), (1, 700), (10, 0), (1, 48), (1, 48), (13, 0), (11, 0), (1, 48), (1, 48), (1, 48), (11, 0), (1, 48), (1, 48), (1, 48), (1, 48), (1, 48), (1, 48), (1, 48), (14, 0), (1, 24), (1, 24), (1, 24), (2, 24), (1, 25), (1, 48), (1, 196), (1, 611), (1, 611), (1, 4096), (19, 0), (1, 48), (1, 25), (1, 48), (1, 49), (1, 48), (1, 49), (2, 24), (2, 24), (18, 0), (1, 24), (1, 24), (1, 24), (1, 24), (1, 24), (1, 24), (1, 24), (1, 24), (1, 24), (2, 24), (15, 0), (1, 24), (12, 0), (4, 10), (5, 10), (10, 0), (1, 48), (1, 48), (15, 0), (1, 24), (10, 0), (1, 48), (1, 48), (15, 0), (1, 24), (10, 0), (1, 48), (1, 48), (15, 0), (1, 24), (10, 0), (1, 48), (1, 48), (15, 0), (1, 24), (10, 0), (1, 48), (1, 48), (15, 0), (1, 24), (10, 0), (1, 48), (1, 48), (15, 0), (1, 24), (10, 0), (1, 48), (1, 48), (15, 0), (1, 24), (10, 0), (1, 48), (1, 48), (15, 0), (1, 24), (10, 0), (1, 48), (1, 48), (15, 0), (1, 24), (10, 0), (1, 48), (1, 48), (15, 0), (1, 24), (10, 0), (1, 48), (1, 48), (13, 0), (11, 0), (1, 48), (1, 48), (1, 48), (11, 0), (1, 48), (1, 48), (1, 48), (1, 48), (1, 48), (1, 48), (1, 48), (15, 0), (1, 24), (16, 0), (21, 0), (1, 700), (1, 152), (1, 152), (1, 152), (1, 1520), (1, 48), (1, 48), (1, 48), (1, 48), (1, 24), (1, 24), (1, 24), (1, 48), (1, 48), (1, 16384), (2, 24), (2, 24), (1, 48), (1, 49), (1, 48), (1, 49), (1, 49), (1, 48), (1, 24), (1, 24), (1, 24), (1, 24), (1, 24), (3, 1)]
def RFt : List (List Nat) := [[], [2, 4, 7, 20, 31, 40, 51, 53, 106, 109, 122, 124], [3], [], [5, 6], [], [], [4, 8, 12, 16, 17, 18, 19], [9, 10, 0, 11], [], [], [], [13, 14, 0, 15], [], [], [], [], [], [], [], [7, 21, 22, 23, 24, 25, 0, 26, 0, 27, 28, 0, 29, 30], [], [], [], [], [], [], [], [], [], [], [4, 7, 20, 32, 33, 34, 35, 0, 36, 37, 0, 38, 39], [], [], [], [], [], [], [], [], [4, 7, 31, 41, 42, 43, 44, 45, 46, 0, 47, 48, 0, 49, 50], [], [], [], [], [], [], [], [], [], [], [4, 7, 40, 52], [], [54, 55], [56, 61, 66, 71, 76, 81, 86, 91, 96, 101], [59, 64, 69, 74, 79, 84, 89, 94, 99, 104], [57, 58], [], [], [4, 7, 40, 60], [], [62, 63], [], [], [4, 7, 40, 65], [], [67, 68], [], [], [4, 7, 40, 70], [], [72, 73], [], [], [4, 7, 40, 75], [], [77, 78], [], [], [4, 7, 40, 80], [], [82, 83], [], [], [4, 7, 40, 85], [], [87, 88], [], [], [4, 7, 40, 90], [], [92, 93], [], [], [4, 7, 40, 95], [], [97, 98], [], [], [4, 7, 40, 100], [], [102, 103], [], [], [4, 7, 40, 105], [], [107, 108], [], [], [106, 110, 114, 118, 119, 120, 121], [111, 112, 0, 113], [], [], [], [115, 116, 0, 117], [], [], [], [], [], [], [], [4, 7, 40, 123], [], [2, 106], [0, 0, 0, 0, 126, 0, 127, 128, 129, 130, 0, 0, 0, 0, 0, 0, 0, 0, 0, 0, 0, 0, 131, 132, 133, 134, 0, 0, 135, 136, 137, 0, 138, 139, 0, 140, 141, 142, 143, 144, 0, 145, 146, 147, 148, 149, 150, 151, 152, 153], [], [], [], [], [], [], [], [], [], [], [], [], [], [], [], [], [], [], [], [], [], [], [], [], [], [], [], [], []]
def SHP (S : ShT) : Prop := 155 ≤ S.1 ∧ (∀ a : Nat, a < 155 → S.2.1 a = KDt.getD a (0, 0)) ∧ ∀ a k : Nat, a < 155 → S.2.2 a k = (RFt.getD a []).getD k 0
section SHAPE
variable {S : ShT}
theorem k_1 (h : SHP S) : S.2.1 1 = (20, 0) := h.2.1 1 (by decide)
theorem k_2 (h : SHP S) : S.2.1 2 = (17, 0) := h.2.1 2 (by decide)
theorem k_3 (h : SHP S) : S.2.1 3 = (1, 700) := h.2.1 3 (by decide)
theorem k_4 (h : SHP S) : S.2.1 4 = (10, 0) := h.2.1 4 (by decide)
theorem k_5 (h : SHP S) : S.2.1 5 = (1, 48) := h.2.1 5 (by decide)
theorem k_6 (h : SHP S) : S.2.1 6 = (1, 48) := h.2.1 6 (by decide)
theorem k_7 (h : SHP S) : S.2.1 7 = (13, 0) := h.2.1 7 (by decide)
theorem k_8 (h : SHP S) : S.2.1 8 = (11, 0) := h.2.1 8 (by decide)
theorem k_9 (h : SHP S) : S.2.1 9 = (1, 48) := h.2.1 9 (by decide)
theorem k_10 (h : SHP S) : S.2.1 10 = (1, 48) := h.2.1 10 (by decide)
theorem k_11 (h : SHP S) : S.2.1 11 = (1, 48) := h.2.1 11 (by decide)
theorem k_12 (h : SHP S) : S.2.1 12 = (11, 0) := h.2.1 12 (by decide)
theorem k_13 (h : SHP S) : S.2.1 13 = (1, 48) := h.2.1 13 (by decide)
theorem k_14 (h : SHP S) : S.2.1 14 = (1, 48) := h.2.1 14 (by decide)
theorem k_15 (h : SHP S) : S.2.1 15 = (1, 48) := h.2.1 15 (by decide)
theorem k_16 (h : SHP S) : S.2.1 16 = (1, 48) := h.2.1 16 (by decide)
theorem k_17 (h : SHP S) : S.2.1 17 = (1, 48) := h.2.1 17 (by decide)
theorem k_18 (h : SHP S) : S.2.1 18 = (1, 48) := h.2.1 18 (by decide)
theorem k_19 (h : SHP S) : S.2.1 19 = (1, 48) := h.2.1 19 (by decide)
theorem k_20 (h : SHP S) : S.2.1 20 = (14, 0) := h.2.1 20 (by decide)
theorem k_21 (h : SHP S) : S.2.1 21 = (1, 24) := h.2.1 21 (by decide)
theorem k_22 (h : SHP S) : S.2.1 22 = (1, 24) := h.2.1 22 (by decide)
theorem k_23 (h : SHP S) : S.2.1 23 = (1, 24) := h.2.1 23 (by decide)
theorem k_24 (h : SHP S) : S.2.1 24 = (2, 24) := h.2.1 24 (by decide)
theorem k_25 (h : SHP S) : S.2.1 25 = (1, 25) := h.2.1 25 (by decide)
theorem k_26 (h : SHP S) : S.2.1 26 = (1, 48) := h.2.1 26 (by decide)
theorem k_27 (h : SHP S) : S.2.1 27 = (1, 196) := h.2.1 27 (by decide)
theorem k_28 (h : SHP S) : S.2.1 28 = (1, 611) := h.2.1 28 (by decide)
theorem k_29 (h : SHP S) : S.2.1 29 = (1, 611) := h.2.1 29 (by decide)
theorem k_30 (h : SHP S) : S.2.1 30 = (1, 4096) := h.2.1 30 (by decide)
theorem k_31 (h : SHP S) : S.2.1 31 = (19, 0) := h.2.1 31 (by decide)
theorem k_32 (h : SHP S) : S.2.1 32 = (1, 48) := h.2.1 32 (by decide)
theorem k_33 (h : SHP S) : S.2.1 33 = (1, 25) := h.2.1 33 (by decide)
theorem k_34 (h : SHP S) : S.2.1 34 = (1, 48) := h.2.1 34 (by decide)
theorem k_35 (h : SHP S) : S.2.1 35 = (1, 49) := h.2.1 35 (by decide)
theorem k_36 (h : SHP S) : S.2.1 36 = (1, 48) := h.2.1 36 (by decide)
theorem k_37 (h : SHP S) : S.2.1 37 = (1, 49) := h.2.1 37 (by decide)
theorem k_38 (h : SHP S) : S.2.1 38 = (2, 24) := h.2.1 38 (by decide)
theorem k_39 (h : SHP S) : S.2.1 39 = (2, 24) := h.2.1 39 (by decide)
theorem k_40 (h : SHP S) : S.2.1 40 = (18, 0) := h.2.1 40 (by decide)
theorem k_41 (h : SHP S) : S.2.1 41 = (1, 24) := h.2.1 41 (by decide)
theorem k_42 (h : SHP S) : S.2.1 42 = (1, 24) := h.2.1 42 (by decide)
theorem k_43 (h : SHP S) : S.2.1 43 = (1, 24) := h.2.1 43 (by decide)
theorem k_44 (h : SHP S) : S.2.1 44 = (1, 24) := h.2.1 44 (by decide)
theorem k_45 (h : SHP S) : S.2.1 45 = (1, 24) := h.2.1 45 (by decide)
theorem k_46 (h : SHP S) : S.2.1 46 = (1, 24) := h.2.1 46 (by decide)
theorem k_47 (h : SHP S) : S.2.1 47 = (1, 24) := h.2.1 47 (by decide)
theorem k_48 (h : SHP S) : S.2.1 48 = (1, 24) := h.2.1 48 (by decide)
theorem k_49 (h : SHP S) : S.2.1 49 = (1, 24) := h.2.1 49 (by decide)
theorem k_50 (h : SHP S) : S.2.1 50 = (2, 24) := h.2.1 50 (by decide)
theorem k_51 (h : SHP S) : S.2.1 51 = (15, 0) := h.2.1 51 (by decide)
theorem k_52 (h : SHP S) : S.2.1 52 = (1, 24) := h.2.1 52 (by decide)
theorem k_53 (h : SHP S) : S.2.1 53 = (12, 0) := h.2.1 53 (by decide)
theorem k_54 (h : SHP S) : S.2.1 54 = (4, 10) := h.2.1 54 (by decide)
theorem k_55 (h : SHP S) : S.2.1 55 = (5, 10) := h.2.1 55 (by decide)
theorem k_56 (h : SHP S) : S.2.1 56 = (10, 0) := h.2.1 56 (by decide)
theorem k_57 (h : SHP S) : S.2.1 57 = (1, 48) := h.2.1 57 (by decide)
theorem k_58 (h : SHP S) : S.2.1 58 = (1, 48) := h.2.1 58 (by decide)
theorem k_59 (h : SHP S) : S.2.1 59 = (15, 0) := h.2.1 59 (by decide)
theorem k_60 (h : SHP S) : S.2.1 60 = (1, 24) := h.2.1 60 (by decide)
theorem k_61 (h : SHP S) : S.2.1 61 = (10, 0) := h.2.1 61 (by decide)
theorem k_62 (h : SHP S) : S.2.1 62 = (1, 48) := h.2.1 62 (by decide)
theorem k_63 (h : SHP S) : S.2.1 63 = (1, 48) := h.2.1 63 (by decide)
theorem k_64 (h : SHP S) : S.2.1 64 = (15, 0) := h.2.1 64 (by decide)
theorem k_65 (h : SHP S) : S.2.1 65 = (1, 24) := h.2.1 65 (by decide)
theorem k_66 (h : SHP S) : S.2.1 66 = (10, 0) := h.2.1 66 (by decide)
theorem k_67 (h : SHP S) : S.2.1 67 = (1, 48) := h.2.1 67 (by decide)
theorem k_68 (h : SHP S) : S.2.1 68 = (1, 48) := h.2.1 68 (by decide)
theorem k_69 (h : SHP S) : S.2.1 69 = (15, 0) := h.2.1 69 (by decide)
theorem k_70 (h : SHP S) : S.2.1 70 = (1, 24) := h.2.1 70 (by decide)
theorem k_71 (h : SHP S) : S.2.1 71 = (10, 0) := h.2.1 71 (by decide)
theorem k_72 (h : SHP S) : S.2.1 72 = (1, 48) := h.2.1 72 (by decide)
theorem k_73 (h : SHP S) : S.2.1 73 = (1, 48) := h.2.1 73 (by decide)
theorem k_74 (h : SHP S) : S.2.1 74 = (15, 0) := h.2.1 74 (by decide)
theorem k_75 (h : SHP S) : S.2.1 75 = (1, 24) := h.2.1 75 (by decide)
theorem k_76 (h : SHP S) : S.2.1 76 = (10, 0) := h.2.1 76 (by decide)
theorem k_77 (h : SHP S) : S.2.1 77 = (1, 48) := h.2.1 77 (by decide)
theorem k_78 (h : SHP S) : S.2.1 78 = (1, 48) := h.2.1 78 (by decide)
theorem k_79 (h : SHP S) : S.2.1 79 = (15, 0) := h.2.1 79 (by decide)
theorem k_80 (h : SHP S) : S.2.1 80 = (1, 24) := h.2.1 80 (by decide)
theorem k_81 (h : SHP S) : S.2.1 81 = (10, 0) := h.2.1 81 (by decide)
theorem k_82 (h : SHP S) : S.2.1 82 = (1, 48) := h.2.1 82 (by decide)
theorem k_83 (h : SHP S) : S.2.1 83 = (1, 48) := h.2.1 83 (by decide)
theorem k_84 (h : SHP S) : S.2.1 84 = (15, 0) := h.2.1 84 (by decide)
theorem k_85 (h : SHP S) : S.2.1 85 = (1, 24) := h.2.1 85 (by decide)
theorem k_86 (h : SHP S) : S.2.1 86 = (10, 0) := h.2.1 86 (by decide)
theorem k_87 (h : SHP S) : S.2.1 87 = (1, 48) := h.2.1 87 (by decide)
theorem k_88 (h : SHP S) : S.2.1 88 = (1, 48) := h.2.1 88 (by decide)
theorem k_89 (h : SHP S) : S.2.1 89 = (15, 0) := h.2.1 89 (by decide)
theorem k_90 (h : SHP S) : S.2.1 90 = (1, 24) := h.2.1 90 (by decide)
theorem k_91 (h : SHP S) : S.2.1 91 = (10, 0) := h.2.1 91 (by decide)
theorem k_92 (h : SHP S) : S.2.1 92 = (1, 48) := h.2.1 92 (by decide)
theorem k_93 (h : SHP S) : S.2.1 93 = (1, 48) := h.2.1 93 (by decide)
theorem k_94 (h : SHP S) : S.2.1 94 = (15, 0) := h.2.1 94 (by decide)
theorem k_95 (h : SHP S) : S.2.1 95 = (1, 24) := h.2.1 95 (by decide)
theorem k_96 (h : SHP S) : S.2.1 96 = (10, 0) := h.2.1 96 (by decide)
theorem k_97 (h : SHP S) : S.2.1 97 = (1, 48) := h.2.1 97 (by decide)
theorem k_98 (h : SHP S) : S.2.1 98 = (1, 48) := h.2.1 98 (by decide)
theorem k_99 (h : SHP S) : S.2.1 99 = (15, 0) := h.2.1 99 (by decide)
theorem k_100 (h : SHP S) : S.2.1 100 = (1, 24) := h.2.1 100 (by decide)
theorem k_101 (h : SHP S) : S.2.1 101 = (10, 0) := h.2.1 101 (by decide)
theorem k_102 (h : SHP S) : S.2.1 102 = (1, 48) := h.2.1 102 (by decide)
theorem k_103 (h : SHP S) : S.2.1 103 = (1, 48) := h.2.1 103 (by decide)
theorem k_104 (h : SHP S) : S.2.1 104 = (15, 0) := h.2.1 104 (by decide)
theorem k_105 (h : SHP S) : S.2.1 105 = (1, 24) := h.2.1 105 (by decide)
theorem k_106 (h : SHP S) : S.2.1 106 = (10, 0) := h.2.1 106 (by decide)
theorem k_107 (h : SHP S) : S.2.1 107 = (1, 48) := h.2.1 107 (by decide)
theorem k_108 (h : SHP S) : S.2.1 108 = (1, 48) := h.2.1 108 (by decide)
theorem k_109 (h : SHP S) : S.2.1 109 = (13, 0) := h.2.1 109 (by decide)
theorem k_110 (h : SHP S) : S.2.1 110 = (11, 0) := h.2.1 110 (by decide)
theorem k_111 (h : SHP S) : S.2.1 111 = (1, 48) := h.2.1 111 (by decide)
theorem k_112 (h : SHP S) : S.2.1 112 = (1, 48) := h.2.1 112 (by decide)
theorem k_113 (h : SHP S) : S.2.1 113 = (1, 48) := h.2.1 113 (by decide)
theorem k_114 (h : SHP S) : S.2.1 114 = (11, 0) := h.2.1 114 (by decide)
theorem k_115 (h : SHP S) : S.2.1 115 = (1, 48) := h.2.1 115 (by decide)
theorem k_116 (h : SHP S) : S.2.1 116 = (1, 48) := h.2.1 116 (by decide)
theorem k_117 (h : SHP S) : S.2.1 117 = (1, 48) := h.2.1 117 (by decide)
theorem k_118 (h : SHP S) : S.2.1 118 = (1, 48) := h.2.1 118 (by decide)
theorem k_119 (h : SHP S) : S.2.1 119 = (1, 48) := h.2.1 119 (by decide)
theorem k_120 (h : SHP S) : S.2.1 120 = (1, 48) := h.2.1 120 (by decide)
theorem k_121 (h : SHP S) : S.2.1 121 = (1, 48) := h.2.1 121 (by decide)
theorem k_122 (h : SHP S) : S.2.1 122 = (15, 0) := h.2.1 122 (by decide)
theorem k_123 (h : SHP S) : S.2.1 123 = (1, 24) := h.2.1 123 (by decide)
theorem k_124 (h : SHP S) : S.2.1 124 = (16, 0) := h.2.1 124 (by decide)
theorem k_125 (h : SHP S) : S.2.1 125 = (21, 0) := h.2.1 125 (by decide)
theorem k_126 (h : SHP S) : S.2.1 126 = (1, 700) := h.2.1 126 (by decide)
theorem k_127 (h : SHP S) : S.2.1 127 = (1, 152) := h.2.1 127 (by decide)
theorem k_128 (h : SHP S) : S.2.1 128 = (1, 152) := h.2.1 128 (by decide)
theorem k_129 (h : SHP S) : S.2.1 129 = (1, 152) := h.2.1 129 (by decide)
theorem k_130 (h : SHP S) : S.2.1 130 = (1, 1520) := h.2.1 130 (by decide)
theorem k_131 (h : SHP S) : S.2.1 131 = (1, 48) := h.2.1 131 (by decide)
theorem k_132 (h : SHP S) : S.2.1 132 = (1, 48) := h.2.1 132 (by decide)
theorem k_133 (h : SHP S) : S.2.1 133 = (1, 48) := h.2.1 133 (by decide)
theorem k_134 (h : SHP S) : S.2.1 134 = (1, 48) := h.2.1 134 (by decide)
theorem k_135 (h : SHP S) : S.2.1 135 = (1, 24) := h.2.1 135 (by decide)
theorem k_136 (h : SHP S) : S.2.1 136 = (1, 24) := h.2.1 136 (by decide)
theorem k_137 (h : SHP S) : S.2.1 137 = (1, 24) := h.2.1 137 (by decide)
theorem k_138 (h : SHP S) : S.2.1 138 = (1, 48) := h.2.1 138 (by decide)
theorem k_139 (h : SHP S) : S.2.1 139 = (1, 48) := h.2.1 139 (by decide)
theorem k_140 (h : SHP S) : S.2.1 140 = (1, 16384) := h.2.1 140 (by decide)
theorem k_141 (h : SHP S) : S.2.1 141 = (2, 24) := h.2.1 141 (by decide)
theorem k_142 (h : SHP S) : S.2.1 142 = (2, 24) := h.2.1 142 (by decide)
theorem k_143 (h : SHP S) : S.2.1 143 = (1, 48) := h.2.1 143 (by decide)
theorem k_144 (h : SHP S) : S.2.1 144 = (1, 49) := h.2.1 144 (by decide)
theorem k_145 (h : SHP S) : S.2.1 145 = (1, 48) := h.2.1 145 (by decide)
theorem k_146 (h : SHP S) : S.2.1 146 = (1, 49) := h.2.1 146 (by decide)
theorem k_147 (h : SHP S) : S.2.1 147 = (1, 49) := h.2.1 147 (by decide)
theorem k_148 (h : SHP S) : S.2.1 148 = (1, 48) := h.2.1 148 (by decide)
theorem k_149 (h : SHP S) : S.2.1 149 = (1, 24) := h.2.1 149 (by decide)
theorem k_150 (h : SHP S) : S.2.1 150 = (1, 24) := h.2.1 150 (by decide)
theorem k_151 (h : SHP S) : S.2.1 151 = (1, 24) := h.2.1 151 (by decide)
theorem k_152 (h : SHP S) : S.2.1 152 = (1, 24) := h.2.1 152 (by decide)
theorem k_153 (h : SHP S) : S.2.1 153 = (1, 24) := h.2.1 153 (by decide)
theorem k_154 (h : SHP S) : S.2.1 154 = (3, 1) := h.2.1 154 (by decide)
theorem f_1_0 (h : SHP S) : S.2.2 1 0 = 2 := h.2.2 1 0 (by decide)
theorem f_1_1 (h : SHP S) : S.2.2 1 1 = 4 := h.2.2 1 1 (by decide)
theorem f_1_2 (h : SHP S) : S.2.2 1 2 = 7 := h.2.2 1 2 (by decide)
theorem f_1_3 (h : SHP S) : S.2.2 1 3 = 20 := h.2.2 1 3 (by decide)
theorem f_1_4 (h : SHP S) : S.2.2 1 4 = 31 := h.2.2 1 4 (by decide)
theorem f_1_5 (h : SHP S) : S.2.2 1 5 = 40 := h.2.2 1 5 (by decide)
theorem f_1_6 (h : SHP S) : S.2.2 1 6 = 51 := h.2.2 1 6 (by decide)
theorem f_1_7 (h : SHP S) : S.2.2 1 7 = 53 := h.2.2 1 7 (by decide)
theorem f_1_8 (h : SHP S) : S.2.2 1 8 = 106 := h.2.2 1 8 (by decide)
theorem f_1_9 (h : SHP S) : S.2.2 1 9 = 109 := h.2.2 1 9 (by decide)
theorem f_1_10 (h : SHP S) : S.2.2 1 10 = 122 := h.2.2 1 10 (by decide)
theorem f_1_11 (h : SHP S) : S.2.2 1 11 = 124 := h.2.2 1 11 (by decide)
theorem f_2_0 (h : SHP S) : S.2.2 2 0 = 3 := h.2.2 2 0 (by decide)
theorem f_4_0 (h : SHP S) : S.2.2 4 0 = 5 := h.2.2 4 0 (by decide)
theorem f_4_1 (h : SHP S) : S.2.2 4 1 = 6 := h.2.2 4 1 (by decide)
theorem f_7_0 (h : SHP S) : S.2.2 7 0 = 4 := h.2.2 7 0 (by decide)
theorem f_7_1 (h : SHP S) : S.2.2 7 1 = 8 := h.2.2 7 1 (by decide)
theorem f_7_2 (h : SHP S) : S.2.2 7 2 = 12 := h.2.2 7 2 (by decide)
theorem f_7_3 (h : SHP S) : S.2.2 7 3 = 16 := h.2.2 7 3 (by decide)
theorem f_7_4 (h : SHP S) : S.2.2 7 4 = 17 := h.2.2 7 4 (by decide)
theorem f_7_5 (h : SHP S) : S.2.2 7 5 = 18 := h.2.2 7 5 (by decide)
theorem f_7_6 (h : SHP S) : S.2.2 7 6 = 19 := h.2.2 7 6 (by decide)
theorem f_8_0 (h : SHP S) : S.2.2 8 0 = 9 := h.2.2 8 0 (by decide)
theorem f_8_1 (h : SHP S) : S.2.2 8 1 = 10 := h.2.2 8 1 (by decide)
theorem f_8_3 (h : SHP S) : S.2.2 8 3 = 11 := h.2.2 8 3 (by decide)
theorem f_12_0 (h : SHP S) : S.2.2 12 0 = 13 := h.2.2 12 0 (by decide)
theorem f_12_1 (h : SHP S) : S.2.2 12 1 = 14 := h.2.2 12 1 (by decide)
theorem f_12_3 (h : SHP S) : S.2.2 12 3 = 15 := h.2.2 12 3 (by decide)
theorem f_20_0 (h : SHP S) : S.2.2 20 0 = 7 := h.2.2 20 0 (by decide)
theorem f_20_1 (h : SHP S) : S.2.2 20 1 = 21 := h.2.2 20 1 (by decide)
theorem f_20_2 (h : SHP S) : S.2.2 20 2 = 22 := h.2.2 20 2 (by decide)
theorem f_20_3 (h : SHP S) : S.2.2 20 3 = 23 := h.2.2 20 3 (by decide)
theorem f_20_4 (h : SHP S) : S.2.2 20 4 = 24 := h.2.2 20 4 (by decide)
theorem f_20_5 (h : SHP S) : S.2.2 20 5 = 25 := h.2.2 20 5 (by decide)
theorem f_20_7 (h : SHP S) : S.2.2 20 7 = 26 := h.2.2 20 7 (by decide)
theorem f_20_9 (h : SHP S) : S.2.2 20 9 = 27 := h.2.2 20 9 (by decide)
theorem f_20_10 (h : SHP S) : S.2.2 20 10 = 28 := h.2.2 20 10 (by decide)
theorem f_20_12 (h : SHP S) : S.2.2 20 12 = 29 := h.2.2 20 12 (by decide)
theorem f_20_13 (h : SHP S) : S.2.2 20 13 = 30 := h.2.2 20 13 (by decide)
theorem f_31_0 (h : SHP S) : S.2.2 31 0 = 4 := h.2.2 31 0 (by decide)
theorem f_31_1 (h : SHP S) : S.2.2 31 1 = 7 := h.2.2 31 1 (by decide)
theorem f_31_2 (h : SHP S) : S.2.2 31 2 = 20 := h.2.2 31 2 (by decide)
theorem f_31_3 (h : SHP S) : S.2.2 31 3 = 32 := h.2.2 31 3 (by decide)
theorem f_31_4 (h : SHP S) : S.2.2 31 4 = 33 := h.2.2 31 4 (by decide)
theorem f_31_5 (h : SHP S) : S.2.2 31 5 = 34 := h.2.2 31 5 (by decide)
theorem f_31_6 (h : SHP S) : S.2.2 31 6 = 35 := h.2.2 31 6 (by decide)
theorem f_31_8 (h : SHP S) : S.2.2 31 8 = 36 := h.2.2 31 8 (by decide)
theorem f_31_9 (h : SHP S) : S.2.2 31 9 = 37 := h.2.2 31 9 (by decide)
theorem f_31_11 (h : SHP S) : S.2.2 31 11 = 38 := h.2.2 31 11 (by decide)
theorem f_31_12 (h : SHP S) : S.2.2 31 12 = 39 := h.2.2 31 12 (by decide)
theorem f_40_0 (h : SHP S) : S.2.2 40 0 = 4 := h.2.2 40 0 (by decide)
theorem f_40_1 (h : SHP S) : S.2.2 40 1 = 7 := h.2.2 40 1 (by decide)
theorem f_40_2 (h : SHP S) : S.2.2 40 2 = 31 := h.2.2 40 2 (by decide)
theorem f_40_3 (h : SHP S) : S.2.2 40 3 = 41 := h.2.2 40 3 (by decide)
theorem f_40_4 (h : SHP S) : S.2.2 40 4 = 42 := h.2.2 40 4 (by decide)
theorem f_40_5 (h : SHP S) : S.2.2 40 5 = 43 := h.2.2 40 5 (by decide)
theorem f_40_6 (h : SHP S) : S.2.2 40 6 = 44 := h.2.2 40 6 (by decide)
theorem f_40_7 (h : SHP S) : S.2.2 40 7 = 45 := h.2.2 40 7 (by decide)
theorem f_40_8 (h : SHP S) : S.2.2 40 8 = 46 := h.2.2 40 8 (by decide)
theorem f_40_10 (h : SHP S) : S.2.2 40 10 = 47 := h.2.2 40 10 (by decide)
theorem f_40_11 (h : SHP S) : S.2.2 40 11 = 48 := h.2.2 40 11 (by decide)
theorem f_40_13 (h : SHP S) : S.2.2 40 13 = 49 := h.2.2 40 13 (by decide)
theorem f_40_14 (h : SHP S) : S.2.2 40 14 = 50 := h.2.2 40 14 (by decide)
theorem f_51_0 (h : SHP S) : S.2.2 51 0 = 4 := h.2.2 51 0 (by decide)
theorem f_51_1 (h : SHP S) : S.2.2 51 1 = 7 := h.2.2 51 1 (by decide)
theorem f_51_2 (h : SHP S) : S.2.2 51 2 = 40 := h.2.2 51 2 (by decide)
theorem f_51_3 (h : SHP S) : S.2.2 51 3 = 52 := h.2.2 51 3 (by decide)
theorem f_53_0 (h : SHP S) : S.2.2 53 0 = 54 := h.2.2 53 0 (by decide)
theorem f_53_1 (h : SHP S) : S.2.2 53 1 = 55 := h.2.2 53 1 (by decide)
theorem f_56_0 (h : SHP S) : S.2.2 56 0 = 57 := h.2.2 56 0 (by decide)
theorem f_56_1 (h : SHP S) : S.2.2 56 1 = 58 := h.2.2 56 1 (by decide)
theorem f_59_0 (h : SHP S) : S.2.2 59 0 = 4 := h.2.2 59 0 (by decide)
theorem f_59_1 (h : SHP S) : S.2.2 59 1 = 7 := h.2.2 59 1 (by decide)
theorem f_59_2 (h : SHP S) : S.2.2 59 2 = 40 := h.2.2 59 2 (by decide)
theorem f_59_3 (h : SHP S) : S.2.2 59 3 = 60 := h.2.2 59 3 (by decide)
theorem f_61_0 (h : SHP S) : S.2.2 61 0 = 62 := h.2.2 61 0 (by decide)
theorem f_61_1 (h : SHP S) : S.2.2 61 1 = 63 := h.2.2 61 1 (by decide)
theorem f_64_0 (h : SHP S) : S.2.2 64 0 = 4 := h.2.2 64 0 (by decide)
theorem f_64_1 (h : SHP S) : S.2.2 64 1 = 7 := h.2.2 64 1 (by decide)
theorem f_64_2 (h : SHP S) : S.2.2 64 2 = 40 := h.2.2 64 2 (by decide)
theorem f_64_3 (h : SHP S) : S.2.2 64 3 = 65 := h.2.2 64 3 (by decide)
theorem f_66_0 (h : SHP S) : S.2.2 66 0 = 67 := h.2.2 66 0 (by decide)
theorem f_66_1 (h : SHP S) : S.2.2 66 1 = 68 := h.2.2 66 1 (by decide)
theorem f_69_0 (h : SHP S) : S.2.2 69 0 = 4 := h.2.2 69 0 (by decide)
theorem f_69_1 (h : SHP S) : S.2.2 69 1 = 7 := h.2.2 69 1 (by decide)
theorem f_69_2 (h : SHP S) : S.2.2 69 2 = 40 := h.2.2 69 2 (by decide)
theorem f_69_3 (h : SHP S) : S.2.2 69 3 = 70 := h.2.2 69 3 (by decide)
theorem f_71_0 (h : SHP S) : S.2.2 71 0 = 72 := h.2.2 71 0 (by decide)
theorem f_71_1 (h : SHP S) : S.2.2 71 1 = 73 := h.2.2 71 1 (by decide)
theorem f_74_0 (h : SHP S) : S.2.2 74 0 = 4 := h.2.2 74 0 (by decide)
theorem f_74_1 (h : SHP S) : S.2.2 74 1 = 7 := h.2.2 74 1 (by decide)
theorem f_74_2 (h : SHP S) : S.2.2 74 2 = 40 := h.2.2 74 2 (by decide)
theorem f_74_3 (h : SHP S) : S.2.2 74 3 = 75 := h.2.2 74 3 (by decide)
theorem f_76_0 (h : SHP S) : S.2.2 76 0 = 77 := h.2.2 76 0 (by decide)
theorem f_76_1 (h : SHP S) : S.2.2 76 1 = 78 := h.2.2 76 1 (by decide)
theorem f_79_0 (h : SHP S) : S.2.2 79 0 = 4 := h.2.2 79 0 (by decide)
theorem f_79_1 (h : SHP S) : S.2.2 79 1 = 7 := h.2.2 79 1 (by decide)
theorem f_79_2 (h : SHP S) : S.2.2 79 2 = 40 := h.2.2 79 2 (by decide)
theorem f_79_3 (h : SHP S) : S.2.2 79 3 = 80 := h.2.2 79 3 (by decide)
theorem f_81_0 (h : SHP S) : S.2.2 81 0 = 82 := h.2.2 81 0 (by decide)
theorem f_81_1 (h : SHP S) : S.2.2 81 1 = 83 := h.2.2 81 1 (by decide)
theorem f_84_0 (h : SHP S) : S.2.2 84 0 = 4 := h.2.2 84 0 (by decide)
theorem f_84_1 (h : SHP S) : S.2.2 84 1 = 7 := h.2.2 84 1 (by decide)
theorem f_84_2 (h : SHP S) : S.2.2 84 2 = 40 := h.2.2 84 2 (by decide)
theorem f_84_3 (h : SHP S) : S.2.2 84 3 = 85 := h.2.2 84 3 (by decide)
theorem f_86_0 (h : SHP S) : S.2.2 86 0 = 87 := h.2.2 86 0 (by decide)
theorem f_86_1 (h : SHP S) : S.2.2 86 1 = 88 := h.2.2 86 1 (by decide)
theorem f_89_0 (h : SHP S) : S.2.2 89 0 = 4 := h.2.2 89 0 (by decide)
theorem f_89_1 (h : SHP S) : S.2.2 89 1 = 7 := h.2.2 89 1 (by decide)
theorem f_89_2 (h : SHP S) : S.2.2 89 2 = 40 := h.2.2 89 2 (by decide)
theorem f_89_3 (h : SHP S) : S.2.2 89 3 = 90 := h.2.2 89 3 (by decide)
theorem f_91_0 (h : SHP S) : S.2.2 91 0 = 92 := h.2.2 91 0 (by decide)
theorem f_91_1 (h : SHP S) : S.2.2 91 1 = 93 := h.2.2 91 1 (by decide)
theorem f_94_0 (h : SHP S) : S.2.2 94 0 = 4 := h.2.2 94 0 (by decide)
theorem f_94_1 (h : SHP S) : S.2.2 94 1 = 7 := h.2.2 94 1 (by decide)
theorem f_94_2 (h : SHP S) : S.2.2 94 2 = 40 := h.2.2 94 2 (by decide)
theorem f_94_3 (h : SHP S) : S.2.2 94 3 = 95 := h.2.2 94 3 (by decide)
theorem f_96_0 (h : SHP S) : S.2.2 96 0 = 97 := h.2.2 96 0 (by decide)
theorem f_96_1 (h : SHP S) : S.2.2 96 1 = 98 := h.2.2 96 1 (by decide)
theorem f_99_0 (h : SHP S) : S.2.2 99 0 = 4 := h.2.2 99 0 (by decide)
theorem f_99_1 (h : SHP S) : S.2.2 99 1 = 7 := h.2.2 99 1 (by decide)
theorem f_99_2 (h : SHP S) : S.2.2 99 2 = 40 := h.2.2 99 2 (by decide)
theorem f_99_3 (h : SHP S) : S.2.2 99 3 = 100 := h.2.2 99 3 (by decide)
theorem f_101_0 (h : SHP S) : S.2.2 101 0 = 102 := h.2.2 101 0 (by decide)
theorem f_101_1 (h : SHP S) : S.2.2 101 1 = 103 := h.2.2 101 1 (by decide)
theorem f_104_0 (h : SHP S) : S.2.2 104 0 = 4 := h.2.2 104 0 (by decide)
theorem f_104_1 (h : SHP S) : S.2.2 104 1 = 7 := h.2.2 104 1 (by decide)
theorem f_104_2 (h : SHP S) : S.2.2 104 2 = 40 := h.2.2 104 2 (by decide)
theorem f_104_3 (h : SHP S) : S.2.2 104 3 = 105 := h.2.2 104 3 (by decide)
theorem f_106_0 (h : SHP S) : S.2.2 106 0 = 107 := h.2.2 106 0 (by decide)
theorem f_106_1 (h : SHP S) : S.2.2 106 1 = 108 := h.2.2 106 1 (by decide)
theorem f_109_0 (h : SHP S) : S.2.2 109 0 = 106 := h.2.2 109 0 (by decide)
theorem f_109_1 (h : SHP S) : S.2.2 109 1 = 110 := h.2.2 109 1 (by decide)
theorem f_109_2 (h : SHP S) : S.2.2 109 2 = 114 := h.2.2 109 2 (by decide)
theorem f_109_3 (h : SHP S) : S.2.2 109 3 = 118 := h.2.2 109 3 (by decide)
theorem f_109_4 (h : SHP S) : S.2.2 109 4 = 119 := h.2.2 109 4 (by decide)
theorem f_109_5 (h : SHP S) : S.2.2 109 5 = 120 := h.2.2 109 5 (by decide)
theorem f_109_6 (h : SHP S) : S.2.2 109 6 = 121 := h.2.2 109 6 (by decide)
theorem f_110_0 (h : SHP S) : S.2.2 110 0 = 111 := h.2.2 110 0 (by decide)
theorem f_110_1 (h : SHP S) : S.2.2 110 1 = 112 := h.2.2 110 1 (by decide)
theorem f_110_3 (h : SHP S) : S.2.2 110 3 = 113 := h.2.2 110 3 (by decide)
theorem f_114_0 (h : SHP S) : S.2.2 114 0 = 115 := h.2.2 114 0 (by decide)
theorem f_114_1 (h : SHP S) : S.2.2 114 1 = 116 := h.2.2 114 1 (by decide)
theorem f_114_3 (h : SHP S) : S.2.2 114 3 = 117 := h.2.2 114 3 (by decide)
theorem f_122_0 (h : SHP S) : S.2.2 122 0 = 4 := h.2.2 122 0 (by decide)
theorem f_122_1 (h : SHP S) : S.2.2 122 1 = 7 := h.2.2 122 1 (by decide)
theorem f_122_2 (h : SHP S) : S.2.2 122 2 = 40 := h.2.2 122 2 (by decide)
theorem f_122_3 (h : SHP S) : S.2.2 122 3 = 123 := h.2.2 122 3 (by decide)
theorem f_124_0 (h : SHP S) : S.2.2 124 0 = 2 := h.2.2 124 0 (by decide)
theorem f_124_1 (h : SHP S) : S.2.2 124 1 = 106 := h.2.2 124 1 (by decide)
theorem f_125_4 (h : SHP S) : S.2.2 125 4 = 126 := h.2.2 125 4 (by decide)
theorem f_125_6 (h : SHP S) : S.2.2 125 6 = 127 := h.2.2 125 6 (by decide)
theorem f_125_7 (h : SHP S) : S.2.2 125 7 = 128 := h.2.2 125 7 (by decide)
theorem f_125_8 (h : SHP S) : S.2.2 125 8 = 129 := h.2.2 125 8 (by decide)
theorem f_125_9 (h : SHP S) : S.2.2 125 9 = 130 := h.2.2 125 9 (by decide)
theorem f_125_22 (h : SHP S) : S.2.2 125 22 = 131 := h.2.2 125 22 (by decide)
theorem f_125_23 (h : SHP S) : S.2.2 125 23 = 132 := h.2.2 125 23 (by decide)
theorem f_125_24 (h : SHP S) : S.2.2 125 24 = 133 := h.2.2 125 24 (by decide)
theorem f_125_25 (h : SHP S) : S.2.2 125 25 = 134 := h.2.2 125 25 (by decide)
theorem f_125_28 (h : SHP S) : S.2.2 125 28 = 135 := h.2.2 125 28 (by decide)
theorem f_125_29 (h : SHP S) : S.2.2 125 29 = 136 := h.2.2 125 29 (by decide)
theorem f_125_30 (h : SHP S) : S.2.2 125 30 = 137 := h.2.2 125 30 (by decide)
theorem f_125_32 (h : SHP S) : S.2.2 125 32 = 138 := h.2.2 125 32 (by decide)
theorem f_125_33 (h : SHP S) : S.2.2 125 33 = 139 := h.2.2 125 33 (by decide)
theorem f_125_35 (h : SHP S) : S.2.2 125 35 = 140 := h.2.2 125 35 (by decide)
theorem f_125_36 (h : SHP S) : S.2.2 125 36 = 141 := h.2.2 125 36 (by decide)
theorem f_125_37 (h : SHP S) : S.2.2 125 37 = 142 := h.2.2 125 37 (by decide)
theorem f_125_38 (h : SHP S) : S.2.2 125 38 = 143 := h.2.2 125 38 (by decide)
theorem f_125_39 (h : SHP S) : S.2.2 125 39 = 144 := h.2.2 125 39 (by decide)
theorem f_125_41 (h : SHP S) : S.2.2 125 41 = 145 := h.2.2 125 41 (by decide)
theorem f_125_42 (h : SHP S) : S.2.2 125 42 = 146 := h.2.2 125 42 (by decide)
theorem f_125_43 (h : SHP S) : S.2.2 125 43 = 147 := h.2.2 125 43 (by decide)
theorem f_125_44 (h : SHP S) : S.2.2 125 44 = 148 := h.2.2 125 44 (by decide)
theorem f_125_45 (h : SHP S) : S.2.2 125 45 = 149 := h.2.2 125 45 (by decide)
theorem f_125_46 (h : SHP S) : S.2.2 125 46 = 150 := h.2.2 125 46 (by decide)
theorem f_125_47 (h : SHP S) : S.2.2 125 47 = 151 := h.2.2 125 47 (by decide)
theorem f_125_48 (h : SHP S) : S.2.2 125 48 = 152 := h.2.2 125 48 (by decide)
theorem f_125_49 (h : SHP S) : S.2.2 125 49 = 153 := h.2.2 125 49 (by decide)
def isD (d : Nat) : Prop := d = 4 ∨ d = 56 ∨ d = 61 ∨ d = 66 ∨ d = 71 ∨ d = 76 ∨ d = 81 ∨ d = 86 ∨ d = 91 ∨ d = 96 ∨ d = 101 ∨ d = 106
def isG (g : Nat) : Prop := g = 8 ∨ g = 12 ∨ g = 110 ∨ g = 114
def isP (p : Nat) : Prop := p = 51 ∨ p = 59 ∨ p = 64 ∨ p = 69 ∨ p = 74 ∨ p = 79 ∨ p = 84 ∨ p = 89 ∨ p = 94 ∨ p = 99 ∨ p = 104 ∨ p = 122
def isM (m dr : Nat) : Prop := (m = 7 ∧ dr = 4) ∨ (m = 109 ∧ dr = 106)
theorem kD (h : SHP S) {d : Nat} (hx : isD d) : S.2.1 d = (10, 0) := by
  rcases hx with rfl | rfl | rfl | rfl | rfl | rfl | rfl | rfl | rfl | rfl | rfl | rfl
  · exact k_4 h
  · exact k_56 h
  · exact k_61 h
  · exact k_66 h
  · exact k_71 h
  · exact k_76 h
  · exact k_81 h
  · exact k_86 h
  · exact k_91 h
  · exact k_96 h
  · exact k_101 h
  · exact k_106 h
theorem kD1 (h : SHP S) {d : Nat} (hx : isD d) : S.2.1 (d + 1) = (1, 48) := by
  rcases hx with rfl | rfl | rfl | rfl | rfl | rfl | rfl | rfl | rfl | rfl | rfl | rfl
  · exact k_5 h
  · exact k_57 h
  · exact k_62 h
  · exact k_67 h
  · exact k_72 h
  · exact k_77 h
  · exact k_82 h
  · exact k_87 h
  · exact k_92 h
  · exact k_97 h
  · exact k_102 h
  · exact k_107 h
theorem fD1 (h : SHP S) {d : Nat} (hx : isD d) : S.2.2 d 0 = d + 1 := by
  rcases hx with rfl | rfl | rfl | rfl | rfl | rfl | rfl | rfl | rfl | rfl | rfl | rfl
  · exact f_4_0 h
  · exact f_56_0 h
  · exact f_61_0 h
  · exact f_66_0 h
  · exact f_71_0 h
  · exact f_76_0 h
  · exact f_81_0 h
  · exact f_86_0 h
  · exact f_91_0 h
  · exact f_96_0 h
  · exact f_101_0 h
  · exact f_106_0 h
theorem kD2 (h : SHP S) {d : Nat} (hx : isD d) : S.2.1 (d + 2) = (1, 48) := by
  rcases hx with rfl | rfl | rfl | rfl | rfl | rfl | rfl | rfl | rfl | rfl | rfl | rfl
  · exact k_6 h
  · exact k_58 h
  · exact k_63 h
  · exact k_68 h
  · exact k_73 h
  · exact k_78 h
  · exact k_83 h
  · exact k_88 h
  · exact k_93 h
  · exact k_98 h
  · exact k_103 h
  · exact k_108 h
theorem fD2 (h : SHP S) {d : Nat} (hx : isD d) : S.2.2 d 1 = d + 2 := by
  rcases hx with rfl | rfl | rfl | rfl | rfl | rfl | rfl | rfl | rfl | rfl | rfl | rfl
  · exact f_4_1 h
  · exact f_56_1 h
  · exact f_61_1 h
  · exact f_66_1 h
  · exact f_71_1 h
  · exact f_76_1 h
  · exact f_81_1 h
  · exact f_86_1 h
  · exact f_91_1 h
  · exact f_96_1 h
  · exact f_101_1 h
  · exact f_106_1 h
theorem kG (h : SHP S) {g : Nat} (hx : isG g) : S.2.1 g = (11, 0) := by
  rcases hx with rfl | rfl | rfl | rfl
  · exact k_8 h
  · exact k_12 h
  · exact k_110 h
  · exact k_114 h
theorem kG1 (h : SHP S) {g : Nat} (hx : isG g) : S.2.1 (g + 1) = (1, 48) := by
  rcases hx with rfl | rfl | rfl | rfl
  · exact k_9 h
  · exact k_13 h
  · exact k_111 h
  · exact k_115 h
theorem fG1 (h : SHP S) {g : Nat} (hx : isG g) : S.2.2 g 0 = g + 1 := by
  rcases hx with rfl | rfl | rfl | rfl
  · exact f_8_0 h
  · exact f_12_0 h
  · exact f_110_0 h
  · exact f_114_0 h
theorem kG2 (h : SHP S) {g : Nat} (hx : isG g) : S.2.1 (g + 2) = (1, 48) := by
  rcases hx with rfl | rfl | rfl | rfl
  · exact k_10 h
  · exact k_14 h
  · exact k_112 h
  · exact k_116 h
theorem fG2 (h : SHP S) {g : Nat} (hx : isG g) : S.2.2 g 1 = g + 2 := by
  rcases hx with rfl | rfl | rfl | rfl
  · exact f_8_1 h
  · exact f_12_1 h
  · exact f_110_1 h
  · exact f_114_1 h
theorem kG3 (h : SHP S) {g : Nat} (hx : isG g) : S.2.1 (g + 3) = (1, 48) := by
  rcases hx with rfl | rfl | rfl | rfl
  · exact k_11 h
  · exact k_15 h
  · exact k_113 h
  · exact k_117 h
theorem fG3 (h : SHP S) {g : Nat} (hx : isG g) : S.2.2 g 3 = g + 3 := by
  rcases hx with rfl | rfl | rfl | rfl
  · exact f_8_3 h
  · exact f_12_3 h
  · exact f_110_3 h
  · exact f_114_3 h
theorem kP (h : SHP S) {p : Nat} (hx : isP p) : S.2.1 p = (15, 0) := by
  rcases hx with rfl | rfl | rfl | rfl | rfl | rfl | rfl | rfl | rfl | rfl | rfl | rfl
  · exact k_51 h
  · exact k_59 h
  · exact k_64 h
  · exact k_69 h
  · exact k_74 h
  · exact k_79 h
  · exact k_84 h
  · exact k_89 h
  · exact k_94 h
  · exact k_99 h
  · exact k_104 h
  · exact k_122 h
theorem kP1 (h : SHP S) {p : Nat} (hx : isP p) : S.2.1 (p + 1) = (1, 24) := by
  rcases hx with rfl | rfl | rfl | rfl | rfl | rfl | rfl | rfl | rfl | rfl | rfl | rfl
  · exact k_52 h
  · exact k_60 h
  · exact k_65 h
  · exact k_70 h
  · exact k_75 h
  · exact k_80 h
  · exact k_85 h
  · exact k_90 h
  · exact k_95 h
  · exact k_100 h
  · exact k_105 h
  · exact k_123 h
theorem fP0 (h : SHP S) {p : Nat} (hx : isP p) : S.2.2 p 0 = 4 := by
  rcases hx with rfl | rfl | rfl | rfl | rfl | rfl | rfl | rfl | rfl | rfl | rfl | rfl
  · exact f_51_0 h
  · exact f_59_0 h
  · exact f_64_0 h
  · exact f_69_0 h
  · exact f_74_0 h
  · exact f_79_0 h
  · exact f_84_0 h
  · exact f_89_0 h
  · exact f_94_0 h
  · exact f_99_0 h
  · exact f_104_0 h
  · exact f_122_0 h
theorem fP1 (h : SHP S) {p : Nat} (hx : isP p) : S.2.2 p 1 = 7 := by
  rcases hx with rfl | rfl | rfl | rfl | rfl | rfl | rfl | rfl | rfl | rfl | rfl | rfl
  · exact f_51_1 h
  · exact f_59_1 h
  · exact f_64_1 h
  · exact f_69_1 h
  · exact f_74_1 h
  · exact f_79_1 h
  · exact f_84_1 h
  · exact f_89_1 h
  · exact f_94_1 h
  · exact f_99_1 h
  · exact f_104_1 h
  · exact f_122_1 h
theorem fP2 (h : SHP S) {p : Nat} (hx : isP p) : S.2.2 p 2 = 40 := by
  rcases hx with rfl | rfl | rfl | rfl | rfl | rfl | rfl | rfl | rfl | rfl | rfl | rfl
  · exact f_51_2 h
  · exact f_59_2 h
  · exact f_64_2 h
  · exact f_69_2 h
  · exact f_74_2 h
  · exact f_79_2 h
  · exact f_84_2 h
  · exact f_89_2 h
  · exact f_94_2 h
  · exact f_99_2 h
  · exact f_104_2 h
  · exact f_122_2 h
theorem fP3 (h : SHP S) {p : Nat} (hx : isP p) : S.2.2 p 3 = p + 1 := by
  rcases hx with rfl | rfl | rfl | rfl | rfl | rfl | rfl | rfl | rfl | rfl | rfl | rfl
  · exact f_51_3 h
  · exact f_59_3 h
  · exact f_64_3 h
  · exact f_69_3 h
  · exact f_74_3 h
  · exact f_79_3 h
  · exact f_84_3 h
  · exact f_89_3 h
  · exact f_94_3 h
  · exact f_99_3 h
  · exact f_104_3 h
  · exact f_122_3 h
theorem kM (h : SHP S) {m dr : Nat} (hx : isM m dr) : S.2.1 m = (13, 0) := by
  rcases hx with ⟨rfl, rfl⟩ | ⟨rfl, rfl⟩
  · exact k_7 h
  · exact k_109 h
theorem kM9 (h : SHP S) {m dr : Nat} (hx : isM m dr) : S.2.1 (m + 9) = (1, 48) := by
  rcases hx with ⟨rfl, rfl⟩ | ⟨rfl, rfl⟩
  · exact k_16 h
  · exact k_118 h
theorem kM10 (h : SHP S) {m dr : Nat} (hx : isM m dr) : S.2.1 (m + 10) = (1, 48) := by
  rcases hx with ⟨rfl, rfl⟩ | ⟨rfl, rfl⟩
  · exact k_17 h
  · exact k_119 h
theorem kM11 (h : SHP S) {m dr : Nat} (hx : isM m dr) : S.2.1 (m + 11) = (1, 48) := by
  rcases hx with ⟨rfl, rfl⟩ | ⟨rfl, rfl⟩
  · exact k_18 h
  · exact k_120 h
theorem kM12 (h : SHP S) {m dr : Nat} (hx : isM m dr) : S.2.1 (m + 12) = (1, 48) := by
  rcases hx with ⟨rfl, rfl⟩ | ⟨rfl, rfl⟩
  · exact k_19 h
  · exact k_121 h
theorem fM0 (h : SHP S) {m dr : Nat} (hx : isM m dr) : S.2.2 m 0 = dr := by
  rcases hx with ⟨rfl, rfl⟩ | ⟨rfl, rfl⟩
  · exact f_7_0 h
  · exact f_109_0 h
theorem fM1 (h : SHP S) {m dr : Nat} (hx : isM m dr) : S.2.2 m 1 = m + 1 := by
  rcases hx with ⟨rfl, rfl⟩ | ⟨rfl, rfl⟩
  · exact f_7_1 h
  · exact f_109_1 h
theorem fM2 (h : SHP S) {m dr : Nat} (hx : isM m dr) : S.2.2 m 2 = m + 5 := by
  rcases hx with ⟨rfl, rfl⟩ | ⟨rfl, rfl⟩
  · exact f_7_2 h
  · exact f_109_2 h
theorem fM3 (h : SHP S) {m dr : Nat} (hx : isM m dr) : S.2.2 m 3 = m + 9 := by
  rcases hx with ⟨rfl, rfl⟩ | ⟨rfl, rfl⟩
  · exact f_7_3 h
  · exact f_109_3 h
theorem fM4 (h : SHP S) {m dr : Nat} (hx : isM m dr) : S.2.2 m 4 = m + 10 := by
  rcases hx with ⟨rfl, rfl⟩ | ⟨rfl, rfl⟩
  · exact f_7_4 h
  · exact f_109_4 h
theorem fM5 (h : SHP S) {m dr : Nat} (hx : isM m dr) : S.2.2 m 5 = m + 11 := by
  rcases hx with ⟨rfl, rfl⟩ | ⟨rfl, rfl⟩
  · exact f_7_5 h
  · exact f_109_5 h
theorem fM6 (h : SHP S) {m dr : Nat} (hx : isM m dr) : S.2.2 m 6 = m + 12 := by
  rcases hx with ⟨rfl, rfl⟩ | ⟨rfl, rfl⟩
  · exact f_7_6 h
  · exact f_109_6 h
theorem isM_D {m dr : Nat} (hx : isM m dr) : isD dr := by
  rcases hx with ⟨-, rfl⟩ | ⟨-, rfl⟩ <;> (first | (unfold isD; decide) | (unfold isG; decide) | decide)
theorem isM_E {m dr : Nat} (hx : isM m dr) : isG (m + 1) := by
  rcases hx with ⟨rfl, -⟩ | ⟨rfl, -⟩ <;> (first | (unfold isD; decide) | (unfold isG; decide) | decide)
theorem isM_K {m dr : Nat} (hx : isM m dr) : isG (m + 5) := by
  rcases hx with ⟨rfl, -⟩ | ⟨rfl, -⟩ <;> (first | (unfold isD; decide) | (unfold isG; decide) | decide)
theorem isM_0 {m dr : Nat} (hx : isM m dr) : dr ≠ 0 := by
  rcases hx with ⟨-, rfl⟩ | ⟨-, rfl⟩ <;> (first | (unfold isD; decide) | (unfold isG; decide) | decide)
theorem isM_lt {m dr : Nat} (hx : isM m dr) : dr + 2 < m := by
  rcases hx with ⟨rfl, rfl⟩ | ⟨rfl, rfl⟩ <;> (first | (unfold isD; decide) | (unfold isG; decide) | decide)
theorem isM_a : isM 7 4 := Or.inl ⟨rfl, rfl⟩
theorem isM_b : isM 109 106 := Or.inr ⟨rfl, rfl⟩
theorem el_54 (h : SHP S) {i : Int} (h0 : 0 ≤ i) (h1 : i < 10) : S.2.2 54 i.toNat = 56 + 5 * i.toNat := by
  rw [h.2.2 54 _ (by decide)]
  obtain ⟨n, hn⟩ : ∃ n : Nat, i.toNat = n := ⟨_, rfl⟩
  have : n < 10 := by omega
  rw [hn]
  revert n
  have key : ∀ n : Nat, n < 10 → (RFt.getD 54 []).getD n 0 = 56 + 5 * n := by decide +kernel
  intro n _ hn
  exact key n hn
theorem is_54 {i : Int} (h0 : 0 ≤ i) (h1 : i < 10) : isD (56 + 5 * i.toNat) := by
  have key : ∀ n : Nat, n < 10 → isD (56 + 5 * n) := by unfold isD; decide +kernel
  exact key i.toNat (by omega)
theorem el_55 (h : SHP S) {i : Int} (h0 : 0 ≤ i) (h1 : i < 10) : S.2.2 55 i.toNat = 59 + 5 * i.toNat := by
  rw [h.2.2 55 _ (by decide)]
  obtain ⟨n, hn⟩ : ∃ n : Nat, i.toNat = n := ⟨_, rfl⟩
  have : n < 10 := by omega
  rw [hn]
  revert n
  have key : ∀ n : Nat, n < 10 → (RFt.getD 55 []).getD n 0 = 59 + 5 * n := by decide +kernel
  intro n _ hn
  exact key n hn
theorem is_55 {i : Int} (h0 : 0 ≤ i) (h1 : i < 10) : isP (59 + 5 * i.toNat) := by
  have key : ∀ n : Nat, n < 10 → isP (59 + 5 * n) := by unfold isP; decide +kernel
  exact key i.toNat (by omega)
end SHAPE
