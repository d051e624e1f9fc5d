theorem sX_refuse1 (d : Nat) (s : zS) : zcall zMs skX (d + 1) 117 [.inr (.inr 0), .inl (-1)] s = some (some (.inl (-1)), zs s 44 1 (zg s 44 1 + 1)) := sX_refuse d 1 s (by decide) (by decide)
theorem sM_no1 (d : Nat) (s : zS) : zcall zMs skM (d + 1) 126 [.inr (.inr 0), .inl (-1)] s = some (some (.inl (-1)), zs s 15 1 (zg s 15 1 + 1)) := sM_no d 1 s (by decide) (by decide)
theorem sX_ten1 (d : Nat) (s : zS) : zcall zMs skX (d + 2) 118 [.inr (.inr 0), .inl (-1)] s = some (some (.inl (-1 - 10)), zs s 44 1 (zg s 44 1 + 1)) := sX_refuseByTen d 1 s (by decide) (by decide)
theorem sM_ten1 (d : Nat) (s : zS) : zcall zMs skM (d + 2) 127 [.inr (.inr 0), .inl (-1)] s = some (some (.inl (-1 - 10)), zs s 15 1 (zg s 15 1 + 1)) := sM_no10 d 1 s (by decide) (by decide)
theorem sX_refuse2 (d : Nat) (s : zS) : zcall zMs skX (d + 1) 117 [.inr (.inr 0), .inl (-2)] s = some (some (.inl (-2)), zs s 44 2 (zg s 44 2 + 1)) := sX_refuse d 2 s (by decide) (by decide)
theorem sM_no2 (d : Nat) (s : zS) : zcall zMs skM (d + 1) 126 [.inr (.inr 0), .inl (-2)] s = some (some (.inl (-2)), zs s 15 2 (zg s 15 2 + 1)) := sM_no d 2 s (by decide) (by decide)
theorem sX_ten2 (d : Nat) (s : zS) : zcall zMs skX (d + 2) 118 [.inr (.inr 0), .inl (-2)] s = some (some (.inl (-2 - 10)), zs s 44 2 (zg s 44 2 + 1)) := sX_refuseByTen d 2 s (by decide) (by decide)
theorem sM_ten2 (d : Nat) (s : zS) : zcall zMs skM (d + 2) 127 [.inr (.inr 0), .inl (-2)] s = some (some (.inl (-2 - 10)), zs s 15 2 (zg s 15 2 + 1)) := sM_no10 d 2 s (by decide) (by decide)
theorem sX_refuse3 (d : Nat) (s : zS) : zcall zMs skX (d + 1) 117 [.inr (.inr 0), .inl (-3)] s = some (some (.inl (-3)), zs s 44 3 (zg s 44 3 + 1)) := sX_refuse d 3 s (by decide) (by decide)
theorem sM_no3 (d : Nat) (s : zS) : zcall zMs skM (d + 1) 126 [.inr (.inr 0), .inl (-3)] s = some (some (.inl (-3)), zs s 15 3 (zg s 15 3 + 1)) := sM_no d 3 s (by decide) (by decide)
theorem sX_ten3 (d : Nat) (s : zS) : zcall zMs skX (d + 2) 118 [.inr (.inr 0), .inl (-3)] s = some (some (.inl (-3 - 10)), zs s 44 3 (zg s 44 3 + 1)) := sX_refuseByTen d 3 s (by decide) (by decide)
theorem sM_ten3 (d : Nat) (s : zS) : zcall zMs skM (d + 2) 127 [.inr (.inr 0), .inl (-3)] s = some (some (.inl (-3 - 10)), zs s 15 3 (zg s 15 3 + 1)) := sM_no10 d 3 s (by decide) (by decide)
theorem sX_refuse4 (d : Nat) (s : zS) : zcall zMs skX (d + 1) 117 [.inr (.inr 0), .inl (-4)] s = some (some (.inl (-4)), zs s 44 4 (zg s 44 4 + 1)) := sX_refuse d 4 s (by decide) (by decide)
theorem sM_no4 (d : Nat) (s : zS) : zcall zMs skM (d + 1) 126 [.inr (.inr 0), .inl (-4)] s = some (some (.inl (-4)), zs s 15 4 (zg s 15 4 + 1)) := sM_no d 4 s (by decide) (by decide)
theorem sX_ten4 (d : Nat) (s : zS) : zcall zMs skX (d + 2) 118 [.inr (.inr 0), .inl (-4)] s = some (some (.inl (-4 - 10)), zs s 44 4 (zg s 44 4 + 1)) := sX_refuseByTen d 4 s (by decide) (by decide)
theorem sM_ten4 (d : Nat) (s : zS) : zcall zMs skM (d + 2) 127 [.inr (.inr 0), .inl (-4)] s = some (some (.inl (-4 - 10)), zs s 15 4 (zg s 15 4 + 1)) := sM_no10 d 4 s (by decide) (by decide)
theorem sX_refuse5 (d : Nat) (s : zS) : zcall zMs skX (d + 1) 117 [.inr (.inr 0), .inl (-5)] s = some (some (.inl (-5)), zs s 44 5 (zg s 44 5 + 1)) := sX_refuse d 5 s (by decide) (by decide)
theorem sM_no5 (d : Nat) (s : zS) : zcall zMs skM (d + 1) 126 [.inr (.inr 0), .inl (-5)] s = some (some (.inl (-5)), zs s 15 5 (zg s 15 5 + 1)) := sM_no d 5 s (by decide) (by decide)
theorem sX_ten5 (d : Nat) (s : zS) : zcall zMs skX (d + 2) 118 [.inr (.inr 0), .inl (-5)] s = some (some (.inl (-5 - 10)), zs s 44 5 (zg s 44 5 + 1)) := sX_refuseByTen d 5 s (by decide) (by decide)
theorem sM_ten5 (d : Nat) (s : zS) : zcall zMs skM (d + 2) 127 [.inr (.inr 0), .inl (-5)] s = some (some (.inl (-5 - 10)), zs s 15 5 (zg s 15 5 + 1)) := sM_no10 d 5 s (by decide) (by decide)
theorem sX_refuse6 (d : Nat) (s : zS) : zcall zMs skX (d + 1) 117 [.inr (.inr 0), .inl (-6)] s = some (some (.inl (-6)), zs s 44 6 (zg s 44 6 + 1)) := sX_refuse d 6 s (by decide) (by decide)
theorem sM_no6 (d : Nat) (s : zS) : zcall zMs skM (d + 1) 126 [.inr (.inr 0), .inl (-6)] s = some (some (.inl (-6)), zs s 15 6 (zg s 15 6 + 1)) := sM_no d 6 s (by decide) (by decide)
theorem sX_ten6 (d : Nat) (s : zS) : zcall zMs skX (d + 2) 118 [.inr (.inr 0), .inl (-6)] s = some (some (.inl (-6 - 10)), zs s 44 6 (zg s 44 6 + 1)) := sX_refuseByTen d 6 s (by decide) (by decide)
theorem sM_ten6 (d : Nat) (s : zS) : zcall zMs skM (d + 2) 127 [.inr (.inr 0), .inl (-6)] s = some (some (.inl (-6 - 10)), zs s 15 6 (zg s 15 6 + 1)) := sM_no10 d 6 s (by decide) (by decide)
theorem sX_refuse7 (d : Nat) (s : zS) : zcall zMs skX (d + 1) 117 [.inr (.inr 0), .inl (-7)] s = some (some (.inl (-7)), zs s 44 7 (zg s 44 7 + 1)) := sX_refuse d 7 s (by decide) (by decide)
theorem sM_no7 (d : Nat) (s : zS) : zcall zMs skM (d + 1) 126 [.inr (.inr 0), .inl (-7)] s = some (some (.inl (-7)), zs s 15 7 (zg s 15 7 + 1)) := sM_no d 7 s (by decide) (by decide)
theorem sX_ten7 (d : Nat) (s : zS) : zcall zMs skX (d + 2) 118 [.inr (.inr 0), .inl (-7)] s = some (some (.inl (-7 - 10)), zs s 44 7 (zg s 44 7 + 1)) := sX_refuseByTen d 7 s (by decide) (by decide)
theorem sM_ten7 (d : Nat) (s : zS) : zcall zMs skM (d + 2) 127 [.inr (.inr 0), .inl (-7)] s = some (some (.inl (-7 - 10)), zs s 15 7 (zg s 15 7 + 1)) := sM_no10 d 7 s (by decide) (by decide)
theorem mFl_has (t : zS) (o : Nat) (h : o < 16) : mFl t o = zg t 6 o := by unfold mFl; rw [if_pos (show o < 16 by omega)]
theorem mFl_met (t : zS) (o : Nat) (h : o < 16) : mFl t (16 + o) = zg t 7 o := by unfold mFl; rw [if_neg (show ¬ (16 + o) < 16 by omega), if_pos (show (16 + o) < 32 by omega), Nat.add_sub_cancel_left]
theorem mFl_fun (t : zS) (o : Nat) (h : o < 256) : mFl t (32 + o) = zg t 8 o := by unfold mFl; rw [if_neg (show ¬ (32 + o) < 16 by omega), if_neg (show ¬ (32 + o) < 32 by omega), if_pos (show (32 + o) < 288 by omega), Nat.add_sub_cancel_left]
theorem mFl_num (t : zS) (o : Nat) (h : o < 256) : mFl t (288 + o) = zg t 9 o := by unfold mFl; rw [if_neg (show ¬ (288 + o) < 16 by omega), if_neg (show ¬ (288 + o) < 32 by omega), if_neg (show ¬ (288 + o) < 288 by omega), if_pos (show (288 + o) < 544 by omega), Nat.add_sub_cancel_left]
theorem mFl_kind (t : zS) (o : Nat) (h : o < 16) : mFl t (544 + o) = zg t 1 o := by unfold mFl; rw [if_neg (show ¬ (544 + o) < 16 by omega), if_neg (show ¬ (544 + o) < 32 by omega), if_neg (show ¬ (544 + o) < 288 by omega), if_neg (show ¬ (544 + o) < 544 by omega), if_pos (show (544 + o) < 560 by omega), Nat.add_sub_cancel_left]
theorem mFl_pars (t : zS) (o : Nat) (h : o < 16) : mFl t (560 + o) = zg t 2 o := by unfold mFl; rw [if_neg (show ¬ (560 + o) < 16 by omega), if_neg (show ¬ (560 + o) < 32 by omega), if_neg (show ¬ (560 + o) < 288 by omega), if_neg (show ¬ (560 + o) < 544 by omega), if_neg (show ¬ (560 + o) < 560 by omega), if_pos (show (560 + o) < 576 by omega), Nat.add_sub_cancel_left]
theorem mFl_ordd (t : zS) (o : Nat) (h : o < 16) : mFl t (576 + o) = zg t 4 o := by unfold mFl; rw [if_neg (show ¬ (576 + o) < 16 by omega), if_neg (show ¬ (576 + o) < 32 by omega), if_neg (show ¬ (576 + o) < 288 by omega), if_neg (show ¬ (576 + o) < 544 by omega), if_neg (show ¬ (576 + o) < 560 by omega), if_neg (show ¬ (576 + o) < 576 by omega), if_pos (show (576 + o) < 592 by omega), Nat.add_sub_cancel_left]
theorem mFl_par (t : zS) (o : Nat) (h : o < 48) : mFl t (592 + o) = zg t 3 o := by unfold mFl; rw [if_neg (show ¬ (592 + o) < 16 by omega), if_neg (show ¬ (592 + o) < 32 by omega), if_neg (show ¬ (592 + o) < 288 by omega), if_neg (show ¬ (592 + o) < 544 by omega), if_neg (show ¬ (592 + o) < 560 by omega), if_neg (show ¬ (592 + o) < 576 by omega), if_neg (show ¬ (592 + o) < 592 by omega), if_pos (show (592 + o) < 640 by omega), Nat.add_sub_cancel_left]
theorem mFl_ord (t : zS) (o : Nat) (h : o < 256) : mFl t (640 + o) = zg t 5 o := by unfold mFl; rw [if_neg (show ¬ (640 + o) < 16 by omega), if_neg (show ¬ (640 + o) < 32 by omega), if_neg (show ¬ (640 + o) < 288 by omega), if_neg (show ¬ (640 + o) < 544 by omega), if_neg (show ¬ (640 + o) < 560 by omega), if_neg (show ¬ (640 + o) < 576 by omega), if_neg (show ¬ (640 + o) < 592 by omega), if_neg (show ¬ (640 + o) < 640 by omega), if_pos (show (640 + o) < 896 by omega), Nat.add_sub_cancel_left]
theorem mFl_way (t : zS) (o : Nat) (h : o < 192) : mFl t (896 + o) = zg t 10 o := by unfold mFl; rw [if_neg (show ¬ (896 + o) < 16 by omega), if_neg (show ¬ (896 + o) < 32 by omega), if_neg (show ¬ (896 + o) < 288 by omega), if_neg (show ¬ (896 + o) < 544 by omega), if_neg (show ¬ (896 + o) < 560 by omega), if_neg (show ¬ (896 + o) < 576 by omega), if_neg (show ¬ (896 + o) < 592 by omega), if_neg (show ¬ (896 + o) < 640 by omega), if_neg (show ¬ (896 + o) < 896 by omega), if_pos (show (896 + o) < 1088 by omega), Nat.add_sub_cancel_left]
theorem nlit16 (o i : Nat) : nI o * (16 : Int32) + nI i = nI (o * 16 + i) := by
  rw [show (16 : Int32) = nI 16 from rfl, pk_mul, nI_add]
theorem nlit16' (o i : Nat) : (16 : Int32) * nI o + nI i = nI (16 * o + i) := by
  rw [show (16 : Int32) = nI 16 from rfl, pk_mul, nI_add]
theorem nlit6 (o i : Nat) : nI o * (6 : Int32) + nI i = nI (o * 6 + i) := by
  rw [show (6 : Int32) = nI 6 from rfl, pk_mul, nI_add]
theorem nlit160 (o i : Nat) : nI o * (160 : Int32) + nI i = nI (o * 160 + i) := by
  rw [show (160 : Int32) = nI 160 from rfl, pk_mul, nI_add]
theorem nlit160' (o i : Nat) : (160 : Int32) * nI o + nI i = nI (160 * o + i) := by
  rw [show (160 : Int32) = nI 160 from rfl, pk_mul, nI_add]
/-- the first place from i on at which q holds, or -1 -/
def aFst (q : Nat → Bool) : List Nat → Nat → Int32
  | [], _ => -1
  | x :: xs, i => if q x = true then nI i else aFst q xs (i + 1)
theorem aWf_lt {W : aW} (h : aWf W) {o : Nat} (ho : o < aN W) : o < 16 := Nat.lt_of_lt_of_le ho h.1
theorem aWf_len {W : aW} (h : aWf W) {o : Nat} (ho : o < aN W) : (aO W o).length ≤ 16 := (h.2.2.1 o ho).2.2.2.2.1
theorem aWf_mem {W : aW} (h : aWf W) {o p : Nat} (ho : o < aN W) (hp : p ∈ aO W o) : p < aN W := (h.2.2.1 o ho).2.2.2.2.2.1 p hp
theorem aX_ord {s : zS} {W : aW} (hX : aX 2 s W) {o i p : Nat} (ho : o < aN W) (hp : (aO W o)[i]? = some p) : zg s 7 (o * 16 + i) = nI p := (hX.2.2.2.1 o ho).2.2.2.2 i p hp
theorem aX_osz {s : zS} {W : aW} (hX : aX 2 s W) {o : Nat} (ho : o < aN W) : zg s 6 o = nI (aO W o).length := (hX.2.2.2.1 o ho).2.2.2.1
theorem aM_ord {t : zS} {W : aW} (hf : aWf W) (hM : aM (mFl t) W) {o i p : Nat} (ho : o < aN W) (hp : (aO W o)[i]? = some p) : zg t 5 (16 * o + i) = nI p := by
  have h1 := aWf_lt hf ho
  have h2 := (List.getElem?_eq_some_iff.mp hp).1
  have h3 := aWf_len hf ho
  rw [← mFl_ord t (16 * o + i) (by omega)]
  exact (hM.2.2.2.1 o ho).2.2.2.2 i p hp
theorem aM_osz {t : zS} {W : aW} (hf : aWf W) (hM : aM (mFl t) W) {o : Nat} (ho : o < aN W) : zg t 4 o = nI (aO W o).length := by
  rw [← mFl_ordd t o (aWf_lt hf ho)]
  exact (hM.2.2.2.1 o ho).2.2.2.1
theorem aM_n {t : zS} {W : aW} (hM : aM (mFl t) W) : zg t 0 0 = nI (aN W) := hM.1
theorem sX_orderAt (d o i : Nat) (s : zS) (ho : o < 16) (hi : i < 16) : zcall zMs skX (d + 1) 64 [.inr (.inr 2), .inl (nI o), .inl (nI i)] s = some (some (.inl (zg s 7 (o * 16 + i))), s) := by
  rw [aX_W_orderAt]
  unfold bX_W_orderAt_0
  rw [nlit16, zin_nI (by omega) (by omega), nI_clamp (by omega)]
theorem nI_inj16 {a b : Nat} (ha : a < 16) (hb : b < 16) : (nI a = nI b) ↔ a = b := nI_eq (by omega) (by omega)
theorem sX_dist_loop {W : aW} (d o p : Nat) (s : zS) (hf : aWf W) (hX : aX 2 s W) (ho : o < aN W) (hp : p < 16) : ∀ (f n j : Nat), j + f = (aO W o).length → f < n → zexec skX (zcall zMs skX (d + 1)) zT_W_distanceTo 1 n 2 [some (.inr (.inr 2)), some (.inl (nI o)), some (.inl (nI p)), some (.inl (nI j))] [] s = some (some (.inl (aFst (fun x => decide (x = p)) ((aO W o).drop j) j)), s) := by
  have h16 := aWf_lt hf ho
  have hlen := aWf_len hf ho
  intro f
  induction f with
  | zero =>
    intro n j hj hn
    obtain ⟨n, rfl⟩ : ∃ n', n = n' + 1 := ⟨n - 1, by omega⟩
    rw [hX_W_distanceTo_2]
    unfold bX_W_distanceTo_2
    rw [zin_nI h16 (by omega), nI_clamp (by omega), aX_osz hX ho, if_pos (nI_le (by omega) (by omega)), List.drop_eq_nil_of_le (by omega)]
    rfl
  | succ f ih =>
    intro n j hj hn
    obtain ⟨n, rfl⟩ : ∃ n', n = n' + 1 := ⟨n - 1, by omega⟩
    have hjl : j < (aO W o).length := by omega
    have hg : (aO W o)[j]? = some (aO W o)[j] := List.getElem?_eq_getElem hjl
    have hm := aWf_lt hf (aWf_mem hf ho (List.getElem_mem hjl))
    rw [hX_W_distanceTo_2]
    unfold bX_W_distanceTo_2
    rw [zin_nI h16 (by omega), nI_clamp (by omega), aX_osz hX ho, if_neg (nI_ge hjl (by omega)), sX_orderAt d o j s h16 (by omega), zcI_some, aX_ord hX ho hg, List.drop_eq_getElem_cons hjl]
    unfold aFst
    by_cases he : (aO W o)[j] = p
    · rw [if_neg (by rw [he]; exact fun h => h rfl), if_pos (by simp [he])]
    · rw [if_pos (by rw [nI_inj16 hm hp]; exact he), if_neg (by simp [he]), nI_1]
      exact ih n (j + 1) (by omega) (by omega)
theorem sX_distanceTo {W : aW} (d o p : Nat) (s : zS) (hf : aWf W) (hX : aX 2 s W) (ho : o < aN W) (hp : p < 16) : zcall zMs skX (d + 2) 67 [.inr (.inr 2), .inl (nI o), .inl (nI p)] s = some (some (.inl (aFst (fun x => decide (x = p)) (aO W o) 0)), s) := by
  rw [aX_W_distanceTo]
  unfold bX_W_distanceTo_0
  exact sX_dist_loop d o p s hf hX ho hp (aO W o).length 19999 0 (by omega) (by have := aWf_len hf ho; omega)
theorem sM_place_loop {W : aW} (C : Nat → List zV → zS → zR) (o p : Nat) (t : zS) (hf : aWf W) (hM : aM (mFl t) W) (ho : o < aN W) (hp : p < 16) : ∀ (f n j : Nat), j + f = (aO W o).length → f < n → zexec skM C zT_M_place 1 n 2 [some (.inr (.inr 0)), some (.inl (nI o)), some (.inl (nI p)), some (.inl (nI j))] [] t = some (some (.inl (aFst (fun x => decide (x = p)) ((aO W o).drop j) j)), t) := by
  have h16 := aWf_lt hf ho
  have hlen := aWf_len hf ho
  intro f
  induction f with
  | zero =>
    intro n j hj hn
    obtain ⟨n, rfl⟩ : ∃ n', n = n' + 1 := ⟨n - 1, by omega⟩
    rw [hM_M_place_2]
    unfold bM_M_place_2
    rw [zin_nI h16 (by omega), nI_clamp (by omega), aM_osz hf hM ho, if_pos (nI_le (by omega) (by omega)), List.drop_eq_nil_of_le (by omega)]
    rfl
  | succ f ih =>
    intro n j hj hn
    obtain ⟨n, rfl⟩ : ∃ n', n = n' + 1 := ⟨n - 1, by omega⟩
    have hjl : j < (aO W o).length := by omega
    have hg : (aO W o)[j]? = some (aO W o)[j] := List.getElem?_eq_getElem hjl
    have hm := aWf_lt hf (aWf_mem hf ho (List.getElem_mem hjl))
    rw [hM_M_place_2]
    unfold bM_M_place_2
    rw [zin_nI h16 (by omega), nI_clamp (by omega), aM_osz hf hM ho, if_neg (nI_ge hjl (by omega)), nlit16', zin_nI (by omega) (by omega), nI_clamp (by omega), aM_ord hf hM ho hg, List.drop_eq_getElem_cons hjl]
    unfold aFst
    by_cases he : (aO W o)[j] = p
    · rw [if_neg (by rw [he]; exact fun h => h rfl), if_pos (by simp [he])]
    · rw [if_pos (by rw [nI_inj16 hm hp]; exact he), if_neg (by simp [he]), nI_1]
      exact ih n (j + 1) (by omega) (by omega)
theorem sM_place {W : aW} (d o p : Nat) (t : zS) (hf : aWf W) (hM : aM (mFl t) W) (ho : o < aN W) (hp : p < 16) : zcall zMs skM (d + 1) 167 [.inr (.inr 0), .inl (nI o), .inl (nI p)] t = some (some (.inl (aFst (fun x => decide (x = p)) (aO W o) 0)), t) := by
  rw [aM_M_place]
  unfold bM_M_place_0
  exact sM_place_loop (zcall zMs skM d) o p t hf hM ho hp (aO W o).length 19999 0 (by omega) (by have := aWf_len hf ho; omega)
theorem sim_distance (a1 a2 : Int32) : zSim aRel 98 173 [.inl a1, .inl a2] := by
  intro s t h
  obtain ⟨d, hd⟩ := zDp_e
  rw [hd]
  obtain ⟨W, hf, hX, hM, -, -, -⟩ := id h
  rw [aX_X_distance, aM_M_distance]
  unfold bX_X_distance_0 bM_M_distance_0
  rw [sX_hasObject (n := aN W) _ a1 s hX.1 hf.1, sM_isOne (n := aN W) _ a1 t (aM_n hM) hf.1, zcI_some, zcI_some]
  by_cases h1 : zIn a1 (aN W)
  · rw [zBp_t h1, if_neg (by decide), if_neg (by decide), sX_hasObject (n := aN W) _ a2 s hX.1 hf.1, sM_isOne (n := aN W) _ a2 t (aM_n hM) hf.1, zcI_some, zcI_some]
    have hn := hf.1
    by_cases h2 : zIn a2 (aN W)
    · obtain ⟨o, ho, rfl⟩ := zIn_ex h1 (by omega)
      obtain ⟨p, hp, rfl⟩ := zIn_ex h2 (by omega)
      rw [zBp_t h2, if_pos (by decide), if_neg (by decide), sX_distanceTo _ o p s hf hX ho (by omega), sM_place _ o p t hf hM ho (by omega), zcI_some, zcI_some]
      exact ⟨_, s, t, rfl, rfl, h⟩
    · rw [zBp_f h2, if_neg (by decide), if_pos rfl, sX_ten1, sM_ten1, zcI_some, zcI_some]
      exact ⟨_, _, _, rfl, rfl, aRel_refuse 1 h⟩
  · rw [zBp_f h1, if_pos rfl, if_pos rfl, sX_ten1, sM_ten1, zcI_some, zcI_some]
    exact ⟨_, _, _, rfl, rfl, aRel_refuse 1 h⟩
