/-! copy: the call -/
theorem strOk_lt {x : Int32} {m n : Nat} (hx : ¬ x < 0) : ∃ i, i < 2 ^ 31 ∧ x = nI i ∧ ((0 ≤ x.toInt ∧ x.toInt + (n : Int) ≤ (m : Int)) ↔ i + n ≤ m) := by
  obtain ⟨i, hi, rfl⟩ := nI_of hx
  refine ⟨i, hi, rfl, ?_⟩
  rw [nI_toInt hi]
  omega
theorem cmp_gt {i n m : Nat} (hi : i < 2 ^ 31) (hn : n < 2 ^ 31) (hm : m < 2 ^ 31) : (0 < lg_cmp (Int32.toInt64 (nI i) + Int32.toInt64 (nI n)) (Int32.toInt64 (nI m))) ↔ m < i + n := by
  rw [lg_cmp_gt, nI_l hi, nI_l hn, nI_l hm, lN_add, pk_lLT (by omega) (by omega)]
theorem cmp_le {i n m : Nat} (hi : i < 2 ^ 31) (hn : n < 2 ^ 31) (hm : m < 2 ^ 31) : (lg_cmp (Int32.toInt64 (nI i) + Int32.toInt64 (nI n)) (Int32.toInt64 (nI m)) ≤ 0) ↔ i + n ≤ m := by
  rw [lg_cmp_le, nI_l hi, nI_l hn, nI_l hm, lN_add, pk_lLE (by omega) (by omega)]
theorem sim_copy (a1 a2 a3 a4 a5 : Int32) : zSim aRel 84 136 [.inl a1, .inl a2, .inl a3, .inl a4, .inl a5] := by
  intro s t h
  obtain ⟨d, hd⟩ := zDp_8
  rw [hd]
  obtain ⟨W, hf, hX, hM, h4, -, -⟩ := id h
  have hn := hf.1
  by_cases h1 : zIn a1 8
  · by_cases h2 : zIn a2 8
    · obtain ⟨k1, hk1, rfl⟩ := zIn_ex h1 (by omega)
      obtain ⟨k2, hk2, rfl⟩ := zIn_ex h2 (by omega)
      obtain ⟨e1, hp⟩ := aSh_3 hk1 hn h4
      obtain ⟨e2, hq⟩ := aSh_3 hk2 hn h4
      have hneg : (-1 : Int32) < 0 := by decide
      have hneg2 : ¬ (0 : Int32) ≤ -1 := by decide
      rcases hp with ⟨s1, s2, s3⟩ | ⟨o, ho, s1, s2, s3⟩ | ⟨r1, m1, hr1, hm1, s1, s2, s3, s4, s5, s6⟩
      · have s2t : ¬ ¬ zg t 11 k1 < 100 := by rw [e1]; exact s2
        rcases hq with ⟨q1, q2, q3⟩ | ⟨o, ho, q1, q2, q3⟩ | ⟨r2, m2, hr2, hm2, q1, q2, q3, q4, q5, q6⟩
        · have q2t : ¬ ¬ zg t 11 k2 < 100 := by rw [e2]; exact q2
          refine ⟨-3, _, _, ?_, ?_, aRel_refuse 3 h⟩
          · rw [aX_X_copy]
            unfold bX_X_copy_0
            rw [sX_isShelf, zcI_some, zBp_t h1, if_neg o1, sX_isShelf, zcI_some, zBp_t h2, if_pos o1, sX_holdsObject _ k1 s hk1, zcI_some, zBp_f s3, if_neg z0, sX_holdsObject _ k2 s hk2, zcI_some, zBp_f q3, if_neg z0, sX_two _ k1 k2 s hk1 hk2, zcI_some, zBp_f (fun q => s2 q.1), if_pos (show (0 : Int32) = 0 from rfl), sX_holdsRow _ k1 s hk1, zcI_some, zBp_f s2, if_pos (show (0 : Int32) = 0 from rfl), sX_refuse3, zcI_some]
          · rw [aM_M_copy]
            unfold bM_M_copy_0
            rw [sM_in8, zcI_some, zBp_t h1, if_neg o1, sM_in8, zcI_some, zBp_t h2, if_pos o1, zin_nI hk1 (by decide), nI_clamp (show k1 < 2 ^ 31 by omega), e1, s1, if_pos hneg, hM_M_copy_23 _ 19998]
            unfold bM_M_copy_23
            rw [zin_nI hk2 (by decide), nI_clamp (show k2 < 2 ^ 31 by omega), e2, q1, if_pos hneg, hM_M_copy_32 _ 19997]
            unfold bM_M_copy_32
            rw [sM_isRow _ k1 t hk1, zcI_some, zBp_f s2t, if_pos (show (0 : Int32) = 0 from rfl), zin_nI hk1 (by decide), nI_clamp (show k1 < 2 ^ 31 by omega), e1, s1, if_pos hneg, sM_no3, zcI_some]
        · have q2t : ¬ ¬ zg t 11 k2 < 100 := by rw [e2]; exact q2
          refine ⟨-2, _, _, ?_, ?_, aRel_refuse 2 h⟩
          · rw [aX_X_copy]
            unfold bX_X_copy_0
            rw [sX_isShelf, zcI_some, zBp_t h1, if_neg o1, sX_isShelf, zcI_some, zBp_t h2, if_pos o1, sX_holdsObject _ k1 s hk1, zcI_some, zBp_f s3, if_neg z0, sX_holdsObject _ k2 s hk2, zcI_some, zBp_t q3, if_pos o1, sX_refuse2, zcI_some]
          · rw [aM_M_copy]
            unfold bM_M_copy_0
            rw [sM_in8, zcI_some, zBp_t h1, if_neg o1, sM_in8, zcI_some, zBp_t h2, if_pos o1, zin_nI hk1 (by decide), nI_clamp (show k1 < 2 ^ 31 by omega), e1, s1, if_pos hneg, hM_M_copy_23 _ 19998]
            unfold bM_M_copy_23
            rw [zin_nI hk2 (by decide), nI_clamp (show k2 < 2 ^ 31 by omega), e2, q1, if_neg (nI_pos (by omega)), sM_isRow _ k2 t hk2, zcI_some, zBp_f q2t, if_pos (show (0 : Int32) = 0 from rfl), sM_no2, zcI_some]
        · have q2t : ¬ zg t 11 k2 < 100 := by rw [e2]; exact q2
          refine ⟨-3, _, _, ?_, ?_, aRel_refuse 3 h⟩
          · rw [aX_X_copy]
            unfold bX_X_copy_0
            rw [sX_isShelf, zcI_some, zBp_t h1, if_neg o1, sX_isShelf, zcI_some, zBp_t h2, if_pos o1, sX_holdsObject _ k1 s hk1, zcI_some, zBp_f s3, if_neg z0, sX_holdsObject _ k2 s hk2, zcI_some, zBp_f q3, if_neg z0, sX_two _ k1 k2 s hk1 hk2, zcI_some, zBp_f (fun q => s2 q.1), if_pos (show (0 : Int32) = 0 from rfl), sX_holdsRow _ k1 s hk1, zcI_some, zBp_f s2, if_pos (show (0 : Int32) = 0 from rfl), sX_refuse3, zcI_some]
          · rw [aM_M_copy]
            unfold bM_M_copy_0
            rw [sM_in8, zcI_some, zBp_t h1, if_neg o1, sM_in8, zcI_some, zBp_t h2, if_pos o1, zin_nI hk1 (by decide), nI_clamp (show k1 < 2 ^ 31 by omega), e1, s1, if_pos hneg, hM_M_copy_23 _ 19998]
            unfold bM_M_copy_23
            rw [zin_nI hk2 (by decide), nI_clamp (show k2 < 2 ^ 31 by omega), e2, q1, if_neg (nI_pos (by omega)), sM_isRow _ k2 t hk2, zcI_some, zBp_t q2t, if_neg o1, hM_M_copy_32 _ 19997]
            unfold bM_M_copy_32
            rw [sM_isRow _ k1 t hk1, zcI_some, zBp_f s2t, if_pos (show (0 : Int32) = 0 from rfl), zin_nI hk1 (by decide), nI_clamp (show k1 < 2 ^ 31 by omega), e1, s1, if_pos hneg, sM_no3, zcI_some]
      · have s2t : ¬ ¬ zg t 11 k1 < 100 := by rw [e1]; exact s2
        refine ⟨-2, _, _, ?_, ?_, aRel_refuse 2 h⟩
        · rw [aX_X_copy]
          unfold bX_X_copy_0
          rw [sX_isShelf, zcI_some, zBp_t h1, if_neg o1, sX_isShelf, zcI_some, zBp_t h2, if_pos o1, sX_holdsObject _ k1 s hk1, zcI_some, zBp_t s3, if_pos o1, sX_refuse2, zcI_some]
        · rw [aM_M_copy]
          unfold bM_M_copy_0
          rw [sM_in8, zcI_some, zBp_t h1, if_neg o1, sM_in8, zcI_some, zBp_t h2, if_pos o1, zin_nI hk1 (by decide), nI_clamp (show k1 < 2 ^ 31 by omega), e1, s1, if_neg (nI_pos (by omega)), sM_isRow _ k1 t hk1, zcI_some, zBp_f s2t, if_pos (show (0 : Int32) = 0 from rfl), sM_no2, zcI_some]
      · have s2t : ¬ zg t 11 k1 < 100 := by rw [e1]; exact s2
        rcases hq with ⟨q1, q2, q3⟩ | ⟨o, ho, q1, q2, q3⟩ | ⟨r2, m2, hr2, hm2, q1, q2, q3, q4, q5, q6⟩
        · have q2t : ¬ ¬ zg t 11 k2 < 100 := by rw [e2]; exact q2
          refine ⟨-3, _, _, ?_, ?_, aRel_refuse 3 h⟩
          · rw [aX_X_copy]
            unfold bX_X_copy_0
            rw [sX_isShelf, zcI_some, zBp_t h1, if_neg o1, sX_isShelf, zcI_some, zBp_t h2, if_pos o1, sX_holdsObject _ k1 s hk1, zcI_some, zBp_f s3, if_neg z0, sX_holdsObject _ k2 s hk2, zcI_some, zBp_f q3, if_neg z0, sX_two _ k1 k2 s hk1 hk2, zcI_some, zBp_f (fun q => q2 q.2.1), if_pos (show (0 : Int32) = 0 from rfl), sX_holdsRow _ k1 s hk1, zcI_some, zBp_t s2, if_neg o1, sX_holdsRow _ k2 s hk2, zcI_some, zBp_f q2, if_neg z0, sX_refuse3, zcI_some]
          · rw [aM_M_copy]
            unfold bM_M_copy_0
            rw [sM_in8, zcI_some, zBp_t h1, if_neg o1, sM_in8, zcI_some, zBp_t h2, if_pos o1, zin_nI hk1 (by decide), nI_clamp (show k1 < 2 ^ 31 by omega), e1, s1, if_neg (nI_pos (by omega)), sM_isRow _ k1 t hk1, zcI_some, zBp_t s2t, if_neg o1, hM_M_copy_23 _ 19998]
            unfold bM_M_copy_23
            rw [zin_nI hk2 (by decide), nI_clamp (show k2 < 2 ^ 31 by omega), e2, q1, if_pos hneg, hM_M_copy_32 _ 19997]
            unfold bM_M_copy_32
            rw [sM_isRow _ k1 t hk1, zcI_some, zBp_t s2t, if_neg o1, sM_isRow _ k2 t hk2, zcI_some, zBp_f q2t, if_pos (show (0 : Int32) = 0 from rfl), zin_nI hk1 (by decide), nI_clamp (show k1 < 2 ^ 31 by omega), e1, s1, if_neg (nI_pos (by omega)), zin_nI hk2 (by decide), nI_clamp (show k2 < 2 ^ 31 by omega), e2, q1, if_neg hneg2, sM_no3, zcI_some]
        · have q2t : ¬ ¬ zg t 11 k2 < 100 := by rw [e2]; exact q2
          refine ⟨-2, _, _, ?_, ?_, aRel_refuse 2 h⟩
          · rw [aX_X_copy]
            unfold bX_X_copy_0
            rw [sX_isShelf, zcI_some, zBp_t h1, if_neg o1, sX_isShelf, zcI_some, zBp_t h2, if_pos o1, sX_holdsObject _ k1 s hk1, zcI_some, zBp_f s3, if_neg z0, sX_holdsObject _ k2 s hk2, zcI_some, zBp_t q3, if_pos o1, sX_refuse2, zcI_some]
          · rw [aM_M_copy]
            unfold bM_M_copy_0
            rw [sM_in8, zcI_some, zBp_t h1, if_neg o1, sM_in8, zcI_some, zBp_t h2, if_pos o1, zin_nI hk1 (by decide), nI_clamp (show k1 < 2 ^ 31 by omega), e1, s1, if_neg (nI_pos (by omega)), sM_isRow _ k1 t hk1, zcI_some, zBp_t s2t, if_neg o1, hM_M_copy_23 _ 19998]
            unfold bM_M_copy_23
            rw [zin_nI hk2 (by decide), nI_clamp (show k2 < 2 ^ 31 by omega), e2, q1, if_neg (nI_pos (by omega)), sM_isRow _ k2 t hk2, zcI_some, zBp_f q2t, if_pos (show (0 : Int32) = 0 from rfl), sM_no2, zcI_some]
        · have q2t : ¬ zg t 11 k2 < 100 := by rw [e2]; exact q2
          by_cases hrr : zg s 33 k1 = zg s 33 k2
          · by_cases hn5 : (0 : Int32) ≤ a5
            · obtain ⟨n, hn31, rfl⟩ := nI_of (x := a5) (by rw [zlt, t0]; rw [zle, t0] at hn5; omega)
              by_cases hx3 : a3 < 0
              · have hx3' := hx3
                rw [zlt, t0] at hx3'
                refine ⟨-5, _, _, ?_, ?_, aRel_refuse 5 h⟩
                · rw [aX_X_copy]
                  unfold bX_X_copy_0
                  rw [sX_isShelf, zcI_some, zBp_t h1, if_neg o1, sX_isShelf, zcI_some, zBp_t h2, if_pos o1, sX_holdsObject _ k1 s hk1, zcI_some, zBp_f s3, if_neg z0, sX_holdsObject _ k2 s hk2, zcI_some, zBp_f q3, if_neg z0, sX_two _ k1 k2 s hk1 hk2, zcI_some, zBp_f (fun q => q.2.2 hrr), if_pos (show (0 : Int32) = 0 from rfl), sX_holdsRow _ k1 s hk1, zcI_some, zBp_t s2, if_neg o1, sX_holdsRow _ k2 s hk2, zcI_some, zBp_t q2, if_pos o1, if_pos hn5, sX_str _ k1 m1 n a3 s hk1 s4 hm1 hn31, zcI_some, zBp_f (by omega), if_pos (show (0 : Int32) = 0 from rfl), sX_refuse5, zcI_some]
                · rw [aM_M_copy]
                  unfold bM_M_copy_0
                  rw [sM_in8, zcI_some, zBp_t h1, if_neg o1, sM_in8, zcI_some, zBp_t h2, if_pos o1, zin_nI hk1 (by decide), nI_clamp (show k1 < 2 ^ 31 by omega), e1, s1, if_neg (nI_pos (by omega)), sM_isRow _ k1 t hk1, zcI_some, zBp_t s2t, if_neg o1, hM_M_copy_23 _ 19998]
                  unfold bM_M_copy_23
                  rw [zin_nI hk2 (by decide), nI_clamp (show k2 < 2 ^ 31 by omega), e2, q1, if_neg (nI_pos (by omega)), sM_isRow _ k2 t hk2, zcI_some, zBp_t q2t, if_neg o1, hM_M_copy_32 _ 19997]
                  unfold bM_M_copy_32
                  rw [sM_isRow _ k1 t hk1, zcI_some, zBp_t s2t, if_neg o1, sM_isRow _ k2 t hk2, zcI_some, zBp_t q2t, if_neg o1, zin_nI hk1 (by decide), zin_nI hk2 (by decide), nI_clamp (show k1 < 2 ^ 31 by omega), nI_clamp (show k2 < 2 ^ 31 by omega), e1, e2, if_pos hrr, zin_nI hk1 (by decide), s1, if_neg (nI_pos (by omega)), zin_nI hk2 (by decide), q1, if_pos (nI_pos' (by omega)), if_pos hn5, if_pos hx3, sM_no5, zcI_some]
              · obtain ⟨i, hi, rfl, hi2⟩ := strOk_lt (m := m1) (n := n) hx3
                by_cases hx4 : a4 < 0
                · have hx4' := hx4
                  rw [zlt, t0] at hx4'
                  refine ⟨-5, _, _, ?_, ?_, aRel_refuse 5 h⟩
                  · rw [aX_X_copy]
                    unfold bX_X_copy_0
                    rw [sX_isShelf, zcI_some, zBp_t h1, if_neg o1, sX_isShelf, zcI_some, zBp_t h2, if_pos o1, sX_holdsObject _ k1 s hk1, zcI_some, zBp_f s3, if_neg z0, sX_holdsObject _ k2 s hk2, zcI_some, zBp_f q3, if_neg z0, sX_two _ k1 k2 s hk1 hk2, zcI_some, zBp_f (fun q => q.2.2 hrr), if_pos (show (0 : Int32) = 0 from rfl), sX_holdsRow _ k1 s hk1, zcI_some, zBp_t s2, if_neg o1, sX_holdsRow _ k2 s hk2, zcI_some, zBp_t q2, if_pos o1, if_pos hn5, sX_str _ k1 m1 n (nI i) s hk1 s4 hm1 hn31, zcI_some]
                    by_cases c1 : (0 ≤ (nI i).toInt ∧ (nI i).toInt + (n : Int) ≤ (m1 : Int))
                    · rw [zBp_t c1, if_neg o1, sX_str _ k2 m2 n a4 s hk2 q4 hm2 hn31, zcI_some, zBp_f (by omega), if_neg z0, sX_refuse5, zcI_some]
                    · rw [zBp_f c1, if_pos (show (0 : Int32) = 0 from rfl), sX_refuse5, zcI_some]
                  · rw [aM_M_copy]
                    unfold bM_M_copy_0
                    rw [sM_in8, zcI_some, zBp_t h1, if_neg o1, sM_in8, zcI_some, zBp_t h2, if_pos o1, zin_nI hk1 (by decide), nI_clamp (show k1 < 2 ^ 31 by omega), e1, s1, if_neg (nI_pos (by omega)), sM_isRow _ k1 t hk1, zcI_some, zBp_t s2t, if_neg o1, hM_M_copy_23 _ 19998]
                    unfold bM_M_copy_23
                    rw [zin_nI hk2 (by decide), nI_clamp (show k2 < 2 ^ 31 by omega), e2, q1, if_neg (nI_pos (by omega)), sM_isRow _ k2 t hk2, zcI_some, zBp_t q2t, if_neg o1, hM_M_copy_32 _ 19997]
                    unfold bM_M_copy_32
                    rw [sM_isRow _ k1 t hk1, zcI_some, zBp_t s2t, if_neg o1, sM_isRow _ k2 t hk2, zcI_some, zBp_t q2t, if_neg o1, zin_nI hk1 (by decide), zin_nI hk2 (by decide), nI_clamp (show k1 < 2 ^ 31 by omega), nI_clamp (show k2 < 2 ^ 31 by omega), e1, e2, if_pos hrr, zin_nI hk1 (by decide), s1, if_neg (nI_pos (by omega)), zin_nI hk2 (by decide), q1, if_pos (nI_pos' (by omega)), if_pos hn5, if_neg hx3, if_pos hx4, sM_no5, zcI_some]
                · obtain ⟨j, hj, rfl, hj2⟩ := strOk_lt (m := m2) (n := n) hx4
                  by_cases c1 : i + n ≤ m1
                  · by_cases c2 : j + n ≤ m2
                    · have hmv : zcall zMs skX (d + 7) 56 [.inr (.inr 32), .inl (nI k1), .inl (nI k2), .inl (nI i), .inl (nI j), .inl (nI n)] s = some (none, zslc s 35 35 (k1 * 160 + i) (k2 * 160 + j) n) := by
                        rw [aX_H_move]
                        unfold bX_H_move_0
                        simp only [nlit160, nI_clamp (show k1 * 160 + i < 2 ^ 31 by omega), nI_clamp (show k2 * 160 + j < 2 ^ 31 by omega), nI_clamp (show n < 2 ^ 31 by omega), zcpin_ok (a := k1 * 160 + i) (b := k2 * 160 + j) (n := n) (n0 := 1280) (n1 := 1280) _ (by omega) (by omega) (by decide) (by decide)]
                      have hC0 : cCp t t (160 * k1 + i) (160 * k2 + j) 0 0 := ⟨fun _ _ => rfl, fun p x => by rw [if_neg (by omega)]⟩
                      have hCn : cCp t t (160 * k1 + i) (160 * k2 + j) n n := ⟨fun _ _ => rfl, fun p x => by rw [if_neg (by omega)]⟩
                      have hxx : zcall zMs skX (d + 8) 84 [.inr (.inr 0), .inl (nI k1), .inl (nI k2), .inl (nI i), .inl (nI j), .inl (nI n)] s = some (some (.inl 1), zslc s 35 35 (k1 * 160 + i) (k2 * 160 + j) n) := by
                        rw [aX_X_copy]
                        unfold bX_X_copy_0
                        rw [sX_isShelf, zcI_some, zBp_t h1, if_neg o1, sX_isShelf, zcI_some, zBp_t h2, if_pos o1, sX_holdsObject _ k1 s hk1, zcI_some, zBp_f s3, if_neg z0, sX_holdsObject _ k2 s hk2, zcI_some, zBp_f q3, if_neg z0, sX_two _ k1 k2 s hk1 hk2, zcI_some, zBp_f (fun q => q.2.2 hrr), if_pos (show (0 : Int32) = 0 from rfl), sX_holdsRow _ k1 s hk1, zcI_some, zBp_t s2, if_neg o1, sX_holdsRow _ k2 s hk2, zcI_some, zBp_t q2, if_pos o1, if_pos hn5, sX_str _ k1 m1 n (nI i) s hk1 s4 hm1 hn31, zcI_some, zBp_t (hi2.mpr c1), if_neg o1, sX_str _ k2 m2 n (nI j) s hk2 q4 hm2 hn31, zcI_some, zBp_t (hj2.mpr c2), if_pos o1, hmv, zcV_some]
                      by_cases hov : k1 ≠ k2 ∨ j ≤ i
                      · obtain ⟨t', g1, g2⟩ := cFwd (zcall zMs skM (d + 7)) k1 k2 i j n t hk1 hk2 (by omega) (by omega) hov n 0 19997 t (by omega) (by omega) hC0
                        rw [nI_0] at g1
                        refine ⟨1, _, t', hxx, ?_, aRel_cop hk1 hk2 hm1 hm2 c1 c2 s6 h g2⟩
                        rw [aM_M_copy]
                        unfold bM_M_copy_0
                        rw [sM_in8, zcI_some, zBp_t h1, if_neg o1, sM_in8, zcI_some, zBp_t h2, if_pos o1, zin_nI hk1 (by decide), nI_clamp (show k1 < 2 ^ 31 by omega), e1, s1, if_neg (nI_pos (by omega)), sM_isRow _ k1 t hk1, zcI_some, zBp_t s2t, if_neg o1, hM_M_copy_23 _ 19998]
                        unfold bM_M_copy_23
                        rw [zin_nI hk2 (by decide), nI_clamp (show k2 < 2 ^ 31 by omega), e2, q1, if_neg (nI_pos (by omega)), sM_isRow _ k2 t hk2, zcI_some, zBp_t q2t, if_neg o1, hM_M_copy_32 _ 19997]
                        unfold bM_M_copy_32
                        rw [sM_isRow _ k1 t hk1, zcI_some, zBp_t s2t, if_neg o1, sM_isRow _ k2 t hk2, zcI_some, zBp_t q2t, if_neg o1, zin_nI hk1 (by decide), zin_nI hk2 (by decide), nI_clamp (show k1 < 2 ^ 31 by omega), nI_clamp (show k2 < 2 ^ 31 by omega), e1, e2, if_pos hrr, zin_nI hk1 (by decide), s1, if_neg (nI_pos (by omega)), zin_nI hk2 (by decide), q1, if_pos (nI_pos' (by omega)), if_pos hn5, if_neg hx3, if_neg hx4, zin_nI hk1 (by decide), s5, if_neg (fun q => absurd ((cmp_gt hi hn31 (show m1 < 2 ^ 31 by omega)).mp q) (by omega)), zin_nI hk2 (by decide), q5, if_pos ((cmp_le hj hn31 (show m2 < 2 ^ 31 by omega)).mpr c2)]
                        by_cases hkk : k1 = k2
                        · rw [if_neg (show ¬ ¬ nI k1 = nI k2 from fun q => q (by rw [hkk])), if_pos (nI_le (show j ≤ i from hov.resolve_left (fun q => q hkk)) (by omega))]
                          exact g1
                        · rw [if_pos (show ¬ nI k1 = nI k2 from fun q => hkk ((nI_i3 (by omega) k2 (by omega)).mp q))]
                          exact g1
                      · have hkk : k1 = k2 := by omega
                        have hji : i < j := by omega
                        rw [← hkk] at hCn
                        obtain ⟨t', g1, g2⟩ := cBwd (zcall zMs skM (d + 7)) k1 i j n t hk1 (by omega) (by omega) hji n 19997 t (Nat.le_refl _) (by omega) hCn
                        refine ⟨1, _, t', hxx, ?_, aRel_cop hk1 hk2 hm1 hm2 c1 c2 s6 h (by rw [← hkk]; exact g2)⟩
                        rw [aM_M_copy]
                        unfold bM_M_copy_0
                        rw [sM_in8, zcI_some, zBp_t h1, if_neg o1, sM_in8, zcI_some, zBp_t h2, if_pos o1, zin_nI hk1 (by decide), nI_clamp (show k1 < 2 ^ 31 by omega), e1, s1, if_neg (nI_pos (by omega)), sM_isRow _ k1 t hk1, zcI_some, zBp_t s2t, if_neg o1, hM_M_copy_23 _ 19998]
                        unfold bM_M_copy_23
                        rw [zin_nI hk2 (by decide), nI_clamp (show k2 < 2 ^ 31 by omega), e2, q1, if_neg (nI_pos (by omega)), sM_isRow _ k2 t hk2, zcI_some, zBp_t q2t, if_neg o1, hM_M_copy_32 _ 19997]
                        unfold bM_M_copy_32
                        rw [sM_isRow _ k1 t hk1, zcI_some, zBp_t s2t, if_neg o1, sM_isRow _ k2 t hk2, zcI_some, zBp_t q2t, if_neg o1, zin_nI hk1 (by decide), zin_nI hk2 (by decide), nI_clamp (show k1 < 2 ^ 31 by omega), nI_clamp (show k2 < 2 ^ 31 by omega), e1, e2, if_pos hrr, zin_nI hk1 (by decide), s1, if_neg (nI_pos (by omega)), zin_nI hk2 (by decide), q1, if_pos (nI_pos' (by omega)), if_pos hn5, if_neg hx3, if_neg hx4, zin_nI hk1 (by decide), s5, if_neg (fun q => absurd ((cmp_gt hi hn31 (show m1 < 2 ^ 31 by omega)).mp q) (by omega)), zin_nI hk2 (by decide), q5, if_pos ((cmp_le hj hn31 (show m2 < 2 ^ 31 by omega)).mpr c2), if_neg (show ¬ ¬ nI k1 = nI k2 from fun q => q (by rw [hkk])), if_neg (nI_ge hji (by omega))]
                        rw [← hkk]
                        exact g1
                    · refine ⟨-5, _, _, ?_, ?_, aRel_refuse 5 h⟩
                      · rw [aX_X_copy]
                        unfold bX_X_copy_0
                        rw [sX_isShelf, zcI_some, zBp_t h1, if_neg o1, sX_isShelf, zcI_some, zBp_t h2, if_pos o1, sX_holdsObject _ k1 s hk1, zcI_some, zBp_f s3, if_neg z0, sX_holdsObject _ k2 s hk2, zcI_some, zBp_f q3, if_neg z0, sX_two _ k1 k2 s hk1 hk2, zcI_some, zBp_f (fun q => q.2.2 hrr), if_pos (show (0 : Int32) = 0 from rfl), sX_holdsRow _ k1 s hk1, zcI_some, zBp_t s2, if_neg o1, sX_holdsRow _ k2 s hk2, zcI_some, zBp_t q2, if_pos o1, if_pos hn5, sX_str _ k1 m1 n (nI i) s hk1 s4 hm1 hn31, zcI_some, zBp_t (hi2.mpr c1), if_neg o1, sX_str _ k2 m2 n (nI j) s hk2 q4 hm2 hn31, zcI_some, zBp_f (fun q => c2 (hj2.mp q)), if_neg z0, sX_refuse5, zcI_some]
                      · rw [aM_M_copy]
                        unfold bM_M_copy_0
                        rw [sM_in8, zcI_some, zBp_t h1, if_neg o1, sM_in8, zcI_some, zBp_t h2, if_pos o1, zin_nI hk1 (by decide), nI_clamp (show k1 < 2 ^ 31 by omega), e1, s1, if_neg (nI_pos (by omega)), sM_isRow _ k1 t hk1, zcI_some, zBp_t s2t, if_neg o1, hM_M_copy_23 _ 19998]
                        unfold bM_M_copy_23
                        rw [zin_nI hk2 (by decide), nI_clamp (show k2 < 2 ^ 31 by omega), e2, q1, if_neg (nI_pos (by omega)), sM_isRow _ k2 t hk2, zcI_some, zBp_t q2t, if_neg o1, hM_M_copy_32 _ 19997]
                        unfold bM_M_copy_32
                        rw [sM_isRow _ k1 t hk1, zcI_some, zBp_t s2t, if_neg o1, sM_isRow _ k2 t hk2, zcI_some, zBp_t q2t, if_neg o1, zin_nI hk1 (by decide), zin_nI hk2 (by decide), nI_clamp (show k1 < 2 ^ 31 by omega), nI_clamp (show k2 < 2 ^ 31 by omega), e1, e2, if_pos hrr, zin_nI hk1 (by decide), s1, if_neg (nI_pos (by omega)), zin_nI hk2 (by decide), q1, if_pos (nI_pos' (by omega)), if_pos hn5, if_neg hx3, if_neg hx4, zin_nI hk1 (by decide), s5, if_neg (fun q => absurd ((cmp_gt hi hn31 (show m1 < 2 ^ 31 by omega)).mp q) (by omega)), zin_nI hk2 (by decide), q5, if_neg (fun q => c2 ((cmp_le hj hn31 (show m2 < 2 ^ 31 by omega)).mp q)), sM_no5, zcI_some]
                  · refine ⟨-5, _, _, ?_, ?_, aRel_refuse 5 h⟩
                    · rw [aX_X_copy]
                      unfold bX_X_copy_0
                      rw [sX_isShelf, zcI_some, zBp_t h1, if_neg o1, sX_isShelf, zcI_some, zBp_t h2, if_pos o1, sX_holdsObject _ k1 s hk1, zcI_some, zBp_f s3, if_neg z0, sX_holdsObject _ k2 s hk2, zcI_some, zBp_f q3, if_neg z0, sX_two _ k1 k2 s hk1 hk2, zcI_some, zBp_f (fun q => q.2.2 hrr), if_pos (show (0 : Int32) = 0 from rfl), sX_holdsRow _ k1 s hk1, zcI_some, zBp_t s2, if_neg o1, sX_holdsRow _ k2 s hk2, zcI_some, zBp_t q2, if_pos o1, if_pos hn5, sX_str _ k1 m1 n (nI i) s hk1 s4 hm1 hn31, zcI_some, zBp_f (fun q => c1 (hi2.mp q)), if_pos (show (0 : Int32) = 0 from rfl), sX_refuse5, zcI_some]
                    · rw [aM_M_copy]
                      unfold bM_M_copy_0
                      rw [sM_in8, zcI_some, zBp_t h1, if_neg o1, sM_in8, zcI_some, zBp_t h2, if_pos o1, zin_nI hk1 (by decide), nI_clamp (show k1 < 2 ^ 31 by omega), e1, s1, if_neg (nI_pos (by omega)), sM_isRow _ k1 t hk1, zcI_some, zBp_t s2t, if_neg o1, hM_M_copy_23 _ 19998]
                      unfold bM_M_copy_23
                      rw [zin_nI hk2 (by decide), nI_clamp (show k2 < 2 ^ 31 by omega), e2, q1, if_neg (nI_pos (by omega)), sM_isRow _ k2 t hk2, zcI_some, zBp_t q2t, if_neg o1, hM_M_copy_32 _ 19997]
                      unfold bM_M_copy_32
                      rw [sM_isRow _ k1 t hk1, zcI_some, zBp_t s2t, if_neg o1, sM_isRow _ k2 t hk2, zcI_some, zBp_t q2t, if_neg o1, zin_nI hk1 (by decide), zin_nI hk2 (by decide), nI_clamp (show k1 < 2 ^ 31 by omega), nI_clamp (show k2 < 2 ^ 31 by omega), e1, e2, if_pos hrr, zin_nI hk1 (by decide), s1, if_neg (nI_pos (by omega)), zin_nI hk2 (by decide), q1, if_pos (nI_pos' (by omega)), if_pos hn5, if_neg hx3, if_neg hx4, zin_nI hk1 (by decide), s5, if_pos ((cmp_gt hi hn31 (show m1 < 2 ^ 31 by omega)).mpr (by omega)), sM_no5, zcI_some]
            · have hn5' := hn5
              refine ⟨-4, _, _, ?_, ?_, aRel_refuse 4 h⟩
              · rw [aX_X_copy]
                unfold bX_X_copy_0
                rw [sX_isShelf, zcI_some, zBp_t h1, if_neg o1, sX_isShelf, zcI_some, zBp_t h2, if_pos o1, sX_holdsObject _ k1 s hk1, zcI_some, zBp_f s3, if_neg z0, sX_holdsObject _ k2 s hk2, zcI_some, zBp_f q3, if_neg z0, sX_two _ k1 k2 s hk1 hk2, zcI_some, zBp_f (fun q => q.2.2 hrr), if_pos (show (0 : Int32) = 0 from rfl), sX_holdsRow _ k1 s hk1, zcI_some, zBp_t s2, if_neg o1, sX_holdsRow _ k2 s hk2, zcI_some, zBp_t q2, if_pos o1, if_neg hn5, sX_refuse4, zcI_some]
              · rw [aM_M_copy]
                unfold bM_M_copy_0
                rw [sM_in8, zcI_some, zBp_t h1, if_neg o1, sM_in8, zcI_some, zBp_t h2, if_pos o1, zin_nI hk1 (by decide), nI_clamp (show k1 < 2 ^ 31 by omega), e1, s1, if_neg (nI_pos (by omega)), sM_isRow _ k1 t hk1, zcI_some, zBp_t s2t, if_neg o1, hM_M_copy_23 _ 19998]
                unfold bM_M_copy_23
                rw [zin_nI hk2 (by decide), nI_clamp (show k2 < 2 ^ 31 by omega), e2, q1, if_neg (nI_pos (by omega)), sM_isRow _ k2 t hk2, zcI_some, zBp_t q2t, if_neg o1, hM_M_copy_32 _ 19997]
                unfold bM_M_copy_32
                rw [sM_isRow _ k1 t hk1, zcI_some, zBp_t s2t, if_neg o1, sM_isRow _ k2 t hk2, zcI_some, zBp_t q2t, if_neg o1, zin_nI hk1 (by decide), zin_nI hk2 (by decide), nI_clamp (show k1 < 2 ^ 31 by omega), nI_clamp (show k2 < 2 ^ 31 by omega), e1, e2, if_pos hrr, zin_nI hk1 (by decide), s1, if_neg (nI_pos (by omega)), zin_nI hk2 (by decide), q1, if_pos (nI_pos' (by omega)), if_neg hn5, sM_no4, zcI_some]
          · have hrr2 := hrr
            refine ⟨-2, _, _, ?_, ?_, aRel_refuse 2 h⟩
            · rw [aX_X_copy]
              unfold bX_X_copy_0
              rw [sX_isShelf, zcI_some, zBp_t h1, if_neg o1, sX_isShelf, zcI_some, zBp_t h2, if_pos o1, sX_holdsObject _ k1 s hk1, zcI_some, zBp_f s3, if_neg z0, sX_holdsObject _ k2 s hk2, zcI_some, zBp_f q3, if_neg z0, sX_two _ k1 k2 s hk1 hk2, zcI_some, zBp_t ⟨s2, q2, hrr⟩, if_neg o1, sX_refuse2, zcI_some]
            · rw [aM_M_copy]
              unfold bM_M_copy_0
              rw [sM_in8, zcI_some, zBp_t h1, if_neg o1, sM_in8, zcI_some, zBp_t h2, if_pos o1, zin_nI hk1 (by decide), nI_clamp (show k1 < 2 ^ 31 by omega), e1, s1, if_neg (nI_pos (by omega)), sM_isRow _ k1 t hk1, zcI_some, zBp_t s2t, if_neg o1, hM_M_copy_23 _ 19998]
              unfold bM_M_copy_23
              rw [zin_nI hk2 (by decide), nI_clamp (show k2 < 2 ^ 31 by omega), e2, q1, if_neg (nI_pos (by omega)), sM_isRow _ k2 t hk2, zcI_some, zBp_t q2t, if_neg o1, hM_M_copy_32 _ 19997]
              unfold bM_M_copy_32
              rw [sM_isRow _ k1 t hk1, zcI_some, zBp_t s2t, if_neg o1, sM_isRow _ k2 t hk2, zcI_some, zBp_t q2t, if_neg o1, zin_nI hk1 (by decide), zin_nI hk2 (by decide), nI_clamp (show k1 < 2 ^ 31 by omega), nI_clamp (show k2 < 2 ^ 31 by omega), e1, e2, if_neg hrr, sM_no2, zcI_some]
    · refine ⟨-1, _, _, ?_, ?_, aRel_refuse 1 h⟩
      · rw [aX_X_copy]
        unfold bX_X_copy_0
        rw [sX_isShelf, zcI_some, zBp_t h1, if_neg o1, sX_isShelf, zcI_some, zBp_f h2, if_neg z0, sX_refuse1, zcI_some]
      · rw [aM_M_copy]
        unfold bM_M_copy_0
        rw [sM_in8, zcI_some, zBp_t h1, if_neg o1, sM_in8, zcI_some, zBp_f h2, if_neg z0, sM_no1, zcI_some]
  · refine ⟨-1, _, _, ?_, ?_, aRel_refuse 1 h⟩
    · rw [aX_X_copy]
      unfold bX_X_copy_0
      rw [sX_isShelf, zcI_some, zBp_f h1, if_pos (show (0 : Int32) = 0 from rfl), sX_refuse1, zcI_some]
    · rw [aM_M_copy]
      unfold bM_M_copy_0
      rw [sM_in8, zcI_some, zBp_f h1, if_pos (show (0 : Int32) = 0 from rfl), sM_no1, zcI_some]
