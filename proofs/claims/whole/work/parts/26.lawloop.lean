theorem lw_sub7 {L j : Nat} (hL : L ≤ 3584) (hj : j ≤ 4000) (h : ¬ (nI L - 7 < nI j)) : j + 7 ≤ L := by
  have e1 : (nI L).toInt = L := nI_toInt (by omega)
  have e2 : (nI j).toInt = j := nI_toInt (by omega)
  have h7 : (7 : Int32).toInt = 7 := by decide
  have h3 : nI j ≤ nI L - 7 := Int32.not_lt.mp h
  have h4 := Int32.le_iff_toInt_le.mp h3
  rw [Int32.toInt_sub, e1, e2, h7, Int.bmod_eq_of_le (by omega) (by omega)] at h4
  omega
set_option maxRecDepth 100000 in
set_option maxHeartbeats 20000000 in
theorem lw_loop {p : Program} {l : Launch} {e : Env} {s : State} {m : MethodId} {below : List Frame} {meth : Method} {c : Code} {D : va_G} {cI cJ : ClassId} {b L : Nat} {xs : Nat → Int32} {adX adM : Nat → Nat} {Rel : zS → zS → Prop} (hC : lwCtx p s m meth c D cI cJ b L xs adX adM)
    (h0 : ∀ (a1 : Int32) (a2 : Int32) (a3 : Int32), zSim Rel 82 133 [.inl a1, .inl a2, .inl a3])
    (h1 : ∀ (a1 : Int32) (a2 : Int32) (a3 : Int64), zSim Rel 83 135 [.inl a1, .inl a2, .inr (.inl a3)])
    (h2 : ∀ (a1 : Int32) (a2 : Int32) (a3 : Int32) (a4 : Int32) (a5 : Int32), zSim Rel 84 136 [.inl a1, .inl a2, .inl a3, .inl a4, .inl a5])
    (h3 : ∀ (a1 : Int32) (a2 : Int32), zSimJ Rel 85 137 [.inl a1, .inl a2])
    (h4 : ∀ (a1 : Int32) (a2 : Int32), zSim Rel 86 138 [.inl a1, .inl a2])
    (h5 : ∀ (a1 : Int32), zSim Rel 87 139 [.inl a1])
    (h6 : ∀ (a1 : Int32) (a2 : Int32), zSim Rel 88 140 [.inl a1, .inl a2])
    (h7 : ∀ (a1 : Int32), zSim Rel 89 160 [.inl a1])
    (h8 : zSim Rel 90 161 [])
    (h9 : ∀ (a1 : Int32) (a2 : Int32) (a3 : Int32) (a4 : Int32) (a5 : Int32), zSim Rel 91 149 [.inl a1, .inl a2, .inl a3, .inl a4, .inl a5])
    (h10 : ∀ (a1 : Int32) (a2 : Int32) (a3 : Int32) (a4 : Int32) (a5 : Int32), zSim Rel 92 150 [.inl a1, .inl a2, .inl a3, .inl a4, .inl a5])
    (h11 : ∀ (a1 : Int32) (a2 : Int32) (a3 : Int32), zSim Rel 93 163 [.inl a1, .inl a2, .inl a3])
    (h12 : ∀ (a1 : Int32) (a2 : Int32) (a3 : Int32) (a4 : Int32), zSim Rel 94 164 [.inl a1, .inl a2, .inl a3, .inl a4])
    (h13 : ∀ (a1 : Int32) (a2 : Int32), zSim Rel 95 166 [.inl a1, .inl a2])
    (h14 : ∀ (a1 : Int32) (a2 : Int32), zSim Rel 96 171 [.inl a1, .inl a2])
    (h15 : ∀ (a1 : Int32) (a2 : Int32), zSim Rel 97 172 [.inl a1, .inl a2])
    (h16 : ∀ (a1 : Int32) (a2 : Int32), zSim Rel 98 173 [.inl a1, .inl a2])
    (h17 : ∀ (a1 : Int32) (a2 : Int32), zSim Rel 99 174 [.inl a1, .inl a2])
    (h18 : ∀ (a1 : Int32) (a2 : Int32), zSim Rel 100 175 [.inl a1, .inl a2])
    (h19 : ∀ (a1 : Int32) (a2 : Int32) (a3 : Int32), zSim Rel 101 176 [.inl a1, .inl a2, .inl a3])
    (h20 : ∀ (a1 : Int32) (a2 : Int32) (a3 : Int32), zSim Rel 102 189 [.inl a1, .inl a2, .inl a3])
    (h21 : zSim Rel 103 190 [])
    (h22 : ∀ (a1 : Int32) (a2 : Int32) (a3 : Int32) (a4 : Int32), zSim Rel 104 192 [.inl a1, .inl a2, .inl a3, .inl a4])
    (h23 : ∀ (a1 : Int32) (a2 : Int32) (a3 : Int32) (a4 : Int32) (a5 : Int32) (a6 : Int32), zSim Rel 105 194 [.inl a1, .inl a2, .inl a3, .inl a4, .inl a5, .inl a6])
    (h24 : ∀ (a1 : Int32) (a2 : Int32), zSim Rel 106 195 [.inl a1, .inl a2])
    (h25 : ∀ (a1 : Int32) (a2 : Int32) (a3 : Int32) (a4 : Int32) (a5 : Int32), zSim Rel 107 199 [.inl a1, .inl a2, .inl a3, .inl a4, .inl a5])
    (h26 : ∀ (a1 : Int32) (a2 : Int32) (a3 : Int32), zSim Rel 108 200 [.inl a1, .inl a2, .inl a3])
    (h27 : ∀ (a1 : Int32) (a2 : Int32) (a3 : Int32) (a4 : Int32), zSim Rel 109 201 [.inl a1, .inl a2, .inl a3, .inl a4])
    (h28 : ∀ (a1 : Int32), zSim Rel 110 202 [.inl a1])
    (h29 : ∀ (a1 : Int32) (a2 : Int32) (a3 : Int32) (a4 : Int32), zSim Rel 111 204 [.inl a1, .inl a2, .inl a3, .inl a4])
    (h30 : ∀ (a1 : Int32), zSim Rel 112 207 [.inl a1])
    (h31 : ∀ (a1 : Int32), zSim Rel 113 208 [.inl a1])
    (h32 : zSim Rel 114 211 [])
    (h33 : zSim Rel 115 212 [])
    (h34 : ∀ (a1 : Int32), zSim Rel 116 214 [.inl a1]) :
    ∀ (n j : Nat) (σ τ : zS), j ≤ L + 7 → L + 8 ≤ j + n → Rel σ τ → lwAt p l e s m below meth c D cI cJ b adX adM 18 j σ τ := by
  intro n
  induction n with
  | zero =>
    intro j σ τ hj hn
    omega
  | succ n ih =>
    intro j σ τ hj hn hR
    have hC' := hC
    obtain ⟨hMs, hx, hb, hml, hown, hts, hK, hN, hX, hbl, hL, hap, hret, hlocks⟩ := hC'
    have hbA : ¬ (fun q => s.heap.size ≤ q) b := Nat.not_le.mpr hbl
    intro H locs ls hPX hPM hDX hDM hS hl
    refine lv_iload_n hx hb dL_law_18 rfl (lv_at hl 3 rfl) ?_
    refine lv_aload_n hx hb dL_law_19 rfl (lv_at hl 0 rfl) ?_
    refine va_slen hx hb hX hbl hbA hS dL_law_20 ?_
    refine lv_bipush (v := 7) hx hb dL_law_21 (by decide) ?_
    refine lv_isub hx hb dL_law_23 ?_
    refine lv_icmp_gt (tgt := 1542) hx hb dL_law_24 (by decide) (fun _ => ?_) (fun hle => ?_)
    · refine lv_iconst (v := 1) hx hb dL_law_1542 (by decide) ?_
      refine va_forget (fun q hq => hS.2.2 q hq) ?_
      exact lw_ret hx hb hret hlocks dL_law_1543
    · have hj7 : j + 7 ≤ L := lw_sub7 hL (by omega) hle
      have next : ∀ σ' τ', Rel σ' τ' → lwAt p l e s m below meth c D cI cJ b adX adM 1536 j σ' τ' := by
        intro σ' τ' hR' H locs ls hPX hPM hDX hDM hS hl
        refine lv_iinc (v := nI (j + 7)) (lv' := [(3, .int (nI (j + 7))), (0, .ref b), (1, .ref (adX 0)), (2, .ref (adM 0))]) hx hb dL_law_1536 hl (k := 3) rfl (nI_add j 7) (by decide) rfl (fun ls hl => ?_)
        refine lv_goto (tgt := 18) hx hb dL_law_1539 (by decide) ?_
        exact ih (j + 7) σ' τ' (by omega) (by omega) hR' H locs ls hPX hPM hDX hDM hS (lv_sub hl [1, 2, 3, 0] rfl)
      refine lv_aload_n hx hb dL_law_27 rfl (lv_at hl 0 rfl) ?_
      refine lv_iload_n hx hb dL_law_28 rfl (lv_at hl 3 rfl) ?_
      refine va_sld hx hb hX hbl hbA hS (vp_in_nI (by omega) (by omega)) dL_law_29 ?_
      refine lv_bipush (v := 63) hx hb dL_law_30 (by decide) ?_
      refine lv_iand hx hb dL_law_32 ?_
      refine lv_topi (fun x _ => ?_)
      by_cases hin : x.toInt < 0 ∨ 34 < x.toInt
      · exact lv_tableOut (tgt := 1536) hx hb dL_law_33 hin (by decide) (next σ τ hR H locs ls hPX hPM hDX hDM hS hl)
      · have hx35 : x.toInt = 0 ∨ x.toInt = 1 ∨ x.toInt = 2 ∨ x.toInt = 3 ∨ x.toInt = 4 ∨ x.toInt = 5 ∨ x.toInt = 6 ∨ x.toInt = 7 ∨ x.toInt = 8 ∨ x.toInt = 9 ∨ x.toInt = 10 ∨ x.toInt = 11 ∨ x.toInt = 12 ∨ x.toInt = 13 ∨ x.toInt = 14 ∨ x.toInt = 15 ∨ x.toInt = 16 ∨ x.toInt = 17 ∨ x.toInt = 18 ∨ x.toInt = 19 ∨ x.toInt = 20 ∨ x.toInt = 21 ∨ x.toInt = 22 ∨ x.toInt = 23 ∨ x.toInt = 24 ∨ x.toInt = 25 ∨ x.toInt = 26 ∨ x.toInt = 27 ∨ x.toInt = 28 ∨ x.toInt = 29 ∨ x.toInt = 30 ∨ x.toInt = 31 ∨ x.toInt = 32 ∨ x.toInt = 33 ∨ x.toInt = 34 := by omega
        rcases hx35 with hk | hk | hk | hk | hk | hk | hk | hk | hk | hk | hk | hk | hk | hk | hk | hk | hk | hk | hk | hk | hk | hk | hk | hk | hk | hk | hk | hk | hk | hk | hk | hk | hk | hk | hk
        · exact lv_tableIn (tgt := 188) (off := 155) hx hb dL_law_33 (by omega) (by omega) (by rw [hk]; rfl) (by decide) (lc_0 hC h0 hj7 hR next H locs ls hPX hPM hDX hDM hS hl)
        · exact lv_tableIn (tgt := 231) (off := 198) hx hb dL_law_33 (by omega) (by omega) (by rw [hk]; rfl) (by decide) (lc_1 hC h1 hj7 hR next H locs ls hPX hPM hDX hDM hS hl)
        · exact lv_tableIn (tgt := 304) (off := 271) hx hb dL_law_33 (by omega) (by omega) (by rw [hk]; rfl) (by decide) (lc_2 hC h2 hj7 hR next H locs ls hPX hPM hDX hDM hS hl)
        · exact lv_tableIn (tgt := 367) (off := 334) hx hb dL_law_33 (by omega) (by omega) (by rw [hk]; rfl) (by decide) (lc_3 hC h3 hj7 hR next H locs ls hPX hPM hDX hDM hS hl)
        · exact lv_tableIn (tgt := 401) (off := 368) hx hb dL_law_33 (by omega) (by omega) (by rw [hk]; rfl) (by decide) (lc_4 hC h4 hj7 hR next H locs ls hPX hPM hDX hDM hS hl)
        · exact lv_tableIn (tgt := 434) (off := 401) hx hb dL_law_33 (by omega) (by omega) (by rw [hk]; rfl) (by decide) (lc_5 hC h5 hj7 hR next H locs ls hPX hPM hDX hDM hS hl)
        · exact lv_tableIn (tgt := 457) (off := 424) hx hb dL_law_33 (by omega) (by omega) (by rw [hk]; rfl) (by decide) (lc_6 hC h6 hj7 hR next H locs ls hPX hPM hDX hDM hS hl)
        · exact lv_tableIn (tgt := 490) (off := 457) hx hb dL_law_33 (by omega) (by omega) (by rw [hk]; rfl) (by decide) (lc_7 hC h7 hj7 hR next H locs ls hPX hPM hDX hDM hS hl)
        · exact lv_tableIn (tgt := 513) (off := 480) hx hb dL_law_33 (by omega) (by omega) (by rw [hk]; rfl) (by decide) (lc_8 hC h8 hj7 hR next H locs ls hPX hPM hDX hDM hS hl)
        · exact lv_tableIn (tgt := 526) (off := 493) hx hb dL_law_33 (by omega) (by omega) (by rw [hk]; rfl) (by decide) (lc_9 hC h9 hj7 hR next H locs ls hPX hPM hDX hDM hS hl)
        · exact lv_tableIn (tgt := 589) (off := 556) hx hb dL_law_33 (by omega) (by omega) (by rw [hk]; rfl) (by decide) (lc_10 hC h10 hj7 hR next H locs ls hPX hPM hDX hDM hS hl)
        · exact lv_tableIn (tgt := 652) (off := 619) hx hb dL_law_33 (by omega) (by omega) (by rw [hk]; rfl) (by decide) (lc_11 hC h11 hj7 hR next H locs ls hPX hPM hDX hDM hS hl)
        · exact lv_tableIn (tgt := 695) (off := 662) hx hb dL_law_33 (by omega) (by omega) (by rw [hk]; rfl) (by decide) (lc_12 hC h12 hj7 hR next H locs ls hPX hPM hDX hDM hS hl)
        · exact lv_tableIn (tgt := 748) (off := 715) hx hb dL_law_33 (by omega) (by omega) (by rw [hk]; rfl) (by decide) (lc_13 hC h13 hj7 hR next H locs ls hPX hPM hDX hDM hS hl)
        · exact lv_tableIn (tgt := 781) (off := 748) hx hb dL_law_33 (by omega) (by omega) (by rw [hk]; rfl) (by decide) (lc_14 hC h14 hj7 hR next H locs ls hPX hPM hDX hDM hS hl)
        · exact lv_tableIn (tgt := 814) (off := 781) hx hb dL_law_33 (by omega) (by omega) (by rw [hk]; rfl) (by decide) (lc_15 hC h15 hj7 hR next H locs ls hPX hPM hDX hDM hS hl)
        · exact lv_tableIn (tgt := 847) (off := 814) hx hb dL_law_33 (by omega) (by omega) (by rw [hk]; rfl) (by decide) (lc_16 hC h16 hj7 hR next H locs ls hPX hPM hDX hDM hS hl)
        · exact lv_tableIn (tgt := 880) (off := 847) hx hb dL_law_33 (by omega) (by omega) (by rw [hk]; rfl) (by decide) (lc_17 hC h17 hj7 hR next H locs ls hPX hPM hDX hDM hS hl)
        · exact lv_tableIn (tgt := 913) (off := 880) hx hb dL_law_33 (by omega) (by omega) (by rw [hk]; rfl) (by decide) (lc_18 hC h18 hj7 hR next H locs ls hPX hPM hDX hDM hS hl)
        · exact lv_tableIn (tgt := 946) (off := 913) hx hb dL_law_33 (by omega) (by omega) (by rw [hk]; rfl) (by decide) (lc_19 hC h19 hj7 hR next H locs ls hPX hPM hDX hDM hS hl)
        · exact lv_tableIn (tgt := 989) (off := 956) hx hb dL_law_33 (by omega) (by omega) (by rw [hk]; rfl) (by decide) (lc_20 hC h20 hj7 hR next H locs ls hPX hPM hDX hDM hS hl)
        · exact lv_tableIn (tgt := 1032) (off := 999) hx hb dL_law_33 (by omega) (by omega) (by rw [hk]; rfl) (by decide) (lc_21 hC h21 hj7 hR next H locs ls hPX hPM hDX hDM hS hl)
        · exact lv_tableIn (tgt := 1045) (off := 1012) hx hb dL_law_33 (by omega) (by omega) (by rw [hk]; rfl) (by decide) (lc_22 hC h22 hj7 hR next H locs ls hPX hPM hDX hDM hS hl)
        · exact lv_tableIn (tgt := 1098) (off := 1065) hx hb dL_law_33 (by omega) (by omega) (by rw [hk]; rfl) (by decide) (lc_23 hC h23 hj7 hR next H locs ls hPX hPM hDX hDM hS hl)
        · exact lv_tableIn (tgt := 1173) (off := 1140) hx hb dL_law_33 (by omega) (by omega) (by rw [hk]; rfl) (by decide) (lc_24 hC h24 hj7 hR next H locs ls hPX hPM hDX hDM hS hl)
        · exact lv_tableIn (tgt := 1206) (off := 1173) hx hb dL_law_33 (by omega) (by omega) (by rw [hk]; rfl) (by decide) (lc_25 hC h25 hj7 hR next H locs ls hPX hPM hDX hDM hS hl)
        · exact lv_tableIn (tgt := 1269) (off := 1236) hx hb dL_law_33 (by omega) (by omega) (by rw [hk]; rfl) (by decide) (lc_26 hC h26 hj7 hR next H locs ls hPX hPM hDX hDM hS hl)
        · exact lv_tableIn (tgt := 1312) (off := 1279) hx hb dL_law_33 (by omega) (by omega) (by rw [hk]; rfl) (by decide) (lc_27 hC h27 hj7 hR next H locs ls hPX hPM hDX hDM hS hl)
        · exact lv_tableIn (tgt := 1365) (off := 1332) hx hb dL_law_33 (by omega) (by omega) (by rw [hk]; rfl) (by decide) (lc_28 hC h28 hj7 hR next H locs ls hPX hPM hDX hDM hS hl)
        · exact lv_tableIn (tgt := 1388) (off := 1355) hx hb dL_law_33 (by omega) (by omega) (by rw [hk]; rfl) (by decide) (lc_29 hC h29 hj7 hR next H locs ls hPX hPM hDX hDM hS hl)
        · exact lv_tableIn (tgt := 1441) (off := 1408) hx hb dL_law_33 (by omega) (by omega) (by rw [hk]; rfl) (by decide) (lc_30 hC h30 hj7 hR next H locs ls hPX hPM hDX hDM hS hl)
        · exact lv_tableIn (tgt := 1464) (off := 1431) hx hb dL_law_33 (by omega) (by omega) (by rw [hk]; rfl) (by decide) (lc_31 hC h31 hj7 hR next H locs ls hPX hPM hDX hDM hS hl)
        · exact lv_tableIn (tgt := 1487) (off := 1454) hx hb dL_law_33 (by omega) (by omega) (by rw [hk]; rfl) (by decide) (lc_32 hC h32 hj7 hR next H locs ls hPX hPM hDX hDM hS hl)
        · exact lv_tableIn (tgt := 1500) (off := 1467) hx hb dL_law_33 (by omega) (by omega) (by rw [hk]; rfl) (by decide) (lc_33 hC h33 hj7 hR next H locs ls hPX hPM hDX hDM hS hl)
        · exact lv_tableIn (tgt := 1513) (off := 1480) hx hb dL_law_33 (by omega) (by omega) (by rw [hk]; rfl) (by decide) (lc_34 hC h34 hj7 hR next H locs ls hPX hPM hDX hDM hS hl)
