def zwd0 (a b : Nat) (w : Cond) : Bool := match a with
  | 1 => decide (tables_1_1[b]? = some w)
  | 2 => decide (tables_1_2[b]? = some w)
  | 3 => decide (tables_1_3[b]? = some w)
  | 4 => decide (tables_1_4[b]? = some w)
  | 5 => decide (tables_1_5[b]? = some w)
  | 6 => decide (tables_1_6[b]? = some w)
  | _ => false
theorem zwd0_ok {a b : Nat} {w : Cond} (h : zwd0 a b w = true) : w ∈ lw_tbl := by
  unfold lw_tbl
  refine List.mem_append_right _ ?_
  unfold zwd0 at h
  unfold tables_1
  simp only [List.mem_append]
  split at h <;> first
    | (have h1 := List.mem_of_getElem? (of_decide_eq_true h); simp [h1]; done)
    | (cases h)
theorem yNs_in : ∀ w ∈ yNs, w ∈ lw_tbl := List.forall_mem_cons.mpr ⟨zwd0_ok (a := 1) (b := 23) (by decide +kernel), List.forall_mem_cons.mpr ⟨zwd0_ok (a := 1) (b := 29) (by decide +kernel), List.forall_mem_cons.mpr ⟨zwd0_ok (a := 1) (b := 90) (by decide +kernel), List.forall_mem_cons.mpr ⟨zwd0_ok (a := 1) (b := 171) (by decide +kernel), List.forall_mem_cons.mpr ⟨zwd0_ok (a := 1) (b := 197) (by decide +kernel), List.forall_mem_cons.mpr ⟨zwd0_ok (a := 1) (b := 232) (by decide +kernel), List.forall_mem_cons.mpr ⟨zwd0_ok (a := 2) (b := 199) (by decide +kernel), fun _ h => absurd h List.not_mem_nil⟩⟩⟩⟩⟩⟩⟩
set_option maxRecDepth 100000 in
set_option maxHeartbeats 20000000 in
theorem whole_of {p : Program} {e : Env} {s : State} {m : MethodId} {below : List Frame} {meth : Method} {c : Code} (l : Launch) {b L : Nat} {xs : Nat → Int32} (hL : L ≤ 3584) (C0 : lw_At p s m meth c b L xs) (hMs : ∀ (mm : Nat) (y : zMeth), zMs[mm]? = some y → zmok zMs y) (Rel : zS → zS → Prop) (hR0 : Rel yXX yXM) (h0 : ∀ (a1 : Int32) (a2 : Int32) (a3 : Int32), zSim Rel 82 133 [.inl a1, .inl a2, .inl a3]) (h1 : ∀ (a1 : Int32) (a2 : Int32) (a3 : Int64), zSim Rel 83 135 [.inl a1, .inl a2, .inr (.inl a3)]) (h2 : ∀ (a1 : Int32) (a2 : Int32) (a3 : Int32) (a4 : Int32) (a5 : Int32), zSim Rel 84 136 [.inl a1, .inl a2, .inl a3, .inl a4, .inl a5]) (h3 : ∀ (a1 : Int32) (a2 : Int32), zSimJ Rel 85 137 [.inl a1, .inl a2]) (h4 : ∀ (a1 : Int32) (a2 : Int32), zSim Rel 86 138 [.inl a1, .inl a2]) (h5 : ∀ (a1 : Int32), zSim Rel 87 139 [.inl a1]) (h6 : ∀ (a1 : Int32) (a2 : Int32), zSim Rel 88 140 [.inl a1, .inl a2]) (h7 : ∀ (a1 : Int32), zSim Rel 89 160 [.inl a1]) (h8 : zSim Rel 90 161 []) (h9 : ∀ (a1 : Int32) (a2 : Int32) (a3 : Int32) (a4 : Int32) (a5 : Int32), zSim Rel 91 149 [.inl a1, .inl a2, .inl a3, .inl a4, .inl a5]) (h10 : ∀ (a1 : Int32) (a2 : Int32) (a3 : Int32) (a4 : Int32) (a5 : Int32), zSim Rel 92 150 [.inl a1, .inl a2, .inl a3, .inl a4, .inl a5]) (h11 : ∀ (a1 : Int32) (a2 : Int32) (a3 : Int32), zSim Rel 93 163 [.inl a1, .inl a2, .inl a3]) (h12 : ∀ (a1 : Int32) (a2 : Int32) (a3 : Int32) (a4 : Int32), zSim Rel 94 164 [.inl a1, .inl a2, .inl a3, .inl a4]) (h13 : ∀ (a1 : Int32) (a2 : Int32), zSim Rel 95 166 [.inl a1, .inl a2]) (h14 : ∀ (a1 : Int32) (a2 : Int32), zSim Rel 96 171 [.inl a1, .inl a2]) (h15 : ∀ (a1 : Int32) (a2 : Int32), zSim Rel 97 172 [.inl a1, .inl a2]) (h16 : ∀ (a1 : Int32) (a2 : Int32), zSim Rel 98 173 [.inl a1, .inl a2]) (h17 : ∀ (a1 : Int32) (a2 : Int32), zSim Rel 99 174 [.inl a1, .inl a2]) (h18 : ∀ (a1 : Int32) (a2 : Int32), zSim Rel 100 175 [.inl a1, .inl a2]) (h19 : ∀ (a1 : Int32) (a2 : Int32) (a3 : Int32), zSim Rel 101 176 [.inl a1, .inl a2, .inl a3]) (h20 : ∀ (a1 : Int32) (a2 : Int32) (a3 : Int32), zSim Rel 102 189 [.inl a1, .inl a2, .inl a3]) (h21 : zSim Rel 103 190 []) (h22 : ∀ (a1 : Int32) (a2 : Int32) (a3 : Int32) (a4 : Int32), zSim Rel 104 192 [.inl a1, .inl a2, .inl a3, .inl a4]) (h23 : ∀ (a1 : Int32) (a2 : Int32) (a3 : Int32) (a4 : Int32) (a5 : Int32) (a6 : Int32), zSim Rel 105 194 [.inl a1, .inl a2, .inl a3, .inl a4, .inl a5, .inl a6]) (h24 : ∀ (a1 : Int32) (a2 : Int32), zSim Rel 106 195 [.inl a1, .inl a2]) (h25 : ∀ (a1 : Int32) (a2 : Int32) (a3 : Int32) (a4 : Int32) (a5 : Int32), zSim Rel 107 199 [.inl a1, .inl a2, .inl a3, .inl a4, .inl a5]) (h26 : ∀ (a1 : Int32) (a2 : Int32) (a3 : Int32), zSim Rel 108 200 [.inl a1, .inl a2, .inl a3]) (h27 : ∀ (a1 : Int32) (a2 : Int32) (a3 : Int32) (a4 : Int32), zSim Rel 109 201 [.inl a1, .inl a2, .inl a3, .inl a4]) (h28 : ∀ (a1 : Int32), zSim Rel 110 202 [.inl a1]) (h29 : ∀ (a1 : Int32) (a2 : Int32) (a3 : Int32) (a4 : Int32), zSim Rel 111 204 [.inl a1, .inl a2, .inl a3, .inl a4]) (h30 : ∀ (a1 : Int32), zSim Rel 112 207 [.inl a1]) (h31 : ∀ (a1 : Int32), zSim Rel 113 208 [.inl a1]) (h32 : zSim Rel 114 211 []) (h33 : zSim Rel 115 212 []) (h34 : ∀ (a1 : Int32), zSim Rel 116 214 [.inl a1]) : W p l e room_1 s m #[Value.ref b] below meth c s.heap [] 0 0 (lw_Z below #[Value.ref b] s) (entryFrame m ([Value.ref b] : List Value).toArray 4) := by
  obtain ⟨hx, hb, hr, hml, hown, hts0, hX, hbl, hlocks, hgv⟩ := id C0
  have hts : ∀ w ∈ zTb, w.before #[Value.ref b] s = true := fun w hw => hts0 w (List.mem_filter.mp hw).1
  have hA : ∀ q : Nat, s.heap.size ≤ q → (fun q : Nat => s.heap.size ≤ q) q := fun _ h => h
  obtain ⟨c0, iS0, hKn0⟩ := u_known (C := RX0) (T := TX0) (N := 4) (n := 4) hts zu_0 (hts (.instantiable RX0 4) (zwd_ok (a := 1) (b := 89) (by decide +kernel)))
  obtain ⟨c1, iS1, hKn1⟩ := u_known (C := RX1) (T := TX1) (N := 7) (n := 7) hts zu_1 (hts (.instantiable RX1 7) (zwd_ok (a := 1) (b := 196) (by decide +kernel)))
  obtain ⟨c2, iS2, hKn2⟩ := u_known (C := RX2) (T := TX2) (N := 6) (n := 6) hts zu_2 (hts (.instantiable RX2 6) (zwd_ok (a := 1) (b := 231) (by decide +kernel)))
  obtain ⟨c3, iS3, hKn3⟩ := u_known (C := RX3) (T := TX3) (N := 18) (n := 18) hts zu_3 (hts (.instantiable RX3 18) (zwd_ok (a := 1) (b := 22) (by decide +kernel)))
  obtain ⟨c4, iS4, hKn4⟩ := u_known (C := RX4) (T := TX4) (N := 3) (n := 3) hts zu_4 (hts (.instantiable RX4 3) (zwd_ok (a := 1) (b := 173) (by decide +kernel)))
  obtain ⟨c5, iS5, hKn5⟩ := u_known (C := RX5) (T := TX5) (N := 12) (n := 12) hts zu_5 (hts (.instantiable RX5 12) (zwd_ok (a := 1) (b := 28) (by decide +kernel)))
  obtain ⟨c6, iS6, hKn6⟩ := u_known (C := RX6) (T := TX6) (N := 11) (n := 11) hts zu_6 (hts (.instantiable RX6 11) (zwd_ok (a := 1) (b := 14) (by decide +kernel)))
  obtain ⟨c7, iS7, hKn7⟩ := u_known (C := RX7) (T := TX7) (N := 42) (n := 42) hts zu_7 (hts (.instantiable RX7 42) (zwd_ok (a := 4) (b := 132) (by decide +kernel)))
  obtain ⟨cI, hI1, hI2⟩ := arr_known (ty := .int) (fun C h => by cases h) (hts (.arrayClass .int) (zwd_ok (a := 1) (b := 87) (by decide +kernel)))
  obtain ⟨cJ, hJ1, hJ2⟩ := arr_known (ty := .long) (fun C h => by cases h) (hts (.arrayClass .long) (zwd_ok (a := 1) (b := 194) (by decide +kernel)))
  obtain ⟨dC, dI, hKc⟩ : ∃ (dC : Nat → ClassId) (dI : Nat → Nat → Nat), ∀ (k : Nat) (q : vw_C), vwCl[k]? = some q → u_Kn s q.1 q.2.1 q.2.2 (dC k) (dI k) := by
    refine ⟨fun k => match k with
      | 0 => c0
      | 1 => c1
      | 2 => c2
      | 3 => c3
      | 4 => c4
      | 5 => c5
      | 6 => c6
      | _ => c7, fun k => match k with
      | 0 => iS0
      | 1 => iS1
      | 2 => iS2
      | 3 => iS3
      | 4 => iS4
      | 5 => iS5
      | 6 => iS6
      | _ => iS7, ?_⟩
    intro k q hq
    match k, hq with
    | 0, hq => cases hq; exact hKn0
    | 1, hq => cases hq; exact hKn1
    | 2, hq => cases hq; exact hKn2
    | 3, hq => cases hq; exact hKn3
    | 4, hq => cases hq; exact hKn4
    | 5, hq => cases hq; exact hKn5
    | 6, hq => cases hq; exact hKn6
    | 7, hq => cases hq; exact hKn7
    | k + 8, hq => simp [vwCl] at hq
  have hK : va_K (dC, dI) vwCl [(cI, .int), (cJ, .long)] s := by
    refine ⟨hKc, fun k q h => ?_⟩
    match k, h with
    | 0, h => cases h; exact ⟨hI1, hI2⟩
    | 1, h => cases h; exact ⟨hJ1, hJ2⟩
    | k + 2, h => simp at h
  have hN : yNk s := fun w hw => by
    have h1 := hts0 w (yNs_in w hw)
    have h2 : w.onTables = true := by
      have : (yNs.all (fun w => w.onTables)) = true := by decide +kernel
      exact List.all_eq_true.mp this w hw
    exact va_Nw.of h2 h1
  have hfill : ∀ (d : Nat) (ad1 : Nat → Nat) (x : Int32) (τ : zS), 0 < d → zMet l (dC, dI) cI cJ ad1 [.inl 8] (zrm d) zI_J_fill2 [.inr (.inr 0), .inl x] τ (none, yfill τ 0 8 x) := by
    intro d ad1 x τ hd
    obtain ⟨d, rfl⟩ : ∃ d', d = d' + 1 := ⟨d - 1, by omega⟩
    obtain ⟨y, hy, -, hM⟩ := zcall_ok (l := l) (D := (dC, dI)) (cI := cI) (cJ := cJ) (ad := ad1) hMs (d + 1) 220 _ τ _ (zfill8 d x τ)
    cases hy
    exact hM
  have hS : va_S (fun q : Nat => s.heap.size ≤ q) s.heap s.heap [] := va_S.rf
  have hP : va_P (dC, dI) vwCl [] s.heap := fun k q h => by simp at h
  have hD : va_D (fun q : Nat => s.heap.size ≤ q) [] := ⟨fun i j p q h => by simp at h, fun k q h => by simp at h⟩
  have hl := lv_entry ([.ref b]) (n := 4) (Nat.le_of_ble_eq_true rfl)
  rw [lg_entry_eq]
  generalize (lg_sl ([.ref b]) ++ List.replicate (4 - (lg_sl ([.ref b])).length) Slot.unset).toArray = ls at hl ⊢
  have hl : lv_has ls 4 [(0, .ref b)] := hl
  refine lw_make (mm := 6) (ci := 6) (N := 11) (a1 := 1) (a2 := 13) (b1 := 1) (b2 := 14) (c1 := 1) (c2 := 1) (e1 := 1) (e2 := 15) (y := yI_ProtoOrders) (bits := [1, 1, 1, 1, 1, 1, 1, 0, 0, 0, 0]) (sk := skX) (q3 := (RX6, TX6, 11)) (ws := []) (pc := 0) yMs_ok (hMs _ _ (show zMs[220]? = some zI_J_fill2 from rfl)) hfill hx hb hml hown hts hK hN hA yrunX rfl rfl rfl rfl (by decide +kernel) (by decide +kernel) (by decide +kernel) (by decide +kernel) rfl (by decide +kernel) (by decide) (by decide) hl.1 dL_law_0 dL_law_3 dL_law_4 hP hD hS ?_
  intro H1 locs1 adX _ hPX hDX _ hS1
  refine lv_astore_n (lv' := [(1, .ref (adX 0)), (0, .ref b)]) hx hb dL_law_7 rfl hl (by decide) rfl (fun ls hl => ?_)
  refine lw_make (mm := 7) (ci := 7) (N := 42) (a1 := 4) (a2 := 131) (b1 := 4) (b2 := 132) (c1 := 1) (c2 := 9) (e1 := 4) (e2 := 133) (y := yI_ProtoOrdersModel) (bits := [0, 1, 1, 1, 1, 1, 1, 1, 1, 1, 0, 1, 0, 1, 1, 1, 0, 0, 0, 0, 0, 1, 1, 1, 1, 1, 1, 0, 0, 0, 0, 0, 0, 0, 1, 1, 1, 1, 0, 0, 1, 1]) (sk := skM) (q3 := (RX7, TX7, 42)) (ws := (zW cI cJ adX skX yXX)) (pc := 8) yMs_ok (hMs _ _ (show zMs[220]? = some zI_J_fill2 from rfl)) hfill hx hb hml hown hts hK hN hA yrunM rfl rfl rfl rfl (by decide +kernel) (by decide +kernel) (by decide +kernel) (by decide +kernel) rfl (by decide +kernel) (by decide) (by decide) hl.1 dL_law_8 dL_law_11 dL_law_12 hPX hDX hS1 ?_
  intro H2 locs2 adM hPX hPM hDM hap hS2
  refine lv_astore_n (lv' := [(2, .ref (adM 0)), (1, .ref (adX 0)), (0, .ref b)]) hx hb dL_law_15 rfl hl (by decide) rfl (fun ls hl => ?_)
  refine lv_iconst (v := nI 0) hx hb dL_law_16 (by decide) ?_
  refine lv_istore_n (lv' := [(3, .int (nI 0)), (2, .ref (adM 0)), (1, .ref (adX 0)), (0, .ref b)]) hx hb dL_law_17 rfl hl (by decide) rfl (fun ls hl => ?_)
  refine W.widen (k := 600000) (n := 7302250) (by decide) (by decide) ?_
  exact lw_loop (D := (dC, dI)) (cI := cI) (cJ := cJ) (adX := adX) (adM := adM) (Rel := Rel) (xs := xs) (L := L) ⟨hMs, hx, hb, hml, hown, hts, hK, hN.zNk, hX, hbl, hL, fun i hi j hj => hap i _ (zW_get (List.getElem?_eq_getElem hi)) j hj, hr, hlocks⟩ h0 h1 h2 h3 h4 h5 h6 h7 h8 h9 h10 h11 h12 h13 h14 h15 h16 h17 h18 h19 h20 h21 h22 h23 h24 h25 h26 h27 h28 h29 h30 h31 h32 h33 h34 (L + 8) 0 yXX yXM (by omega) (by omega) hR0 H2 locs2 ls hPX hPM hDX hDM hS2 (lv_sub hl [3, 2, 1, 0] rfl)
