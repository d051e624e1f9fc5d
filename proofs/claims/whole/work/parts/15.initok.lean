section YST
variable {p : Program} {l : Launch} {e : Env} {s : State} {m : MethodId} {args : Array Value} {below : List Frame} {meth : Method} {c : Code} {cc : ByteArray} {A : Nat → Prop} {D : va_G} {cI cJ : ClassId} {ad0 : Nat → Nat} {L0 CT NT : Nat} {own : String} {nL : Nat} {Ms : List zMeth} {C : Nat → Nat → yS → yR} {T : zT} {d : Nat} {K : yK} {S' : yS}
def yAt (p : Program) (l : Launch) (e : Env) (R : Room) (s : State) (m : MethodId) (args : Array Value) (below : List Frame) (meth : Method) (c : Code) (A : Nat → Prop) (D : va_G) (cI cJ : ClassId) (nL : Nat) (ad0 : Nat → Nat) (L0 : Nat) (Q : State → Prop) (pc : Nat) (lo : zL) (k : List zV) (S : yS) (c0 n0 : Nat) : Prop :=
  ∀ (H : Heap) (locs : List Loc) (ls : Array Slot) (ad : Nat → Nat), va_P D vwCl (yW cI cJ ad S) H → va_D A (yW cI cJ ad S) → va_S A s.heap H locs → zloc ad nL lo ls → (∀ j, j < L0 → ad j = ad0 j) → W p l e R s m args below meth c H locs c0 n0 Q (F0 m pc ls (k.map (zc ad)))
theorem yP_set {ad : Nat → Nat} {S S2 : yS} {q : Nat} {e0 e1 : yE} {H : Heap} {x : va_E} (hq : S.1[q]? = some e0) (h1 : S2.1 = S.1.set q e1) (ho : ∀ k e', k ≠ q → ycell cI cJ ad S2.2 k e' = ycell cI cJ ad S.2 k e') (hx : x = ycell cI cJ ad S2.2 q e1) (h : va_P D vwCl ((yW cI cJ ad S).set q (ad q, x)) H) : va_P D vwCl (yW cI cJ ad S2) H := by
  subst hx
  rwa [yW_set hq h1 ho] at h
theorem yD_set {ad : Nat → Nat} {S S2 : yS} {q : Nat} {e0 e1 : yE} {x : va_E} (hq : S.1[q]? = some e0) (h1 : S2.1 = S.1.set q e1) (ho : ∀ k e', k ≠ q → ycell cI cJ ad S2.2 k e' = ycell cI cJ ad S.2 k e') (hx : x = ycell cI cJ ad S2.2 q e1) (h : va_D A ((yW cI cJ ad S).set q (ad q, x))) : va_D A (yW cI cJ ad S2) := by
  subst hx
  rwa [yW_set hq h1 ho] at h
theorem yD_any {B : Nat → Prop} {ad : Nat → Nat} {S S2 : yS} (h1 : S2.1 = S.1) (h : va_D B (yW cI cJ ad S)) : va_D B (yW cI cJ ad S2) := by
  have key : ∀ (k : Nat) (q : Nat × va_E), (yW cI cJ ad S2)[k]? = some q → ∃ q', (yW cI cJ ad S)[k]? = some q' ∧ q'.1 = q.1 := by
    intro k q hk
    simp only [yW, List.getElem?_mapIdx] at hk ⊢
    rw [h1] at hk
    cases hs : S.1[k]? with
    | none => rw [hs] at hk; cases hk
    | some e' => rw [hs] at hk; cases hk; exact ⟨_, rfl, rfl⟩
  refine ⟨fun i j p q hi hj hpq => ?_, fun k q hk => ?_⟩
  · obtain ⟨p', h1, h2⟩ := key i p hi
    obtain ⟨q', h3, h4⟩ := key j q hj
    exact h.1 i j p' q' h1 h3 (by rw [h2, h4]; exact hpq)
  · obtain ⟨q', h1, h2⟩ := key k q hk
    rw [← h2]
    exact h.2 k q' h1
theorem yset_self {S : yS} {q : Nat} {e0 : yE} (h : S.1[q]? = some e0) : S.1 = S.1.set q e0 := by
  apply List.ext_getElem?
  intro k
  by_cases hk : k = q
  · subst hk
    rw [List.getElem?_set_self (List.getElem?_eq_some_iff.mp h).1, h]
  · rw [List.getElem?_set_ne (Ne.symm hk)]
def yup (ad : Nat → Nat) (n a : Nat) : Nat → Nat := fun j => if j = n then a else ad j
theorem yup_lt {ad : Nat → Nat} {n a : Nat} : ∀ j, j < n → yup ad n a j = ad j := fun j hj => by
  simp [yup, Nat.ne_of_lt hj]
theorem yup_eq {ad : Nat → Nat} {n a : Nat} : yup ad n a n = a := by simp [yup]
theorem yzero_lt {σ : zS} {n : Nat} : ∀ k, k < n → (yzero σ n).1 k = σ.1 k ∧ (yzero σ n).2 k = σ.2 k := fun k hk => by
  constructor <;> (funext j; simp [yzero, Nat.ne_of_lt hk])
theorem yraw_get {bs : List Nat} {j : Nat} : (yraw bs)[j]? = (bs[j]?).map (fun b => match b with
    | 0 => none
    | _ => some none) := by
  unfold yraw
  rw [List.getElem?_map]
  rfl
set_option maxHeartbeats 20000000 in
set_option maxRecDepth 100000 in
theorem ystep_ok {i : Instr} {v : Int32} {aux : List Nat} {es : zT} {pc : Nat} {lo : zL} {k : List zV} {S : yS} {c0 n0 cr nr : Nat}
    (hx : p.tables.exec = Jvm.exec) (hb : c.code = cc) (hr : meth.sig.returnType = none) (hml : c.maxLocals = nL) (hown : s.vm.findClass own = some m.cls) (hin : meth.name = "<init>") (hts : ∀ w ∈ zTb, w.before args s = true) (hlocks : meth.locks = false) (hK : va_K D vwCl [(cI, .int), (cJ, .long)] s) (hN : yNk s) (hA : ∀ q : Nat, s.heap.size ≤ q → A q)
    (hC : ∀ mm q S0 r, C mm q S0 = some r → ∃ y, Ms[mm]? = some y ∧ ymok Ms y ∧ yMet l D cI cJ d y q S0 r.1 r.2.1 r.2.2)
    (hfy : zmok zMs zI_J_fill2) (hfill : ∀ (ad1 : Nat → Nat) (x : Int32) (τ : zS), zMet l D cI cJ ad1 [.inl 8] (zrm d) zI_J_fill2 [.inr (.inr 0), .inl x] τ (none, yfill τ 0 8 x))
    (hgo : ∀ (e' : zEnt) (es' : zT) (lo' : zL) (k' : List zV) (S2 : yS) (c1 n1 c2 n2 : Nat), (es = e' :: es' ∨ ∃ a, T.drop a = e' :: es') → K (e' :: es') lo' k' S2 = some (S', c2, n2) → L0 ≤ S2.1.length → c1 + c2 = CT → n1 + n2 = NT → yAt p l e (yrm (d + 1) CT NT) s m args below meth c A D cI cJ nL ad0 L0 (MQ below (yQ D cI cJ ad0 L0 S' A) args s CT NT A) e'.1 lo' k' S2 c1 n1)
    (hs : yspec Ms own cc nL T pc i v aux es = true) (h : ystep C T K i v aux es lo k S = some (S', cr, nr)) (hL : L0 ≤ S.1.length) (hc : c0 + cr = CT) (hn : n0 + nr = NT) : yAt p l e (yrm (d + 1) CT NT) s m args below meth c A D cI cJ nL ad0 L0 (MQ below (yQ D cI cJ ad0 L0 S' A) args s CT NT A) pc lo k S c0 n0 := by
  have fall : ∀ {pc' : Nat} {lo' : zL} {k' : List zV} {S2 : yS} {c1 n1 c2 n2 : Nat}, zfall es pc' = true → K es lo' k' S2 = some (S', c2, n2) → L0 ≤ S2.1.length → c1 + c2 = CT → n1 + n2 = NT → yAt p l e (yrm (d + 1) CT NT) s m args below meth c A D cI cJ nL ad0 L0 (MQ below (yQ D cI cJ ad0 L0 S' A) args s CT NT A) pc' lo' k' S2 c1 n1 := by
    intro pc' lo' k' S2 c1 n1 c2 n2 hf hk h1 h2 h3
    obtain ⟨e', es', he, hpc⟩ := zfall_ok hf
    rw [← hpc]
    exact hgo e' es' lo' k' S2 c1 n1 c2 n2 (Or.inl he) (he ▸ hk) h1 h2 h3
  have jump : ∀ {a : Nat} {off : Int}, ztgt T a pc off = true → ∃ tgt : Nat, (pc : Int) + off = (tgt : Int) ∧ ∀ {lo' : zL} {k' : List zV} {S2 : yS} {c1 n1 c2 n2 : Nat}, K (T.drop a) lo' k' S2 = some (S', c2, n2) → L0 ≤ S2.1.length → c1 + c2 = CT → n1 + n2 = NT → yAt p l e (yrm (d + 1) CT NT) s m args below meth c A D cI cJ nL ad0 L0 (MQ below (yQ D cI cJ ad0 L0 S' A) args s CT NT A) tgt lo' k' S2 c1 n1 := by
    intro a off ht
    obtain ⟨e', es', he, hpc⟩ := ztgt_ok ht
    exact ⟨e'.1, hpc, fun {lo' k' S2 c1 n1 c2 n2} hk => hgo e' es' lo' k' S2 c1 n1 c2 n2 (Or.inr ⟨a, he⟩) (he ▸ hk)⟩
  cases i with
  | aload_n i0 =>
    simp only [yspec, Bool.and_eq_true, decide_eq_true_eq] at hs
    simp only [ystep] at h
    split at h
    · next x hv =>
        intro H locs ls ad hP hD hS hl ha
        exact lv_aload_n hx hb (zdec_ok hs.1) rfl (hl.2.2 _ _ hv) (fall hs.2 h hL hc hn H locs ls ad hP hD hS hl ha)
    · cases h
  | iload_n i0 =>
    simp only [yspec, Bool.and_eq_true, decide_eq_true_eq] at hs
    simp only [ystep] at h
    split at h
    · next x hv =>
        intro H locs ls ad hP hD hS hl ha
        exact lv_iload_n hx hb (zdec_ok hs.1) rfl (hl.2.2 _ _ hv) (fall hs.2 h hL hc hn H locs ls ad hP hD hS hl ha)
    · cases h
  | iconst n =>
    simp only [yspec, Bool.and_eq_true, decide_eq_true_eq] at hs
    simp only [ystep] at h
    intro H locs ls ad hP hD hS hl ha
    exact lv_iconst hx hb (zdec_ok hs.1.1) hs.2 (fall hs.1.2 h hL hc hn H locs ls ad hP hD hS hl ha)
  | bipush n =>
    simp only [yspec, Bool.and_eq_true, decide_eq_true_eq] at hs
    simp only [ystep] at h
    intro H locs ls ad hP hD hS hl ha
    exact lv_bipush hx hb (zdec_ok hs.1.1) hs.2 (fall hs.1.2 h hL hc hn H locs ls ad hP hD hS hl ha)
  | sipush n =>
    simp only [yspec, Bool.and_eq_true, decide_eq_true_eq] at hs
    simp only [ystep] at h
    intro H locs ls ad hP hD hS hl ha
    exact lv_sipush hx hb (zdec_ok hs.1.1) hs.2 (fall hs.1.2 h hL hc hn H locs ls ad hP hD hS hl ha)
  | istore_n i0 =>
    simp only [yspec, Bool.and_eq_true, decide_eq_true_eq] at hs
    simp only [ystep] at h
    split at h
    · next x k' =>
        obtain ⟨hf, h⟩ := ygd_inv h
        intro H locs ls ad hP hD hS hl ha
        exact lv_istore_n hx hb (zdec_ok hs.1.1) rfl hl.has hs.2 rfl (fun ls' hl' => fall hs.1.2 h hL hc hn H locs ls' ad hP hD hS (zloc_set hl hf hl') ha)
    · cases h
  | iinc i0 n =>
    simp only [yspec, Bool.and_eq_true, decide_eq_true_eq] at hs
    simp only [ystep] at h
    split at h
    · next x hx1 =>
        have h' := ygd_inv h
        clear h
        obtain ⟨hf, h⟩ := h'
        intro H locs ls ad hP hD hS hl ha
        obtain ⟨j, hj⟩ := List.getElem?_of_mem (zas_mem (ad := ad).mpr ⟨_, hx1, rfl⟩ : ((i0, zc ad (.inl x)) : Nat × Value) ∈ zas ad lo)
        exact lv_iinc (v := x + v) hx hb (zdec_ok hs.1.1.1) hl.has (k := j) hj (by rw [hs.1.2]) hs.2 rfl (fun ls' hl' => fall hs.1.1.2 h hL hc hn H locs ls' ad hP hD hS (zloc_set hl hf hl') ha)
    · cases h
  | if_icmp c9 off =>
    cases c9 with
    | ge =>
      simp only [yspec, Bool.and_eq_true, decide_eq_true_eq] at hs
      simp only [ystep] at h
      obtain ⟨⟨h1, h2⟩, h3⟩ := hs
      split at h
      · next y x k' a as =>
          obtain ⟨tgt, ht, hj⟩ := jump h3
          intro H locs ls ad hP hD hS hl ha
          refine lv_icmp_ge hx hb (zdec_ok h1) ht (fun hcnd => ?_) (fun hcnd => ?_)
          · rw [if_pos hcnd] at h
            exact hj h hL hc hn H locs ls ad hP hD hS hl ha
          · rw [if_neg hcnd] at h
            exact fall h2 h hL hc hn H locs ls ad hP hD hS hl ha
      · cases h
    | _ => exact absurd (show (none : yR) = some (S', cr, nr) from h) (by intro h9; cases h9)
  | goto off =>
    simp only [yspec, Bool.and_eq_true, decide_eq_true_eq] at hs
    simp only [ystep] at h
    obtain ⟨h1, h2⟩ := hs
    split at h
    · next a as =>
        obtain ⟨tgt, ht, hj⟩ := jump h2
        intro H locs ls ad hP hD hS hl ha
        exact lv_goto hx hb (zdec_ok h1) ht (hj h hL hc hn H locs ls ad hP hD hS hl ha)
    · cases h
  | dup =>
    simp only [yspec, Bool.and_eq_true, decide_eq_true_eq] at hs
    simp only [ystep] at h
    split at h
    · intro H locs ls ad hP hD hS hl ha
      exact lv_dup hx hb (zdec_ok hs.1) rfl (fall hs.2 h hL hc hn H locs ls ad hP hD hS hl ha)
    · cases h
  | new x0 =>
    simp only [yspec, Bool.and_eq_true, decide_eq_true_eq] at hs
    simp only [ystep] at h
    obtain ⟨⟨h1, h2⟩, h3⟩ := hs
    split at h
    · next ci N a1 a2 b1 b2 c1 c2 bs =>
        have h' := ygd_inv h
        clear h
        obtain ⟨hy, h⟩ := h'
        obtain ⟨S2, ca, na, hk, hr2⟩ := yadd_inv h
        simp only [Prod.mk.injEq] at hr2
        obtain ⟨rfl, rfl, rfl⟩ := hr2
        dsimp only at h3
        split at h3
        · next q hq =>
            simp only [Bool.and_eq_true, decide_eq_true_eq] at h3
            obtain ⟨⟨⟨⟨⟨g1, g2⟩, g3⟩, g4⟩, g5⟩, g6⟩ := h3
            obtain ⟨i1, i2, i3⟩ := yin_inv hy
            obtain ⟨hu, ty, hty, hnm⟩ := ztbl_in ci q hq
            intro H locs ls ad hP hD hS hl ha
            subst g1
            refine va_new (D := D) (cl := vwCl) (C := q.1) (T := q.2.1) (N := q.2.2) (ci := ci) (fs := yfs (yup ad S.1.length H.size) (yzero S.2 S.1.length) S.1.length (yraw bs)) hx hb hts hu ty hty hown (hts _ (zwd_ok g2)) (hts _ (zwd_ok g3)) (hts _ (zwd_ok g4)) hK hP hD hS hA hq ?_ ?_ ?_ (zdec_ok h1) (fun q1 H1 hP1 hD1 hS1 => ?_)
            · intro j hj
              have hjb : j < bs.length := by omega
              have hbj : bs[j]? = some bs[j] := List.getElem?_eq_getElem hjb
              have hd := ybits_ok bs 0 j bs[j] (ty j) g6 hbj (by rw [Nat.zero_add]; exact hty j hj)
              have hf : (yfs (yup ad S.1.length H.size) (yzero S.2 S.1.length) S.1.length (yraw bs))[j]? = some (if bs[j] = 0 then Value.int 0 else Value.null) := by
                rw [yfs_get (o := (match bs[j] with
                  | 0 => none
                  | _ => some none)) (by rw [yraw_get, hbj]; rfl)]
                cases hb0 : bs[j] with
                | zero => simp [yfv, yzero]
                | succ z => simp [yfv]
              rw [hd, vp_V, List.getD_eq_getElem?_getD, hf]
              rfl
            · show c0 + 1 ≤ CT
              omega
            · show n0 + q.2.2 ≤ NT
              omega
            · have hx2 : ∀ a, (Sum.inr (ci, yfs (yup ad S.1.length H.size) (yzero S.2 S.1.length) S.1.length (yraw bs)) : va_E) = ycell cI cJ (yup ad S.1.length a) (yzero S.2 S.1.length) S.1.length (.inr (.inr (ci, yraw bs))) := by
                intro a
                simp only [ycell, Sum.inr.injEq, Prod.mk.injEq, true_and]
                apply List.ext_getElem?
                intro j
                simp only [yfs, List.getElem?_mapIdx, yraw_get]
                cases bs[j]? with
                | none => rfl
                | some z => cases z <;> rfl
              have e1 := yW_push (cI := cI) (cJ := cJ) (ad := ad) (ad' := yup ad S.1.length q1) (S := S) (σ' := yzero S.2 S.1.length) (a := q1) i3 yup_lt yup_eq yzero_lt (hx2 q1)
              rw [e1] at hP1 hD1
              have hz := fall (c1 := c0 + 1) (n1 := n0 + q.2.2) h2 hk (by simp only [List.length_append, List.length_cons, List.length_nil]; omega) (by omega) (by omega) H1 locs ls (yup ad S.1.length q1) hP1 hD1 hS1 (zloc_ad i1 yup_lt hl) (fun j hj => by rw [yup_lt j (by omega)]; exact ha j hj)
              have ek : (List.map (zc (yup ad S.1.length q1)) (.inr (.inr S.1.length) :: k)) = Value.ref q1 :: k.map (zc ad) := by
                rw [List.map_cons, zcs_ad i2 yup_lt]
                simp only [zc, yup_eq]
              rw [ek] at hz
              exact hz
        · cases h3
    · cases h
  | newarray t0 =>
    simp only [yspec, Bool.and_eq_true, decide_eq_true_eq] at hs
    simp only [ystep] at h
    obtain ⟨⟨h1, h2⟩, h3⟩ := hs
    split at h3
    · next a1 a2 as =>
      split at h
      · next n k' =>
        split at h
        · skip
          have h' := ygd_inv h
          clear h
          obtain ⟨hy, h⟩ := h'
          split at h
          · cases h
          · next hb2 =>
              simp only [not_or] at hb2
              obtain ⟨S2, ca, na, hk, hr2⟩ := yadd_inv h
              simp only [Prod.mk.injEq] at hr2
              obtain ⟨rfl, rfl, rfl⟩ := hr2
              obtain ⟨i1, i2, i3⟩ := yin_inv hy
              intro H locs ls ad hP hD hS hl ha
              refine va_newa (D := D) (cl := vwCl) (atype := .int) (ty := .int) (N' := n.toNatClampNeg) (a0 := (n.toNatClampNeg, .inl (fun _ => 0))) hx hb (hts _ (zwd_ok h3)) rfl hK hP hD hS hA (fun cA => rfl) hb2.1 rfl (by simp only [componentBytes]; omega) (by show c0 + 1 ≤ CT; omega) (by show n0 + n.toNatClampNeg ≤ NT; omega) (zdec_ok h1) (fun q1 cA H1 hK1 hP1 hD1 hS1 => ?_)
              have hcA : cA = cI := by
                have r1 := (hK1.2 2 (cA, .int) rfl).2
                have r2 := (hK1.2 0 (cI, .int) rfl).2
                exact Option.some.inj (r1.symm.trans r2)
              subst hcA
              have hx2 : (Sum.inl (cA, n.toNatClampNeg, .inl (fun _ => 0)) : va_E) = ycell cA cJ (yup ad S.1.length q1) (yzero S.2 S.1.length) S.1.length (.inl n.toNatClampNeg) := by
                simp only [ycell]
                rw [show (fun _ => (0 : Int32)) = (yzero S.2 S.1.length).1 S.1.length from by funext j; simp [yzero]]
              have e1 := yW_push (ad := ad) (ad' := yup ad S.1.length q1) (S := S) (σ' := yzero S.2 S.1.length) (a := q1) i3 yup_lt yup_eq yzero_lt hx2
              rw [e1] at hP1 hD1
              have hz := fall (c1 := c0 + 1) (n1 := n0 + n.toNatClampNeg) h2 hk (by simp only [List.length_append, List.length_cons, List.length_nil]; omega) (by omega) (by omega) H1 locs ls (yup ad S.1.length q1) hP1 hD1 hS1 (zloc_ad i1 yup_lt hl) (fun j hj => by rw [yup_lt j (by omega)]; exact ha j hj)
              have ek : (List.map (zc (yup ad S.1.length q1)) (.inr (.inr S.1.length) :: k')) = Value.ref q1 :: k'.map (zc ad) := by
                have i2' : k'.all (yinV S.1.length) = true := i2
                rw [List.map_cons, zcs_ad i2' yup_lt]
                simp only [zc, yup_eq]
              rw [ek] at hz
              exact hz
        · skip
          have h' := ygd_inv h
          clear h
          obtain ⟨hy, h⟩ := h'
          split at h
          · cases h
          · next hb2 =>
              simp only [not_or] at hb2
              obtain ⟨S2, ca, na, hk, hr2⟩ := yadd_inv h
              simp only [Prod.mk.injEq] at hr2
              obtain ⟨rfl, rfl, rfl⟩ := hr2
              obtain ⟨i1, i2, i3⟩ := yin_inv hy
              intro H locs ls ad hP hD hS hl ha
              refine va_newa (D := D) (cl := vwCl) (atype := .long) (ty := .long) (N' := n.toNatClampNeg) (a0 := (n.toNatClampNeg, .inr (.inl (fun _ => 0)))) hx hb (hts _ (zwd_ok h3)) rfl hK hP hD hS hA (fun cA => rfl) hb2.1 rfl (by simp only [componentBytes]; omega) (by show c0 + 1 ≤ CT; omega) (by show n0 + n.toNatClampNeg ≤ NT; omega) (zdec_ok h1) (fun q1 cA H1 hK1 hP1 hD1 hS1 => ?_)
              have hcA : cA = cJ := by
                have r1 := (hK1.2 2 (cA, .long) rfl).2
                have r2 := (hK1.2 1 (cJ, .long) rfl).2
                exact Option.some.inj (r1.symm.trans r2)
              subst hcA
              have hx2 : (Sum.inl (cA, n.toNatClampNeg, .inr (.inl (fun _ => 0))) : va_E) = ycell cI cA (yup ad S.1.length q1) (yzero S.2 S.1.length) S.1.length (.inr (.inl n.toNatClampNeg)) := by
                simp only [ycell]
                rw [show (fun _ => (0 : Int64)) = (yzero S.2 S.1.length).2 S.1.length from by funext j; simp [yzero]]
              have e1 := yW_push (ad := ad) (ad' := yup ad S.1.length q1) (S := S) (σ' := yzero S.2 S.1.length) (a := q1) i3 yup_lt yup_eq yzero_lt hx2
              rw [e1] at hP1 hD1
              have hz := fall (c1 := c0 + 1) (n1 := n0 + n.toNatClampNeg) h2 hk (by simp only [List.length_append, List.length_cons, List.length_nil]; omega) (by omega) (by omega) H1 locs ls (yup ad S.1.length q1) hP1 hD1 hS1 (zloc_ad i1 yup_lt hl) (fun j hj => by rw [yup_lt j (by omega)]; exact ha j hj)
              have ek : (List.map (zc (yup ad S.1.length q1)) (.inr (.inr S.1.length) :: k')) = Value.ref q1 :: k'.map (zc ad) := by
                have i2' : k'.all (yinV S.1.length) = true := i2
                rw [List.map_cons, zcs_ad i2' yup_lt]
                simp only [zc, yup_eq]
              rw [ek] at hz
              exact hz
        · cases h
      · cases h
    · cases h3
  | getfield x0 =>
    simp only [yspec, Bool.and_eq_true, decide_eq_true_eq] at hs
    simp only [ystep] at h
    obtain ⟨⟨h1, h2⟩, h3⟩ := hs
    split at h
    · next ci j as =>
      split at h
      · next q k' =>
        split at h
        · next c9 fs hq =>
          have h' := ygd_inv h
          clear h
          obtain ⟨hb9, h⟩ := h'
          have := Nat.eq_of_beq_eq_true hb9
          subst this
          split at h
          · next r hj =>
            split at h3
            · next ci' j' a1 a2 as' heq =>
              cases heq
              split at h3
              · next q3 hq3 =>
                simp only [Bool.and_eq_true, decide_eq_true_eq] at h3
                obtain ⟨⟨g1, g2⟩, g3⟩ := h3
                intro H locs ls ad hP hD hS hl ha
                have hv := yfs_get (ad := ad) (σ := S.2) (k := q) hj
                exact va_get (D := D) (cl := vwCl) (C := q3.1) (T := q3.2.1) (N := q3.2.2) hx hb hts (ztbl_in _ q3 hq3).1 hown hK hP q (yW_get hq) hq3 j g1 (hts _ (zwd_ok g3)) (fun z hz => by rw [g2] at hz; exact hz) hv (zdec_ok h1) (fall h2 h hL hc hn H locs ls ad hP hD hS hl ha)
              · cases h3
            · cases h3
          · cases h
        · cases h
      · cases h
    · cases h
  | putfield x0 =>
    simp only [yspec, Bool.and_eq_true, decide_eq_true_eq] at hs
    simp only [ystep] at h
    obtain ⟨⟨h1, h2⟩, h3⟩ := hs
    split at h
    · next ci j bk as =>
      split at h3
      · next ci' j' bk' a1 a2 as' heq =>
        cases heq
        split at h3
        · next q3 hq3 =>
          simp only [Bool.and_eq_true, decide_eq_true_eq] at h3
          obtain ⟨⟨⟨⟨g1, g2⟩, g3⟩, g4⟩, g5⟩ := h3
          have hlink := hts _ (zwd_ok g4)
          obtain ⟨ty0, hty, hnm⟩ := (ztbl_in ci q3 hq3).2
          split at h
          · next x q k' =>
            split at h
            · next c9 fs hq =>
              have h' := ygd_inv h
              clear h
              obtain ⟨hb9, h⟩ := h'
              simp only [Bool.and_eq_true] at hb9
              have := Nat.eq_of_beq_eq_true hb9.1
              subst this
              have := Nat.eq_of_beq_eq_true hb9.2
              subst this
              simp only [Bool.and_eq_true, decide_eq_true_eq] at g5
              split at h
              · next hj =>
                intro H locs ls ad hP hD hS hl ha
                have hv := yfs_get (ad := ad) (σ := S.2) (k := q) hj
                have hx2 : (Sum.inr (c9, (yfs ad S.2 q fs).set j (.int x)) : va_E) = ycell cI cJ ad (zs S.2 q j x) q (.inr (.inr (c9, fs))) := by
                  rw [yfs_seti hj]
                  rfl
                refine va_put (D := D) (cl := vwCl) (C := q3.1) (T := q3.2.1) (N := q3.2.2) (v := .int x) (ty := .int) hx hb hts (ztbl_in _ q3 hq3).1 ty0 hty hnm hown hK hP hD hS q (yW_get hq) hq3 j g1 hlink (fun z hz => by rw [g2] at hz; exact hz) g5.1 (by rw [g5.2]; decide +kernel) rfl rfl (List.getElem?_eq_some_iff.mp hv).1 (zdec_ok h1) (fun H1 locs1 hP1 hD1 hS1 => ?_)
                exact fall (S2 := (S.1, zs S.2 q j x)) h2 h hL hc hn H1 locs1 ls ad (yP_set (S2 := (S.1, zs S.2 q j x)) hq (yset_self hq) (fun k e' hk => ycell_zs k e' hk) hx2 hP1) (yD_set (S2 := (S.1, zs S.2 q j x)) hq (yset_self hq) (fun k e' hk => ycell_zs k e' hk) hx2 hD1) hS1 hl ha
              · cases h
            · cases h
          · next r q k' =>
            split at h
            · next c9 fs hq =>
              have h' := ygd_inv h
              clear h
              obtain ⟨hb9, h⟩ := h'
              simp only [Bool.and_eq_true] at hb9
              have := Nat.eq_of_beq_eq_true hb9.1
              subst this
              have := Nat.eq_of_beq_eq_true hb9.2
              subst this
              simp only [Bool.and_eq_true, decide_eq_true_eq] at g5
              split at h
              · next o hj =>
                intro H locs ls ad hP hD hS hl ha
                have hv := yfs_get (ad := ad) (σ := S.2) (k := q) hj
                obtain ⟨ty, hd, hnf⟩ := yref_ok g5.2
                have hx2 : (Sum.inr (c9, (yfs ad S.2 q fs).set j (.ref (ad r))) : va_E) = ycell cI cJ ad S.2 q (.inr (.inr (c9, fs.set j (some (some r))))) := by
                  rw [yfs_setr hj]
                  rfl
                refine va_putF (D := D) (cl := vwCl) (C := q3.1) (T := q3.2.1) (N := q3.2.2) (v := .ref (ad r)) (ty := ty) hx hb hts (ztbl_in _ q3 hq3).1 ty0 hty hnm hown hK hP hD hS q (yW_get hq) hq3 j g1 hlink (fun z hz => by rw [g2] at hz; exact hz) g5.1 hin (g2.trans g3) hd (hnf _).1 (hnf _).2 (List.getElem?_eq_some_iff.mp hv).1 (zdec_ok h1) (fun H1 locs1 hP1 hD1 hS1 => ?_)
                exact fall (S2 := (S.1.set q (.inr (.inr (c9, fs.set j (some (some r))))), S.2)) h2 h (by simpa using hL) hc hn H1 locs1 ls ad (yP_set (S2 := (S.1.set q (.inr (.inr (c9, fs.set j (some (some r))))), S.2)) hq rfl (fun _ _ _ => rfl) hx2 hP1) (yD_set (S2 := (S.1.set q (.inr (.inr (c9, fs.set j (some (some r))))), S.2)) hq rfl (fun _ _ _ => rfl) hx2 hD1) hS1 hl ha
              · cases h
            · cases h
          · cases h
        · cases h3
      · cases h3
    · cases h
  | iastore =>
    simp only [yspec, Bool.and_eq_true, decide_eq_true_eq] at hs
    simp only [ystep] at h
    split at h
    · next x i q k' =>
      split at h
      · next n hq =>
        split at h
        · cases h
        · next hb2 =>
          intro H locs ls ad hP hD hS hl ha
          have hx2 : (Sum.inl (cI, n, .inl (upd (S.2.1 q) i.toNatClampNeg x)) : va_E) = ycell cI cJ ad (zs S.2 q i.toNatClampNeg x) q (.inl n) := by
            simp only [ycell, zs, zup_eq]
          exact va_iast (D := D) (cl := vwCl) hx hb hK hP hD hS q 0 (yW_get hq) rfl hb2 (zdec_ok hs.1) (fun H1 locs1 hP1 hD1 hS1 => fall (S2 := (S.1, zs S.2 q i.toNatClampNeg x)) hs.2 h hL hc hn H1 locs1 ls ad (yP_set (S2 := (S.1, zs S.2 q i.toNatClampNeg x)) hq (yset_self hq) (fun k e' hk => ycell_zs k e' hk) hx2 hP1) (yD_set (S2 := (S.1, zs S.2 q i.toNatClampNeg x)) hq (yset_self hq) (fun k e' hk => ycell_zs k e' hk) hx2 hD1) hS1 hl ha)
      · cases h
    · cases h
  | invokespecial x0 =>
    simp only [yspec, Bool.and_eq_true, decide_eq_true_eq] at hs
    simp only [ystep] at h
    obtain ⟨⟨h1, h2⟩, h3⟩ := hs
    split at h
    · next as =>
      split at h
      · next qq k' =>
        have h' := ygd_inv h
        clear h
        obtain ⟨hsum, h⟩ := h'
        split at h3
        · next a1 a2 b1 b2 c1 c2 as' heq =>
          simp only [Bool.and_eq_true] at h3
          obtain ⟨⟨g1, g2⟩, g3⟩ := h3
          intro H locs ls ad hP hD hS hl ha
          have hle := Nat.le_of_ble_eq_true hsum
          refine W.objInit (a := ad qq) (rest := k'.map (zc ad)) hx hb hown (hts _ (zwd_ok g1)) (hts _ (zwd_ok g2)) (hts _ (zwd_ok g3)) rfl (by rw [hml]; exact hl.1) rfl (zdec_ok h1) (Nat.le_add_left 1 d) ?_ ?_
          · show 2 * 0 + ((k'.map (zc ad)).map fun v => v.category).sum + 12 ≤ 40 * (d + 1)
            rw [zw_sum]
            omega
          · exact W.eq (g2 := F0 m (pc + 3) ls (k'.map (zc ad))) rfl (fall h2 h hL hc hn H locs ls ad hP hD hS hl ha)
        · next heq => cases heq
        · cases h3
      · cases h
    · next t0 mm as hne =>
      split at h
      · next q k' =>
        have h' := ygd_inv h
        clear h
        obtain ⟨hsum, h⟩ := h'
        simp only [Bool.and_eq_true] at hsum
        obtain ⟨i1, i2, i3⟩ := yin_inv hsum.2
        split at h
        · next r hcr =>
          have h' := ygd_inv h
          clear h
          obtain ⟨hlen, h⟩ := h'
          obtain ⟨S2, ca, na, hk, hr2⟩ := yadd_inv h
          simp only [Prod.mk.injEq] at hr2
          obtain ⟨rfl, rfl, rfl⟩ := hr2
          obtain ⟨y, hy1, hy2, hy3⟩ := hC _ _ _ _ hcr
          have hlen := Nat.le_of_ble_eq_true hlen
          have hle := Nat.le_of_ble_eq_true hsum.1
          split at h3
          · next heq => cases heq; exact (hne rfl).elim
          · next t1 m1 z a1 a2 as' heq =>
            cases heq
            rw [hy1] at h3
            dsimp only at h3
            obtain ⟨m1, m2, m3, m4, m5, m6, m7, m8, -, -⟩ := hy2
            intro H locs ls ad hP hD hS hl ha
            have hF : ∀ q, va_A (yW cI cJ ad S) H.size q → A q := by
              rintro q (⟨i, x, h⟩ | h)
              · exact hD.2 i (q, x) h
              · exact hA q (Nat.le_trans hS.1 h)
            have hroom : 8 + (y.2.2.1 + 11) + 40 * d ≤ 40 * (d + 1) := by omega
            have hgw : ∀ w ∈ (Cond.code y.1 y.2.1 y.2.2.1 none :: zTb), w ∈ zTb := fun w hw => (List.mem_cons.mp hw).elim (fun e => e ▸ m3) id
            have hgood : GoodIn zTb (Cond.code y.1 y.2.1 y.2.2.1 none :: zTb) := fun w hw => ⟨hgw w hw, ztbl_good w (hgw w hw)⟩
            have hpre : PreS s H (va_Pc [.ref (ad q)] (fun U => U.heap.size = H.size ∧ va_P D vwCl (yW cI cJ ad S) U.heap ∧ va_K D vwCl [(cI, .int), (cJ, .long)] U ∧ va_D (fun _ => True) (yW cI cJ ad S) ∧ yNk U)) [.ref (ad q)] := by
              refine ⟨?_, ?_⟩
              · intro a U g mk q
                obtain ⟨q0, q1, qP, qK, qD, qN⟩ := q
                exact ⟨q0, q1, qP, va_K.moved (u := U) (U := U.calling g mk a) (Vm.Alike.refl U.vm) qK, qD, yNk.same (u := U) (U := U.calling g mk a) rfl qN⟩
              · intro U hU hW
                exact ⟨rfl, by rw [hU], by rw [hU]; exact hP, va_K.moved hW.alike hK, hD.weaken (fun _ _ _ _ => trivial), yNk.warm hW hN⟩
            have kk : ∀ (u : Nat → Nat) (t : State) (H1 : Heap) (locs1 : List Loc), t.heap = H1 → (∀ j, j < S.1.length → u j = ad j) → (va_P D vwCl (yW cI cJ u r.1) t.heap ∧ va_K D vwCl [(cI, .int), (cJ, .long)] t ∧ va_D (va_A (yW cI cJ ad S) H.size) (yW cI cJ u r.1)) → va_S A s.heap H1 locs1 → W p l e (yrm (d + 1) CT NT) s m args below meth c H1 locs1 (c0 + r.2.1) (n0 + r.2.2) (MQ below (yQ D cI cJ ad0 L0 S' A) args s CT NT A) (F0 m (pc + 3) ls (k'.map (zc ad))) := by
              intro u t H1 locs1 ht hu hB hS1
              obtain ⟨hP1, hK1, hD1⟩ := hB
              rw [ht] at hP1
              have i2' : k'.all (yinV S.1.length) = true := i2
              have hz := fall (c1 := c0 + r.2.1) (n1 := n0 + r.2.2) h2 hk (by omega) (by omega) (by omega) H1 locs1 ls u hP1 (hD1.weaken (fun _ q _ h => hF q.1 h)) hS1 (zloc_ad i1 hu hl) (fun j hj => by rw [hu j (by omega)]; exact ha j hj)
              rw [zcs_ad i2' hu] at hz
              exact hz
            have hrm : c0 + r.2.1 ≤ CT ∧ n0 + r.2.2 ≤ NT := ⟨by omega, by omega⟩
            have hM := hy3 ad H.size
            by_cases hz : z = 0
            · rw [if_pos hz] at h3
              exact va_callv (a := (Value.ref (ad q) :: []).toArray) (va_runI (As := []) (b := ad q) (rest := k'.map (zc ad)) ⟨hx, hb, hml, hown, hts⟩ hM (cwI 0 hts hgood rfl rfl rfl (hts _ m4) (hts _ (zwd_ok h3)) (hts _ m6) m7 ⟨m2.1, m2.2, m5⟩ ⟨Nat.le_refl _, hroom⟩) hpre rfl rfl hl.1 rfl (lv_room (by rw [zw_sum]; exact hle)) (zdec_ok h1) hrm) hS (fun q _ h => hF q h) hF (fun u t H1 locs1 ht _ hu hB _ _ hS1 => kk u t H1 locs1 ht hu hB hS1)
            · rw [if_neg hz] at h3
              exact va_callv (a := (Value.ref (ad q) :: []).toArray) (va_runIN (host := "ProtoOrders") (As := []) (b := ad q) (rest := k'.map (zc ad)) ⟨hx, hb, hml, hown, hts⟩ hM ⟨va_cnB 0 hts hgood rfl rfl rfl (hN _ (of_decide_eq_true h3)) (hts _ m4) ⟨m2.1, m2.2, m5⟩ ⟨Nat.le_refl _, hroom⟩, m7, hts _ m6⟩ hpre rfl rfl hl.1 rfl (lv_room (by rw [zw_sum]; exact hle)) (zdec_ok h1) hrm) hS (fun q _ h => hF q h) hF (fun u t H1 locs1 ht _ hu hB _ _ hS1 => kk u t H1 locs1 ht hu hB hS1)
          · cases h3
        · cases h
      · cases h
    · cases h
  | invokestatic x0 =>
    simp only [yspec, Bool.and_eq_true, decide_eq_true_eq] at hs
    simp only [ystep] at h
    obtain ⟨⟨h1, h2⟩, h3⟩ := hs
    split at h
    · next x q k' =>
      have h' := ygd_inv h
      clear h
      obtain ⟨hsum, h⟩ := h'
      have hle := Nat.le_of_ble_eq_true hsum
      split at h
      · next hq =>
        split at h3
        · next mm a1 a2 =>
          simp only [Bool.and_eq_true] at h3
          intro H locs ls ad hP hD hS hl ha
          obtain ⟨m1, m2, m3, m4, m5, m6, m7, m8, -, -, -⟩ := hfy
          rw [if_pos (show zI_J_fill2.2.2.2.2.2.1 = true from rfl)] at m6
          have hM0 := hfill (fun _ => ad q) x (fun _ => S.2.1 q, fun _ _ => 0) H.size
          have hwc : zW cI cJ (fun _ => ad q) [.inl 8] (fun _ => S.2.1 q, fun _ _ => 0) = [(ad q, .inl (cI, 8, .inl (S.2.1 q)))] := rfl
          have hPc : va_P D vwCl (zW cI cJ (fun _ => ad q) [.inl 8] (fun _ => S.2.1 q, fun _ _ => 0)) H := by
            rw [hwc]
            intro k2 p2 hk2
            cases k2 with
            | zero => cases hk2; exact hP q _ (yW_get hq)
            | succ k2 => simp at hk2
          have hDc : va_D (fun _ => True) (zW cI cJ (fun _ => ad q) [.inl 8] (fun _ => S.2.1 q, fun _ _ => 0)) := by
            rw [hwc]
            refine ⟨fun i j p q hi hj _ => ?_, fun _ _ _ => trivial⟩
            cases i with
            | zero =>
              cases j with
              | zero => rfl
              | succ j => simp at hj
            | succ i => simp at hi
          have hin1 : ∀ z, va_A (zW cI cJ (fun _ => ad q) [.inl 8] (fun _ => S.2.1 q, fun _ _ => 0)) H.size z → z = ad q ∨ H.size ≤ z := by
            rintro z (⟨i, w, hz⟩ | hz)
            · rw [hwc] at hz
              cases i with
              | zero => cases hz; exact Or.inl rfl
              | succ i => simp at hz
            · exact Or.inr hz
          have hF : ∀ z, va_A (zW cI cJ (fun _ => ad q) [.inl 8] (fun _ => S.2.1 q, fun _ _ => 0)) H.size z → A z := by
            intro z hz
            rcases hin1 z hz with rfl | hz
            · exact hD.2 q _ (yW_get hq)
            · exact hA z (Nat.le_trans hS.1 hz)
          have hgw1 : ∀ w ∈ (Cond.code zI_J_fill2.1 zI_J_fill2.2.1 zI_J_fill2.2.2.1 zI_J_fill2.2.2.2.1 :: zTb), w ∈ zTb := zgood_all zI_J_fill2 m3
          have hgw : ∀ w ∈ va_wsS own x0 zI_J_fill2.1 (Cond.code zI_J_fill2.1 zI_J_fill2.2.1 zI_J_fill2.2.2.1 zI_J_fill2.2.2.2.1 :: zTb), w ∈ zTb := by
            intro w hw
            unfold va_wsS at hw
            rcases List.mem_append.mp hw with h | h
            · simp only [List.mem_cons, List.not_mem_nil, or_false] at h
              rcases h with rfl | rfl | rfl
              · exact zwd_ok h3.2
              · exact m6
              · exact m4
            · exact hgw1 w h
          have hpre : PreS s H (va_Pc ([.inr (.inr 0), .inl x].map (zc (fun _ => ad q))) (fun U => U.heap.size = H.size ∧ va_P D vwCl (zW cI cJ (fun _ => ad q) [.inl 8] (fun _ => S.2.1 q, fun _ _ => 0)) U.heap ∧ va_K D vwCl [(cI, .int), (cJ, .long)] U ∧ va_D (fun _ => True) (zW cI cJ (fun _ => ad q) [.inl 8] (fun _ => S.2.1 q, fun _ _ => 0)) ∧ zNk U)) [.ref (ad q), .int x] := by
            refine ⟨?_, ?_⟩
            · intro a U g mk q
              obtain ⟨q0, q1, qP, qK, qD, qN⟩ := q
              exact ⟨q0, q1, qP, va_K.moved (u := U) (U := U.calling g mk a) (Vm.Alike.refl U.vm) qK, qD, va_Nw.same (u := U) (U := U.calling g mk a) rfl rfl qN⟩
            · intro U hU hW
              exact ⟨rfl, by rw [hU], by rw [hU]; exact hPc, va_K.moved hW.alike hK, hDc, zNk.warm hW hN.zNk⟩
          have hroom : 8 + (zI_J_fill2.2.2.1 + 11) + 40 * d ≤ 40 * (d + 1) := by omega
          refine va_callv (a := ([.ref (ad q), .int x] : List Value).toArray) (S := Unit) (post := fun _ => True) (B := zB D cI cJ (fun _ => ad q) [.inl 8] (va_A (zW cI cJ (fun _ => ad q) [.inl 8] (fun _ => S.2.1 q, fun _ _ => 0)) H.size) (yfill (fun _ => S.2.1 q, fun _ _ => 0) 0 8 x)) (va_runS (As := [.ref (ad q), .int x]) (rest := k'.map (zc ad)) (n := 2) (mc := 0) (ms := 0) ⟨hx, hb, hml, hown, hts⟩ hM0 (va_cwS 2 hts (fun w hw => ⟨hgw w hw, ztbl_good w (hgw w hw)⟩) rfl rfl rfl ⟨m2.1, m2.2, m5⟩ ⟨Nat.le_refl _, hroom⟩) hpre rfl rfl hl.1 rfl (lv_room (by rw [zw_sum]; exact hle)) (zdec_ok h1) ⟨by show c0 + 0 ≤ CT; omega, by show n0 + 0 ≤ NT; omega⟩) hS (fun z _ hz => hF z hz) hF (fun u t H1 locs1 ht _ _ hB _ hkeep hS1 => ?_)
          obtain ⟨hP1, hK1, hD1⟩ := hB
          rw [ht] at hP1
          have hP2 : va_P D vwCl (yW cI cJ ad (S.1, yfill S.2 q 8 x)) H1 := by
            intro k2 p2 hk2
            by_cases hkq : k2 = q
            · subst hkq
              rw [yW_get (S := (S.1, yfill S.2 k2 8 x)) hq] at hk2
              cases hk2
              have h0 := hP1 0 (ad k2, .inl (cI, 8, .inl ((yfill (fun _ => S.2.1 k2, fun _ _ => 0) 0 8 x).1 0))) rfl
              have e0 : (yfill (fun _ => S.2.1 k2, fun _ _ => 0) 0 8 x).1 0 = (yfill S.2 k2 8 x).1 k2 := by
                funext j
                simp [yfill]
              rw [e0] at h0
              exact h0
            · have hk3 : (yW cI cJ ad S)[k2]? = some p2 := by
                simp only [yW, List.getElem?_mapIdx] at hk2 ⊢
                cases hs2 : S.1[k2]? with
                | none => rw [hs2] at hk2; cases hk2
                | some e2 =>
                  rw [hs2] at hk2
                  simp only [Option.map_some, Option.some.injEq] at hk2 ⊢
                  rw [← hk2, ycell_yfill k2 e2 hkq]
              refine (hP k2 p2 hk3).kept (hkeep p2.1 (hP k2 p2 hk3).lt (fun hz => ?_))
              rcases hin1 p2.1 hz with hz | hz
              · exact hkq (hD.1 k2 q p2 _ hk3 (yW_get hq) hz)
              · exact absurd (hP k2 p2 hk3).lt (Nat.not_lt.mpr hz)
          exact fall (S2 := (S.1, yfill S.2 q 8 x)) (c1 := c0 + 0) (n1 := n0 + 0) h2 h hL hc hn H1 locs1 ls ad hP2 (yD_any (S := S) rfl hD) hS1 hl ha
        · cases h3
      · cases h
    · cases h
  | return_ =>
    simp only [yspec, Bool.and_eq_true, decide_eq_true_eq] at hs
    simp only [ystep] at h
    split at h
    · cases h
      intro H locs ls ad hP hD hS hl ha
      have e1 : c0 = CT := by omega
      have e2 : n0 = NT := by omega
      subst e1; subst e2
      exact W.vret hx hb hr (fun t ht hW => ⟨⟨ad, rfl, ha, by rw [ht]; exact hP, va_K.moved hW.alike hK, hD⟩, hS.F ht⟩) hS.2.2 (zdec_ok hs) hlocks
    · cases h
  | _ => exact absurd (show (none : yR) = some (S', cr, nr) from h) (by intro h9; cases h9)
end YST
