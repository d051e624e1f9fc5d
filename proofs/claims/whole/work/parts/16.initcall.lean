section YCL
variable {p : Program} {l : Launch} {e : Env} {s : State} {m : MethodId} {args : Array Value} {below : List Frame} {meth : Method} {c : Code} {cc : ByteArray} {A : Nat → Prop} {D : va_G} {cI cJ : ClassId} {ad0 : Nat → Nat} {L0 CT NT : Nat} {own : String} {nL : Nat} {Ms : List zMeth} {C : Nat → Nat → yS → yR} {T : zT} {d : Nat} {S' : yS}
theorem yrun_ok
    (hx : p.tables.exec = Jvm.exec) (hb : c.code = cc) (hr : meth.sig.returnType = none) (hml : c.maxLocals = nL) (hown : s.vm.findClass own = some m.cls) (hin : meth.name = "<init>") (hts : ∀ w ∈ zTb, w.before args s = true) (hlocks : meth.locks = false) (hK : va_K D vwCl [(cI, .int), (cJ, .long)] s) (hN : yNk s) (hA : ∀ q : Nat, s.heap.size ≤ q → A q)
    (hC : ∀ mm q S0 r, C mm q S0 = some r → ∃ y, Ms[mm]? = some y ∧ ymok Ms y ∧ yMet l D cI cJ d y q S0 r.1 r.2.1 r.2.2)
    (hfy : zmok zMs zI_J_fill2) (hfill : ∀ (ad1 : Nat → Nat) (x : Int32) (τ : zS), zMet l D cI cJ ad1 [.inl 8] (zrm d) zI_J_fill2 [.inr (.inr 0), .inl x] τ (none, yfill τ 0 8 x))
    (hsp : ∀ (n : Nat) (e' : zEnt), T[n]? = some e' → yspec Ms own cc nL T e'.1 e'.2.1 e'.2.2.2.1 e'.2.2.2.2.2.1 (T.drop (n + 1)) = true) :
    ∀ (g n : Nat) (e' : zEnt) (es' : zT) (lo : zL) (k : List zV) (S : yS) (c0 n0 cr nr : Nat), T.drop n = e' :: es' → yrun C T g (e' :: es') lo k S = some (S', cr, nr) → L0 ≤ S.1.length → c0 + cr = CT → n0 + nr = NT → yAt p l e (yrm (d + 1) CT NT) s m args below meth c A D cI cJ nL ad0 L0 (MQ below (yQ D cI cJ ad0 L0 S' A) args s CT NT A) e'.1 lo k S c0 n0 := by
  intro g
  induction g with
  | zero => intro n e' es' lo k S c0 n0 cr nr he h; cases h
  | succ g ih =>
    intro n e' es' lo k S c0 n0 cr nr he h hL hc hn
    obtain ⟨h1, h2⟩ := zdrop_get he
    have hs := hsp n e' h1
    rw [← h2] at hs
    unfold yrun at h
    dsimp only at h
    refine ystep_ok hx hb hr hml hown hin hts hlocks hK hN hA hC hfy hfill ?_ hs h hL hc hn
    intro e2 es2 lo2 k2 S2 c1 n1 c2 n2 hpos hk hL2 hc2 hn2
    obtain ⟨n3, hn3⟩ : ∃ n3, T.drop n3 = e2 :: es2 := by
      rcases hpos with hp | ⟨a, ha⟩
      · exact ⟨n + 1, by rw [← h2, hp]⟩
      · exact ⟨a, ha⟩
    exact ih n3 e2 es2 lo2 k2 S2 c1 n1 c2 n2 hn3 hk hL2 hc2 hn2
theorem ycall_ok (hMs : ∀ (mm : Nat) (y : zMeth), Ms[mm]? = some y → ymok Ms y) (hfy : zmok zMs zI_J_fill2) (hfill : ∀ (d : Nat) (ad1 : Nat → Nat) (x : Int32) (τ : zS), 0 < d → zMet l D cI cJ ad1 [.inl 8] (zrm d) zI_J_fill2 [.inr (.inr 0), .inl x] τ (none, yfill τ 0 8 x)) :
    ∀ (d mm q : Nat) (S : yS) (r : yS × Nat × Nat), ycall Ms d mm q S = some r → ∃ y, Ms[mm]? = some y ∧ ymok Ms y ∧ yMet l D cI cJ (d + 1) y q S r.1 r.2.1 r.2.2 := by
  intro d
  induction d with
  | zero => intro mm q S r h; cases h
  | succ d ih =>
    intro mm q S r h
    unfold ycall at h
    split at h
    next y1 b nL r0 np st rk T hy =>
      split at h
      next => cases h
      next nL1 =>
        refine ⟨_, hy, hMs mm _ hy, ?_⟩
        obtain ⟨m1, m2, m3, m4, m5, m6, m7, m8, m9, m10⟩ := hMs mm _ hy
        intro ad sz
        refine Met.ofW (cc := b) (maxL := nL1 + 1) (ret := none) m1 rfl ?_
        intro p e s m args below meth c s₁ B hml hv
        obtain ⟨rfl, hsz, hP, hK, hD0, hN⟩ := hv
        subst hsz
        have hts : ∀ w ∈ zTb, w.before (([.ref (ad q)] : List Value).toArray) s = true := fun w hw => atoms_spec (ws := Cond.code y1 b (nL1 + 1) none :: zTb) B.pre w (List.mem_cons_of_mem _ hw)
        have hown : s.vm.findClass y1.cls = some m.cls := findClass_of_methodNamed B.named
        have hin : meth.name = "<init>" := (name_of_methodNamed B.named B.method).1.trans m7
        rw [lg_entry_eq]
        obtain ⟨e0, he0, hpc⟩ := Option.map_eq_some_iff.mp m9
        have hT : T.drop 0 = e0 :: T.drop 1 := by
          obtain ⟨hl, hg⟩ := List.getElem?_eq_some_iff.mp he0
          rw [List.drop_eq_getElem_cons hl]
          rw [show T[0] = e0 from hg]
        have h0 : yrun (ycall Ms d) T 500 (e0 :: T.drop 1) (some (.inr (.inr q)) :: List.replicate nL1 none) [] S = some (r.1, r.2.1, r.2.2) := by
          rw [← hT]
          exact h
        have hz := yrun_ok (e := e) (below := below) (A := va_A (yW cI cJ ad S) s.heap.size) (D := D) (cI := cI) (cJ := cJ) (ad0 := ad) (L0 := S.1.length) (CT := r.2.1) (NT := r.2.2) (d := d + 1) B.exec B.bytes B.returns hml hown hin hts B.notSynchronized hK hN (fun q hq => Or.inr hq) ih hfy (fun ad1 x τ => hfill (d + 1) ad1 x τ (Nat.succ_pos d)) m10 500 0 e0 (T.drop 1) _ _ S 0 0 r.2.1 r.2.2 hT h0 (Nat.le_refl _) (Nat.zero_add _) (Nat.zero_add _)
        rw [hpc] at hz
        have hlo := zloc_entry ad [.inr (.inr q)] (nL1 + 1) (by simp [zargs])
        have hlo2 : zfill (nL1 + 1) (zargs [.inr (.inr q)]) = some (.inr (.inr q)) :: List.replicate nL1 none := by simp [zfill, zargs]
        rw [hlo2] at hlo
        exact hz s.heap [] _ ad hP hD0.self va_S.rf hlo (fun _ _ => rfl)
    next => cases h
end YCL
theorem zf_head (C : Nat → List zV → zS → zR) (n : Nat) (x i L : Int32) (τ : zS) : zexec [.inl 8] C zT_J_fill2 0 (n + 1) 5 [some (.inr (.inr 0)), some (.inl x), some (.inl i), some (.inl L)] [] τ = if L ≤ i then some (none, τ) else zin i 8 (zexec [.inl 8] C zT_J_fill2 0 n 5 [some (.inr (.inr 0)), some (.inl x), some (.inl (i + 1)), some (.inl L)] [] (zs τ 0 i.toNatClampNeg x)) := rfl
theorem zf_entry (C : Nat → List zV → zS → zR) (n : Nat) (x : Int32) (τ : zS) : zexec [.inl 8] C zT_J_fill2 0 (n + 1) 0 [some (.inr (.inr 0)), some (.inl x), none, none] [] τ = zexec [.inl 8] C zT_J_fill2 0 n 5 [some (.inr (.inr 0)), some (.inl x), some (.inl 0), some (.inl (Int32.ofNat 8))] [] τ := rfl
def zfF (k : Nat) (x : Int32) (τ : zS) : zS := (fun a j => if a = 0 then (if k ≤ j ∧ j < 8 then x else τ.1 a j) else τ.1 a j, τ.2)
theorem zf_loop (C : Nat → List zV → zS → zR) (x : Int32) : ∀ (f k n : Nat) (τ : zS), k + f = 8 → f < n → zexec [.inl 8] C zT_J_fill2 0 n 5 [some (.inr (.inr 0)), some (.inl x), some (.inl (nI k)), some (.inl (nI 8))] [] τ = some (none, zfF k x τ) := by
  intro f
  induction f with
  | zero =>
    intro k n τ hk hn
    obtain ⟨n, rfl⟩ : ∃ n', n = n' + 1 := ⟨n - 1, by omega⟩
    rw [zf_head, if_pos (nI_le (by omega) (by omega))]
    have : zfF k x τ = τ := by
      unfold zfF
      apply Prod.ext
      · funext a j
        dsimp only
        split
        · rw [if_neg (by omega)]
        · rfl
      · rfl
    rw [this]
  | succ f ih =>
    intro k n τ hk hn
    obtain ⟨n, rfl⟩ : ∃ n', n = n' + 1 := ⟨n - 1, by omega⟩
    rw [zf_head, if_neg (nI_ge (by omega) (by omega)), nI_1, nI_clamp (by omega)]
    unfold zin
    rw [if_neg (nI_in (by omega) (by omega)), ih (k + 1) n _ (by omega) (by omega)]
    congr 2
    apply Prod.ext
    · funext a j
      simp only [zfF, zs, zup]
      by_cases ha : a = 0
      · subst ha
        simp only [if_true]
        by_cases hj : j = k
        · subst hj
          rw [if_neg (by omega), if_pos rfl, if_pos (by omega)]
        · by_cases h2 : k + 1 ≤ j ∧ j < 8
          · rw [if_pos h2, if_pos (by omega)]
          · rw [if_neg h2, if_neg hj, if_neg (by omega)]
      · simp only [if_neg ha]
    · rfl
theorem zfill8 (d : Nat) (x : Int32) (τ : zS) : zcall zMs [.inl 8] (d + 1) 220 [.inr (.inr 0), .inl x] τ = some (none, yfill τ 0 8 x) := by
  have h1 : zcall zMs [.inl 8] (d + 1) 220 [.inr (.inr 0), .inl x] τ = zexec [.inl 8] (zcall zMs [.inl 8] d) zT_J_fill2 0 (19999 + 1) 0 [some (.inr (.inr 0)), some (.inl x), none, none] [] τ := rfl
  have e : zfF 0 x τ = yfill τ 0 8 x := by
    apply Prod.ext
    · funext a j
      simp [zfF, yfill]
    · rfl
  have h2 := zf_loop (zcall zMs [.inl 8] d) x 8 0 19999 τ rfl (by omega)
  rw [e] at h2
  rw [h1, zf_entry]
  exact h2
