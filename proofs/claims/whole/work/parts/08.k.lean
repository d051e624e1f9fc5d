section ZST
variable {p : Program} {l : Launch} {e : Env} {s : State} {m : MethodId} {args : Array Value} {below : List Frame} {meth : Method} {c : Code} {cc : ByteArray} {A : Nat → Prop} {D : va_G} {cI cJ : ClassId} {ad : Nat → Nat} {sk : List zE} {own : String} {nL : Nat} {Ms : List zMeth} {C : Nat → List zV → zS → zR} {T : zT} {rk d : Nat} {K : zK} {res : Option zV × zS} {ret0 : Option FieldType}
theorem zdec_ok {b : ByteArray} {pc : Nat} {i : Instr} {n : Nat} (h : zdec b pc i n = true) : decode b pc = .ok (i, n) := of_decide_eq_true h
theorem zK0 (hK : va_K D vwCl [(cI, .int), (cJ, .long)] s) : True := trivial
theorem zP_set {σ σ' : zS} {q : Nat} {e0 : zE} {H : Heap} {x : va_E} (hq : sk[q]? = some e0) (ho : ∀ k e', k ≠ q → zcell cI cJ ad σ' k e' = zcell cI cJ ad σ k e') (hx : x = zcell cI cJ ad σ' q e0) (h : va_P D vwCl ((zW cI cJ ad sk σ).set q (ad q, x)) H) : va_P D vwCl (zW cI cJ ad sk σ') H := by
  subst hx
  rwa [zW_set hq ho] at h
theorem zD_set {σ σ' : zS} {q : Nat} {e0 : zE} {x : va_E} (hq : sk[q]? = some e0) (ho : ∀ k e', k ≠ q → zcell cI cJ ad σ' k e' = zcell cI cJ ad σ k e') (hx : x = zcell cI cJ ad σ' q e0) (h : va_D A ((zW cI cJ ad sk σ).set q (ad q, x))) : va_D A (zW cI cJ ad sk σ') := by
  subst hx
  rwa [zW_set hq ho] at h
theorem zD_any {B : Nat → Prop} {σ σ' : zS} (h : va_D B (zW cI cJ ad sk σ)) : va_D B (zW cI cJ ad sk σ') := by
  have key : ∀ (τ τ' : zS) (k : Nat) (q : Nat × va_E), (zW cI cJ ad sk τ)[k]? = some q → ∃ q', (zW cI cJ ad sk τ')[k]? = some q' ∧ q'.1 = q.1 := by
    intro τ τ' k q hk
    simp only [zW, List.getElem?_mapIdx] at hk ⊢
    cases hs : sk[k]? with
    | none => rw [hs] at hk; cases hk
    | some e' => rw [hs] at hk; cases hk; exact ⟨_, rfl, rfl⟩
  refine ⟨fun i j p q hi hj hpq => ?_, fun k q hk => ?_⟩
  · obtain ⟨p', h1, h2⟩ := key σ' σ i p hi
    obtain ⟨q', h3, h4⟩ := key σ' σ j q hj
    exact h.1 i j p' q' h1 h3 (by rw [h2, h4]; exact hpq)
  · obtain ⟨q', h1, h2⟩ := key σ' σ k q hk
    rw [← h2]
    exact h.2 k q' h1
theorem zA_any {σ σ' : zS} {sz q : Nat} (h : va_A (zW cI cJ ad sk σ) sz q) : va_A (zW cI cJ ad sk σ') sz q := by
  rcases h with ⟨k, e, h⟩ | h
  · left
    simp only [zW, List.getElem?_mapIdx] at h ⊢
    cases hs : sk[k]? with
    | none => rw [hs] at h; cases h
    | some e' => rw [hs] at h; cases h; exact ⟨k, zcell cI cJ ad σ' k e', by simp [hs]⟩
  · exact Or.inr h
/-- behind a call -/
theorem zcall_k {Q : State → Prop} {R : Room} {pc : Nat} {lo : zL} {σ : zS} {k rest : List zV} {v : Option zV} {σ' : zS} {H : Heap} {locs : List Loc} {ls : Array Slot} {av : Array Value}
    (hK : va_K D vwCl [(cI, .int), (cJ, .long)] s) (hA : ∀ q : Nat, s.heap.size ≤ q → A q) (hP : va_P D vwCl (zW cI cJ ad sk σ) H) (hD : va_D A (zW cI cJ ad sk σ)) (hS : va_S A s.heap H locs) (hl : zloc ad nL lo ls)
    (hrun : va_Run p l e R s m args below meth c H locs 0 0 0 0 (F0 m pc ls (k.map (zc ad))) (rest.map (zc ad)) (zQ D cI cJ ad sk (v, σ') (va_A (zW cI cJ ad sk σ) H.size) av) (va_A (zW cI cJ ad sk σ) H.size))
    (hgo : zAt p l e R s m args below meth c A D cI cJ ad sk nL Q (pc + 3) lo (v.toList ++ rest) σ') : W p l e R s m args below meth c H locs 0 0 Q (F0 m pc ls (k.map (zc ad))) := by
  have hF : ∀ q, va_A (zW cI cJ ad sk σ) H.size q → A q := by
    rintro q (⟨i, x, h⟩ | h)
    · exact hD.2 i (q, x) h
    · exact hA q (Nat.le_trans hS.1 h)
  have key : ∀ (t : State) (H1 : Heap) (locs1 : List Loc), t.heap = H1 → zB D cI cJ ad sk (va_A (zW cI cJ ad sk σ) H.size) σ' () t → va_S A s.heap H1 locs1 → W p l e R s m args below meth c H1 locs1 0 0 Q (F0 m (pc + 3) ls ((v.toList ++ rest).map (zc ad))) := by
    intro t H1 locs1 ht hB hS1
    obtain ⟨hP1, hK1, hD1⟩ := hB
    rw [ht] at hP1
    exact hgo H1 locs1 ls hP1 (hD1.weaken (fun _ q _ h => hF q.1 h)) hS1 hl
  rcases v with _ | (x | x | x)
  · exact va_callv (a := av) hrun hS (fun q _ h => hF q h) hF (fun u t H1 locs1 ht _ _ hB _ _ hS1 => key t H1 locs1 ht hB hS1)
  · exact va_calli (a := av) hrun hS (fun q _ h => hF q h) hF (fun r u t H1 locs1 ht _ hr hB _ _ hS1 => by subst hr; exact key t H1 locs1 ht hB hS1)
  · exact va_calll (a := av) hrun hS (fun q _ h => hF q h) hF (fun r u t H1 locs1 ht _ hr hB _ _ hS1 => by subst hr; exact key t H1 locs1 ht hB hS1)
  · intro T hT X
    obtain ⟨v, st0, t, T', L, h0, X', hL, e1, e2, hf, st⟩ := hrun T hT X
    exact hf.elim
end ZST
