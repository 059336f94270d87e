/-! ===== by program out of 56 ===== -/
section LAWR
variable {p : Program} {l : Launch} {e : Env} {R : Room} {s : State} {m : MethodId} {args : Array Value} {below : List Frame} {meth : Method} {c : Code} {H : Heap} {locs : List Loc} {cells slots : Nat} {Q : State → Prop} {cc : ByteArray} {pc nL : Nat} {ls : Array Slot} {rest st : List Value} {own : String} {Z : ZT} {I : Mem}
theorem lx_callV_a {y' : MethodName} {cc' : ByteArray} {maxL' h' n index a : Nat} {ret' : Option FieldType} {As : List Value} {o1 : OV} (b : BB p s m args c own cc nL Z) (hfl : l.stackTraces = false) (hl : ls.size = nL) (hH : HH_a Z I H) (hr : Runs_a Z y' cc' maxL' ret' h' (.ref a :: As) I o1) (hM : MwV y' cc' maxL' ret' n) (hO : ∀ gr : Nat → Nat, Ob_a Z gr I a y'.cls) (hn : As.length = n) (hst : st = As.reverse ++ .ref a :: rest) (hR : h' + 1 ≤ R.frames ∧ 8 + (maxL' + 11) + 35 * h' ≤ R.locals) (hw : (rest.map fun v => v.category).sum ≤ 8) (hf : cells + dC I o1.2 ≤ R.cells ∧ slots + dS I o1.2 ≤ R.slots)
    (hlink : Cond.methodLink own index y' ∈ lw_good) (hlo : ∀ q ∈ locs, zN Z q.base) (d : decode cc pc = .ok (.invokevirtual index, 3))
    (kk : ∀ (H1 : Heap) (locs1 : List Loc), HH_a Z o1.2 H1 → (∀ q ∈ locs1, zN Z q.base) → W p l e R s m args below meth c H1 locs1 (cells + dC I o1.2) (slots + dS I o1.2) Q (F0 m (pc + 3) ls (o1.1.toList ++ rest))) : W p l e R s m args below meth c H locs cells slots Q (F0 m pc ls st) := by
  obtain ⟨gr, hH⟩ := hH
  obtain ⟨hx, hb, hown, hts, hK, hml⟩ := b
  obtain ⟨hcode, hinst, hsel, hini, hd⟩ := hM
  obtain ⟨k, i, ci, N, T0, fs, he, hi, ha, hc⟩ := hO gr
  have hat := hH.at hi
  rw [he, ha] at hat
  have hrecv := va_recv (q0 := 0) hK.1.1 (va_P1 hat) hc rfl
  have hG : GoodIn lw_good (wsV own index y'.cls y' (wsAll y' cc' maxL' ret')) := by
    intro w hw
    rcases List.mem_append.mp hw with hw | hw
    · have hm : w ∈ lw_good := by
        simp only [List.mem_cons, List.mem_nil_iff, or_false] at hw
        rcases hw with rfl | rfl | rfl | rfl <;> assumption
      exact ⟨hm, good_of_word (List.mem_filter.mp hm).2⟩
    · exact goodAll hcode w hw
  exact call_go_a (va_runV (cc := cc) (nL := nL) (Ts := lw_good) (own := own) (As := As) (n := n) ⟨hx, hb, hml, hown, hts⟩ (hr.2 l hfl) (cwV n hts hG rfl rfl rfl ⟨rfl, hd⟩ hR) ⟨fb_Pcz_a, hrecv, fun U hU hW => ⟨rfl, ⟨gr, by rw [hU]; exact hH⟩, hK.1.warm hW⟩⟩ rfl hn hl hst (lv_room hw) d hf) hlo kk
end LAWR

section LAWR
variable {p : Program} {l : Launch} {e : Env} {R : Room} {s : State} {m : MethodId} {args : Array Value} {below : List Frame} {meth : Method} {c : Code} {H : Heap} {locs : List Loc} {cells slots : Nat} {Q : State → Prop} {cc : ByteArray} {pc nL : Nat} {ls : Array Slot} {rest st : List Value} {own : String} {Z : ZT} {I : Mem}
theorem lx_callV_b {y' : MethodName} {cc' : ByteArray} {maxL' h' n index a : Nat} {ret' : Option FieldType} {As : List Value} {o1 : OV} (b : BB p s m args c own cc nL Z) (hfl : l.stackTraces = false) (hl : ls.size = nL) (hH : HH_b Z I H) (hr : Runs_b Z y' cc' maxL' ret' h' (.ref a :: As) I o1) (hM : MwV y' cc' maxL' ret' n) (hO : ∀ gr : Nat → Nat, Ob_b Z gr I a y'.cls) (hn : As.length = n) (hst : st = As.reverse ++ .ref a :: rest) (hR : h' + 1 ≤ R.frames ∧ 8 + (maxL' + 11) + 35 * h' ≤ R.locals) (hw : (rest.map fun v => v.category).sum ≤ 8) (hf : cells + dC I o1.2 ≤ R.cells ∧ slots + dS I o1.2 ≤ R.slots)
    (hlink : Cond.methodLink own index y' ∈ lw_good) (hlo : ∀ q ∈ locs, zN Z q.base) (d : decode cc pc = .ok (.invokevirtual index, 3))
    (kk : ∀ (H1 : Heap) (locs1 : List Loc), HH_b Z o1.2 H1 → (∀ q ∈ locs1, zN Z q.base) → W p l e R s m args below meth c H1 locs1 (cells + dC I o1.2) (slots + dS I o1.2) Q (F0 m (pc + 3) ls (o1.1.toList ++ rest))) : W p l e R s m args below meth c H locs cells slots Q (F0 m pc ls st) := by
  obtain ⟨gr, hH⟩ := hH
  obtain ⟨hx, hb, hown, hts, hK, hml⟩ := b
  obtain ⟨hcode, hinst, hsel, hini, hd⟩ := hM
  obtain ⟨k, i, ci, N, T0, fs, he, hi, ha, hc⟩ := hO gr
  have hat := hH.at hi
  rw [he, ha] at hat
  have hrecv := va_recv (q0 := 0) hK.1.1 (va_P1 hat) hc rfl
  have hG : GoodIn lw_good (wsV own index y'.cls y' (wsAll y' cc' maxL' ret')) := by
    intro w hw
    rcases List.mem_append.mp hw with hw | hw
    · have hm : w ∈ lw_good := by
        simp only [List.mem_cons, List.mem_nil_iff, or_false] at hw
        rcases hw with rfl | rfl | rfl | rfl <;> assumption
      exact ⟨hm, good_of_word (List.mem_filter.mp hm).2⟩
    · exact goodAll hcode w hw
  exact call_go_b (va_runV (cc := cc) (nL := nL) (Ts := lw_good) (own := own) (As := As) (n := n) ⟨hx, hb, hml, hown, hts⟩ (hr.2 l hfl) (cwV n hts hG rfl rfl rfl ⟨rfl, hd⟩ hR) ⟨fb_Pcz_b, hrecv, fun U hU hW => ⟨rfl, ⟨gr, by rw [hU]; exact hH⟩, hK.1.warm hW⟩⟩ rfl hn hl hst (lv_room hw) d hf) hlo kk
end LAWR
