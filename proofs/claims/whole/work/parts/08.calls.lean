/-! contracts out of runs -/
def xPc (D : va_G) (cT : ClassId × ClassId) (B b : Nat) (as : List Value) (w : pW) : Array Value → State → Prop :=
  va_Pc (as.map (xV B b)) (fun U => U.heap.size = B + w.length ∧ va_P D vwCl (xW cT B b w) U.heap ∧ va_K D vwCl (xT cT) U ∧ xN U)
def xQc (D : va_G) (cT : ClassId × ClassId) (B b : Nat) (v : Option Value) (w' : pW) : Array Value → State → Outcome → State → Prop := fun _ st oc t =>
  oc = .returned (v.map (xV B b)) ∧ t.heap.size = B + w'.length ∧ va_P D vwCl (xW cT B b w') t.heap ∧ va_F (fun q => B ≤ q) st t
def xCtr (l : Launch) (y : MethodName) (cc : ByteArray) (nL : Nat) (ret : Option FieldType) (d lo : Nat) (as : List Value) (w : pW) (v : Option Value) (w' : pW) : Prop :=
  ∀ (D : va_G) (cT : ClassId × ClassId) (B b : Nat), Met l y (.code y cc nL ret :: wtG) ({ frames := d, cells := w'.length - w.length, slots := wsl w' - wsl w, locals := lo }) (xPc D cT B b as w) (xQc D cT B b v w') (w'.length - w.length) (wsl w' - wsl w) (fun q => B ≤ q)
theorem xPc_blind {D : va_G} {cT : ClassId × ClassId} {B b : Nat} {as : List Value} {w : pW} : FrameBlind (xPc D cT B b as w) := fun a U g mk q => by
  obtain ⟨q0, q1, qP, qK, qN⟩ := q
  exact ⟨q0, q1, qP, va_K.moved (u := U) (U := U.calling g mk a) (Vm.Alike.refl U.vm) qK, xN.same (u := U) (U := U.calling g mk a) rfl qN⟩
section XC
variable {p : Program} {l : Launch} {e : Env} {R : Room} {s : State} {m : MethodId} {args : Array Value} {below : List Frame} {meth : Method} {c : Code} {H : Heap} {locs : List Loc} {cells slots : Nat} {Q : State → Prop}
variable {D : va_G} {cT : ClassId × ClassId} {B b : Nat}
theorem x_callx {pc : Nat} {ls : Array Slot} {rest st0 : List Value} {a : Array Value} {v : Option Value} {w' : pW} {mc ms : Nat} {H0 : Heap} (hr : va_Run p l e R s m args below meth c H locs cells slots mc ms (F0 m pc ls st0) rest (xQc D cT B b v w' a) (fun q => B ≤ q)) (hS : va_S (fun q => B ≤ q) H0 H locs)
    (kk : ∀ (H1 : Heap) (locs1 : List Loc), H1.size = B + w'.length → va_P D vwCl (xW cT B b w') H1 → va_S (fun q => B ≤ q) H0 H1 locs1 → W p l e R s m args below meth c H1 locs1 (cells + mc) (slots + ms) Q (F0 m (pc + 3) ls ((v.map (xV B b)).toList ++ rest))) : W p l e R s m args below meth c H locs cells slots Q (F0 m pc ls st0) := by
  intro T hT X
  obtain ⟨v', st₀, t, T', L, h0, X', hL, e1, e2, ⟨hv, hz, hP, hF⟩, st⟩ := hr T hT X
  cases hv
  obtain ⟨hf1, hf2⟩ := hF
  rw [h0] at hf1 hf2
  obtain ⟨t2, a1, b1⟩ := kk T'.heap (locs ++ L) (by rw [e1]; exact hz) (by rw [e1]; exact hP) ⟨Nat.le_trans hS.1 (by rw [e1]; exact hf1), fun q h1 h2 => by rw [e1, hf2 q (Nat.lt_of_lt_of_le h1 hS.1) h2]; exact hS.2.1 q h1 h2, fun q hq => by
    rcases List.mem_append.mp hq with h | h
    · exact hS.2.2 q h
    · exact hL q h⟩ T' rfl X'
  exact ⟨t2, st t2 a1, b1⟩
end XC
/-- a call at pc -/
def xSndC (Z : Room → Nat → Nat → State → String → Prop) (own : String) (cc : ByteArray) (nL pc : Nat) (q : pK) (y : MethodName) (bytes : ByteArray) (maxL : Nat) (ret : Option FieldType) : Prop :=
  ∀ (p : Program) (l : Launch) (e : Env) (R : Room) (s : State) (m : MethodId) (args : Array Value) (below : List Frame) (meth : Method) (c : Code) (Q : State → Prop) (D : va_G) (cT : ClassId × ClassId) (B b n0 s0 : Nat),
    xG p s m args c own cc nL D cT B → ∀ (ls : pL) (st : List Value) (w : pW) (as rest : List Value) (v : Option Value) (w' : pW) (d lo : Nat), pargs q st w = some (as, rest) → xCtr l y bytes maxL ret d lo as w v w' → d + 1 ≤ R.frames → 19 + maxL + lo ≤ R.locals →
      w.length ≤ w'.length → wsl w ≤ wsl w' → w'.length - n0 ≤ R.cells → wsl w' - s0 ≤ R.slots →
      xWp p l e R s m args below meth c Q D cT B b n0 s0 nL (pc + 3, ls, v.toList ++ rest, w') → xWp p l e R s m args below meth c Q D cT B b n0 s0 nL (pc, ls, st, w)
theorem pargs_sp {q : pK} {st : List Value} {w : pW} {as rest : List Value} (h : pargs q st w = some (as, rest)) : as.length = q.2.1 ∧ st = as.reverse ++ rest ∧ psum rest ≤ 8 ∧ precv q.2.2 as w = true := by
  unfold pargs at h
  cases hb : (Nat.beq (st.take q.2.1).length q.2.1 && Nat.ble (psum (st.drop q.2.1)) 8 && precv q.2.2 (st.take q.2.1).reverse w) with
  | false => rw [hb] at h; cases h
  | true =>
    rw [hb] at h
    simp only [Bool.and_eq_true] at hb
    cases h
    refine ⟨by rw [List.length_reverse]; exact Nat.eq_of_beq_eq_true hb.1.1, by rw [List.reverse_reverse, List.take_append_drop], Nat.le_of_ble_eq_true hb.1.2, hb.2⟩
theorem precv_sp {ci : Nat} {as : List Value} {w : pW} (h : precv (some ci) as w = true) : ∃ i As fs, as = .ref i :: As ∧ w[i]? = some (.inr (ci, fs)) := by
  cases as with
  | nil => cases h
  | cons v As =>
    cases v <;> first | (cases h; done) | skip
    rename_i i
    simp only [precv] at h
    split at h
    · rename_i c' fs hw
      have e1 := Nat.eq_of_beq_eq_true h
      subst e1
      exact ⟨i, As, fs, rfl, hw⟩
    · cases h
theorem psum_x {B b : Nat} (st : List Value) : ((st.map (xV B b)).map fun v => v.category).sum = psum st := by
  unfold psum
  rw [List.map_map]
  congr 1
  exact List.map_congr_left fun v _ => xV_cat B b
section XD
variable {Z : Room → Nat → Nat → State → String → Prop} {own : String} {cc : ByteArray} {nL pc : Nat} {q : pK} {y : MethodName} {bytes : ByteArray} {maxL : Nat} {ret : Option FieldType}
/-- out of a call's run, whatever kind it is of -/
theorem x_callof (h : ∀ (p : Program) (l : Launch) (e : Env) (R : Room) (s : State) (m : MethodId) (args : Array Value) (below : List Frame) (meth : Method) (c : Code) (D : va_G) (cT : ClassId × ClassId) (B b : Nat) (H : Heap) (locs : List Loc) (ls : Array Slot) (cells slots : Nat) (w : pW) (as rest : List Value) (v : Option Value) (w' : pW) (d lo : Nat),
    xG p s m args c own cc nL D cT B → as.length = q.2.1 → precv q.2.2 as w = true → psum rest ≤ 8 → ls.size = nL → H.size = B + w.length → va_P D vwCl (xW cT B b w) H → xCtr l y bytes maxL ret d lo as w v w' → d + 1 ≤ R.frames → 19 + maxL + lo ≤ R.locals → cells + (w'.length - w.length) ≤ R.cells ∧ slots + (wsl w' - wsl w) ≤ R.slots →
    va_Run p l e R s m args below meth c H locs cells slots (w'.length - w.length) (wsl w' - wsl w) (F0 m pc ls ((as.reverse ++ rest).map (xV B b))) (rest.map (xV B b)) (xQc D cT B b v w' (as.map (xV B b)).toArray) (fun q => B ≤ q)) : xSndC Z own cc nL pc q y bytes maxL ret := by
  intro p l e R s m args below meth c Q D cT B b n0 s0 hG ls st w as rest v w' d lo hp hC hd hlo g1 g2 r1 r2 kk a1 a2 H locs lm h1 h2 h3 h4
  obtain ⟨p1, rfl, p3, p4⟩ := pargs_sp hp
  have b1 : n0 ≤ w.length := a1
  have b2 : s0 ≤ wsl w := a2
  refine x_callx (h p l e R s m args below meth c D cT B b H locs lm _ _ w as rest v w' d lo hG p1 p4 p3 h4.2.1 h1 h2 hC hd hlo ⟨?_, ?_⟩) h3 fun H1 locs1 z hP hS => ?_
  · show w.length - n0 + _ ≤ _; omega
  · show wsl w - s0 + _ ≤ _; omega
  · have hr := kk (Nat.le_trans a1 g1) (Nat.le_trans a2 g2) H1 locs1 lm z hP hS h4
    have e3 : w'.length - n0 = w.length - n0 + (w'.length - w.length) := by omega
    have e4 : wsl w' - s0 = wsl w - s0 + (wsl w' - wsl w) := by omega
    simp only [e3, e4, List.map_append] at hr
    have e5 : v.toList.map (xV B b) = (v.map (xV B b)).toList := by cases v <;> rfl
    rw [e5] at hr
    exact hr
theorem xPreS {s : State} {H : Heap} {D : va_G} {cT : ClassId × ClassId} {B b : Nat} {as : List Value} {w : pW} (hK : va_K D vwCl (xT cT) s) (hN : xN s) (h1 : H.size = B + w.length) (h2 : va_P D vwCl (xW cT B b w) H) : PreS s H (xPc D cT B b as w) (as.map (xV B b)) :=
  ⟨xPc_blind, fun U hU hW => ⟨rfl, by rw [hU]; exact h1, by rw [hU]; exact h2, va_K.moved hW.alike hK, xN.warm hW hN⟩⟩
theorem x_callV {index n ci N : Nat} {C : String} {T : u_T} (hq : q.2 = (n + 1, some ci)) (hc : vwCl[ci]? = some (C, T, N)) (hm : Cond.methodLink own index y ∈ wtG) (hi : Cond.instanceMethod y ∈ wtG) (hs : Cond.selects C y y ∈ wtG) (hini : Cond.initialized C ∈ wtG) (hco : Cond.code y bytes maxL ret ∈ wtG)
    (hdx : y.cls = C ∧ y.cls ≠ "java/lang/invoke/MethodHandle" ∧ y.cls ≠ "java/lang/invoke/VarHandle" ∧ (parseMethodDescriptor y.desc).map (fun d => d.parameters.length) = some n) (hd : decode cc pc = .ok (.invokevirtual index, 3)) : xSndC Z own cc nL pc q y bytes maxL ret := by
  refine x_callof fun p l e R s m args below meth c D cT B b H locs ls cells slots w as rest v w' d lo hG p1 p4 p3 hsz h1 h2 hC hdd hlo hf => ?_
  rw [hq] at p1 p4
  obtain ⟨i, As, fs, rfl, hw⟩ := precv_sp p4
  have hts := hG.2.2.2.2.1
  have hK := hG.2.2.2.2.2.1
  refine va_runV (As := As.map (xV B b)) (b := B + i) (rest := rest.map (xV B b)) ⟨hG.1, hG.2.1, hG.2.2.1, hG.2.2.2.1, hts⟩ (hC D cT B b) (cwV n hts (wtG_good _ fun z hz => ?_) rfl rfl rfl hdx ⟨hdd, by show 8 + (maxL + 11) + lo ≤ _; omega⟩) ⟨xPc_blind, va_recv hK h2 hc (xW_at hw), (xPreS hK hG.2.2.2.2.2.2.1 h1 h2).2⟩ rfl (by simpa using p1) hsz ?_ ?_ hd hf
  · simp only [wsV, List.mem_append, List.mem_cons, List.not_mem_nil, or_false] at hz
    rcases hz with (rfl | rfl | rfl | rfl) | rfl | hz
    · exact hm
    · exact hi
    · exact hs
    · exact hini
    · exact hco
    · exact hz
  · show List.map (xV B b) ((Value.ref i :: As).reverse ++ rest) = _
    simp [xV]
  · refine lv_room ?_
    rw [psum_x]
    exact p3
theorem x_callS {index n : Nat} (hq : q.2 = (n, none)) (hm : Cond.methodLink own index y ∈ wtG) (hi : Cond.static y ∈ wtG) (hini : Cond.initialized y.cls ∈ wtG) (hco : Cond.code y bytes maxL ret ∈ wtG)
    (hdx : y.cls ≠ "java/lang/invoke/MethodHandle" ∧ y.cls ≠ "java/lang/invoke/VarHandle" ∧ (parseMethodDescriptor y.desc).map (fun d => d.parameters.length) = some n) (hd : decode cc pc = .ok (.invokestatic index, 3)) : xSndC Z own cc nL pc q y bytes maxL ret := by
  refine x_callof fun p l e R s m args below meth c D cT B b H locs ls cells slots w as rest v w' d lo hG p1 p4 p3 hsz h1 h2 hC hdd hlo hf => ?_
  rw [hq] at p1 p4
  have hts := hG.2.2.2.2.1
  have hK := hG.2.2.2.2.2.1
  refine va_runS (As := as.map (xV B b)) (rest := rest.map (xV B b)) ⟨hG.1, hG.2.1, hG.2.2.1, hG.2.2.2.1, hts⟩ (hC D cT B b) (va_cwS n hts (wtG_good _ fun z hz => ?_) rfl rfl rfl hdx ⟨hdd, by show 8 + (maxL + 11) + lo ≤ _; omega⟩) (xPreS hK hG.2.2.2.2.2.2.1 h1 h2) rfl (by simpa using p1) hsz ?_ ?_ hd hf
  · simp only [va_wsS, List.mem_append, List.mem_cons, List.not_mem_nil, or_false] at hz
    rcases hz with (rfl | rfl | rfl) | rfl | hz
    · exact hm
    · exact hi
    · exact hini
    · exact hco
    · exact hz
  · show List.map (xV B b) (as.reverse ++ rest) = _
    simp
  · refine lv_room ?_
    rw [psum_x]
    exact p3
theorem x_callSN {index n : Nat} {host : String} (hq : q.2 = (n, none)) (hm : (own, index, y, host) ∈ xNl) (hi : Cond.static y ∈ wtG) (hini : Cond.initialized y.cls ∈ wtG) (hco : Cond.code y bytes maxL ret ∈ wtG)
    (hdx : y.cls ≠ "java/lang/invoke/MethodHandle" ∧ y.cls ≠ "java/lang/invoke/VarHandle" ∧ (parseMethodDescriptor y.desc).map (fun d => d.parameters.length) = some n) (hd : decode cc pc = .ok (.invokestatic index, 3)) : xSndC Z own cc nL pc q y bytes maxL ret := by
  refine x_callof fun p l e R s m args below meth c D cT B b H locs ls cells slots w as rest v w' d lo hG p1 p4 p3 hsz h1 h2 hC hdd hlo hf => ?_
  rw [hq] at p1 p4
  have hts := hG.2.2.2.2.1
  have hK := hG.2.2.2.2.2.1
  have hN := hG.2.2.2.2.2.2.1
  refine va_runSN (As := as.map (xV B b)) (rest := rest.map (xV B b)) (host := host) ⟨hG.1, hG.2.1, hG.2.2.1, hG.2.2.2.1, hts⟩ (hC D cT B b) ⟨va_cnB n hts (wtG_good _ fun z hz => ?_) rfl rfl rfl (hN.1 _ hm) (hts _ hini) hdx ⟨hdd, by show 8 + (maxL + 11) + lo ≤ _; omega⟩, hts _ hi, trivial⟩ (xPreS hK hN h1 h2) rfl (by simpa using p1) hsz ?_ ?_ hd hf
  · rcases List.mem_cons.mp hz with rfl | hz
    · exact hco
    · exact hz
  · show List.map (xV B b) (as.reverse ++ rest) = _
    simp
  · refine lv_room ?_
    rw [psum_x]
    exact p3
theorem x_callIN {index n ci : Nat} {host : String} (hq : q.2 = (n + 1, some ci)) (hrt : ret = none) (hm : (own, index, y, host) ∈ xNl) (hnm : y.name = "<init>") (hi : Cond.instanceMethod y ∈ wtG) (hini : Cond.initialized y.cls ∈ wtG) (hco : Cond.code y bytes maxL ret ∈ wtG)
    (hdx : y.cls ≠ "java/lang/invoke/MethodHandle" ∧ y.cls ≠ "java/lang/invoke/VarHandle" ∧ (parseMethodDescriptor y.desc).map (fun d => d.parameters.length) = some n) (hd : decode cc pc = .ok (.invokespecial index, 3)) : xSndC Z own cc nL pc q y bytes maxL ret := by
  subst hrt
  refine x_callof fun p l e R s m args below meth c D cT B b H locs ls cells slots w as rest v w' d lo hG p1 p4 p3 hsz h1 h2 hC hdd hlo hf => ?_
  rw [hq] at p1 p4
  obtain ⟨i, As, fs, rfl, hw⟩ := precv_sp p4
  have hts := hG.2.2.2.2.1
  have hK := hG.2.2.2.2.2.1
  have hN := hG.2.2.2.2.2.2.1
  refine va_runIN (As := As.map (xV B b)) (b := B + i) (rest := rest.map (xV B b)) (host := host) ⟨hG.1, hG.2.1, hG.2.2.1, hG.2.2.2.1, hts⟩ (hC D cT B b) ⟨va_cnB n hts (wtG_good _ fun z hz => ?_) rfl rfl rfl (hN.1 _ hm) (hts _ hini) hdx ⟨hdd, by show 8 + (maxL + 11) + lo ≤ _; omega⟩, hnm, hts _ hi⟩ (xPreS hK hN h1 h2) rfl (by simpa using p1) hsz ?_ ?_ hd hf
  · rcases List.mem_cons.mp hz with rfl | hz
    · exact hco
    · exact hz
  · show List.map (xV B b) ((Value.ref i :: As).reverse ++ rest) = _
    simp [xV]
  · refine lv_room ?_
    rw [psum_x]
    exact p3
theorem x_callI {index n ci : Nat} (hq : q.2 = (n + 1, some ci)) (hrt : ret = none) (hm : Cond.methodLink own index y ∈ wtG) (hnm : y.name = "<init>") (hi : Cond.instanceMethod y ∈ wtG) (hini : Cond.initialized y.cls ∈ wtG) (hco : Cond.code y bytes maxL ret ∈ wtG)
    (hdx : y.cls ≠ "java/lang/invoke/MethodHandle" ∧ y.cls ≠ "java/lang/invoke/VarHandle" ∧ (parseMethodDescriptor y.desc).map (fun d => d.parameters.length) = some n) (hd : decode cc pc = .ok (.invokespecial index, 3)) : xSndC Z own cc nL pc q y bytes maxL ret := by
  subst hrt
  refine x_callof fun p l e R s m args below meth c D cT B b H locs ls cells slots w as rest v w' d lo hG p1 p4 p3 hsz h1 h2 hC hdd hlo hf => ?_
  rw [hq] at p1 p4
  obtain ⟨i, As, fs, rfl, hw⟩ := precv_sp p4
  have hts := hG.2.2.2.2.1
  have hK := hG.2.2.2.2.2.1
  have hN := hG.2.2.2.2.2.2.1
  refine va_runI (As := As.map (xV B b)) (b := B + i) (rest := rest.map (xV B b)) ⟨hG.1, hG.2.1, hG.2.2.1, hG.2.2.2.1, hts⟩ (hC D cT B b) (cwI n hts (wtG_good _ fun z hz => ?_) rfl rfl rfl (hts _ hini) (hts _ hm) (hts _ hi) hnm hdx ⟨hdd, by show 8 + (maxL + 11) + lo ≤ _; omega⟩) (xPreS hK hN h1 h2) rfl (by simpa using p1) hsz ?_ ?_ hd hf
  · rcases List.mem_cons.mp hz with rfl | hz
    · exact hco
    · exact hz
  · show List.map (xV B b) ((Value.ref i :: As).reverse ++ rest) = _
    simp [xV]
  · refine lv_room ?_
    rw [psum_x]
    exact p3
end XD
