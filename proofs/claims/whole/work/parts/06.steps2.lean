/-! locals, branches, fields, arrays -/
section XJ
variable {Z : Room → Nat → Nat → State → String → Prop} {own : String} {cc : ByteArray} {nL pc : Nat}
theorem x_loadof {n i : Nat} {ok : Value → Bool} (h : ∀ (p : Program) (l : Launch) (e : Env) (R : Room) (s : State) (m : MethodId) (args : Array Value) (below : List Frame) (meth : Method) (c : Code) (Q : State → Prop) (B b : Nat) (v : Value) (rest : List Value) (H : Heap) (locs : List Loc) (ls : Array Slot) (cells slots : Nat), p.tables.exec = Jvm.exec → c.code = cc → ok v = true → ls[i]? = some (.val (xV B b v)) →
    W p l e R s m args below meth c H locs cells slots Q (F0 m n ls (xV B b v :: rest)) → W p l e R s m args below meth c H locs cells slots Q (F0 m pc ls rest)) : xSnd Z own cc nL pc (ploadk ok i n) := by
  intro p l e R s m args below meth c Q D cT B b n0 s0 hG hZ ls st w C hC
  simp only [ploadk] at hC
  split at hC
  · rename_i v hv
    cases ho : ok v with
    | false => rw [ho] at hC; cases hC
    | true =>
      rw [ho] at hC
      cases hC
      refine ⟨⟨Nat.le_refl _, Nat.le_refl _⟩, fun _ _ k a1 a2 H locs ls' h1 h2 h3 h4 => ?_⟩
      exact h p l e R s m args below meth c Q B b v _ H locs ls' _ _ hG.1 hG.2.1 ho (h4.2.2.2 _ _ hv) (k a1 a2 H locs ls' h1 h2 h3 h4)
  · cases hC
theorem x_iload_n {k : Fin 4} {i : Nat} (hd : decode cc pc = .ok (.iload_n k, 1)) (hi : (k : Nat) = i) : xSnd Z own cc nL pc (ploadk isI i (pc + 1)) := by
  refine x_loadof fun p l e R s m args below meth c Q B b v rest H locs ls cells slots hx hb ho hl k => ?_
  cases v <;> first | (cases ho; done) | exact lv_iload_n hx hb hd hi hl k
theorem x_iload {i : Nat} (hd : decode cc pc = .ok (.iload i, 2)) : xSnd Z own cc nL pc (ploadk isI i (pc + 2)) := by
  refine x_loadof fun p l e R s m args below meth c Q B b v rest H locs ls cells slots hx hb ho hl k => ?_
  cases v <;> first | (cases ho; done) | exact lv_iload hx hb hd hl k
theorem x_lload_n {k : Fin 4} {i : Nat} (hd : decode cc pc = .ok (.lload_n k, 1)) (hi : (k : Nat) = i) : xSnd Z own cc nL pc (ploadk isL i (pc + 1)) := by
  refine x_loadof fun p l e R s m args below meth c Q B b v rest H locs ls cells slots hx hb ho hl k => ?_
  cases v <;> first | (cases ho; done) | exact lv_lload_n hx hb hd hi hl k
theorem x_lload {i : Nat} (hd : decode cc pc = .ok (.lload i, 2)) : xSnd Z own cc nL pc (ploadk isL i (pc + 2)) := by
  refine x_loadof fun p l e R s m args below meth c Q B b v rest H locs ls cells slots hx hb ho hl k => ?_
  cases v <;> first | (cases ho; done) | exact lv_lload hx hb hd hl k
theorem x_aload_n {k : Fin 4} {i : Nat} (hd : decode cc pc = .ok (.aload_n k, 1)) (hi : (k : Nat) = i) : xSnd Z own cc nL pc (ploadk isA i (pc + 1)) := by
  refine x_loadof fun p l e R s m args below meth c Q B b v rest H locs ls cells slots hx hb ho hl k => ?_
  cases v <;> first | (cases ho; done) | exact lv_aload_n hx hb hd hi hl k | exact lv_aload_nN hx hb hd hi hl k
theorem x_aload {i : Nat} (hd : decode cc pc = .ok (.aload i, 2)) : xSnd Z own cc nL pc (ploadk isA i (pc + 2)) := by
  refine x_loadof fun p l e R s m args below meth c Q B b v rest H locs ls cells slots hx hb ho hl k => ?_
  cases v <;> first | (cases ho; done) | exact lv_aload hx hb hd hl k | exact lv_aloadN hx hb hd hl k
theorem x_storeof {n i ct : Nat} {ok : Value → Bool} (hct : ∀ v, ok v = true → v.category = ct) (h : ∀ (p : Program) (l : Launch) (e : Env) (R : Room) (s : State) (m : MethodId) (args : Array Value) (below : List Frame) (meth : Method) (c : Code) (Q : State → Prop) (B b : Nat) (v : Value) (rest : List Value) (H : Heap) (locs : List Loc) (ls : Array Slot) (L : pL) (cells slots : Nat), p.tables.exec = Jvm.exec → c.code = cc → ok v = true → i + ct ≤ nL → xL B b nL L ls →
    (∀ ls' : Array Slot, xL B b nL (pset i v L) ls' → W p l e R s m args below meth c H locs cells slots Q (F0 m n ls' rest)) → W p l e R s m args below meth c H locs cells slots Q (F0 m pc ls (xV B b v :: rest))) : xSnd Z own cc nL pc (pstore ok i n) := by
  intro p l e R s m args below meth c Q D cT B b n0 s0 hG hZ ls st w C hC
  cases st with
  | nil => cases hC
  | cons v st' =>
    simp only [pstore] at hC
    cases ho : (ok v && Nat.ble (i + v.category) ls.length) with
    | false => rw [ho] at hC; cases hC
    | true =>
      rw [ho] at hC
      cases hC
      rw [Bool.and_eq_true] at ho
      refine ⟨⟨Nat.le_refl _, Nat.le_refl _⟩, fun _ _ k a1 a2 H locs lm h1 h2 h3 h4 => ?_⟩
      have hle := Nat.le_of_ble_eq_true ho.2
      rw [h4.1, hct v ho.1] at hle
      exact h p l e R s m args below meth c Q B b v _ H locs lm _ _ _ hG.1 hG.2.1 ho.1 hle h4 (fun lm' h5 => k a1 a2 H locs lm' h1 h2 h3 h5)
theorem isI_cat (v : Value) (h : isI v = true) : v.category = 1 := by cases v <;> first | rfl | cases h
theorem isL_cat (v : Value) (h : isL v = true) : v.category = 2 := by cases v <;> first | rfl | cases h
theorem isA_cat (v : Value) (h : isA v = true) : v.category = 1 := by cases v <;> first | rfl | cases h
theorem x_istore_n {k : Fin 4} {i : Nat} (hd : decode cc pc = .ok (.istore_n k, 1)) (hi : (k : Nat) = i) : xSnd Z own cc nL pc (pstore isI i (pc + 1)) := by
  refine x_storeof isI_cat fun p l e R s m args below meth c Q B b v rest H locs ls L cells slots hx hb ho hn hl k => ?_
  cases v <;> first | (cases ho; done) | exact lv_istore_n hx hb hd hi (xL_has hl) hn rfl (fun ls' h' => k ls' (xL_set1 hl.1 hn rfl h'))
theorem x_istore {i : Nat} (hd : decode cc pc = .ok (.istore i, 2)) : xSnd Z own cc nL pc (pstore isI i (pc + 2)) := by
  refine x_storeof isI_cat fun p l e R s m args below meth c Q B b v rest H locs ls L cells slots hx hb ho hn hl k => ?_
  cases v <;> first | (cases ho; done) | exact lv_istore hx hb hd (xL_has hl) hn rfl (fun ls' h' => k ls' (xL_set1 hl.1 hn rfl h'))
theorem x_lstore_n {k : Fin 4} {i : Nat} (hd : decode cc pc = .ok (.lstore_n k, 1)) (hi : (k : Nat) = i) : xSnd Z own cc nL pc (pstore isL i (pc + 1)) := by
  refine x_storeof isL_cat fun p l e R s m args below meth c Q B b v rest H locs ls L cells slots hx hb ho hn hl k => ?_
  cases v <;> first | (cases ho; done) | exact lv_lstore_n hx hb hd hi (xL_has hl) hn rfl (fun ls' h' => k ls' (xL_set2 hl.1 hn rfl h'))
theorem x_lstore {i : Nat} (hd : decode cc pc = .ok (.lstore i, 2)) : xSnd Z own cc nL pc (pstore isL i (pc + 2)) := by
  refine x_storeof isL_cat fun p l e R s m args below meth c Q B b v rest H locs ls L cells slots hx hb ho hn hl k => ?_
  cases v <;> first | (cases ho; done) | exact lv_lstore hx hb hd (xL_has hl) hn rfl (fun ls' h' => k ls' (xL_set2 hl.1 hn rfl h'))
theorem x_astore_n {k : Fin 4} {i : Nat} (hd : decode cc pc = .ok (.astore_n k, 1)) (hi : (k : Nat) = i) : xSnd Z own cc nL pc (pstore isA i (pc + 1)) := by
  refine x_storeof isA_cat fun p l e R s m args below meth c Q B b v rest H locs ls L cells slots hx hb ho hn hl k => ?_
  cases v <;> first | (cases ho; done) | exact lv_astore_n hx hb hd hi (xL_has hl) hn rfl (fun ls' h' => k ls' (xL_set1 hl.1 hn rfl h')) | exact lv_astore_nN hx hb hd hi (xL_has hl) hn rfl (fun ls' h' => k ls' (xL_set1 hl.1 hn rfl h'))
theorem x_astore {i : Nat} (hd : decode cc pc = .ok (.astore i, 2)) : xSnd Z own cc nL pc (pstore isA i (pc + 2)) := by
  refine x_storeof isA_cat fun p l e R s m args below meth c Q B b v rest H locs ls L cells slots hx hb ho hn hl k => ?_
  cases v <;> first | (cases ho; done) | exact lv_astore hx hb hd (xL_has hl) hn rfl (fun ls' h' => k ls' (xL_set1 hl.1 hn rfl h')) | exact lv_astoreN hx hb hd (xL_has hl) hn rfl (fun ls' h' => k ls' (xL_set1 hl.1 hn rfl h'))
theorem x_iinc {i : Nat} {z : Int} {d : Int32} (hd : decode cc pc = .ok (.iinc i z, 3)) (hz : Int32.ofInt z = d) : xSnd Z own cc nL pc (piinc i d (pc + 3)) := by
  intro p l e R s m args below meth c Q D cT B b n0 s0 hG hZ ls st w C hC
  unfold piinc at hC
  simp only at hC
  split at hC
  · rename_i x hv
    cases hC
    refine ⟨⟨Nat.le_refl _, Nat.le_refl _⟩, fun _ _ k a1 a2 H locs lm h1 h2 h3 h4 => ?_⟩
    have hi : i < nL := by rw [← h4.1]; exact (List.getElem?_eq_some_iff.mp hv).1
    have hmem : (i, Value.int x) ∈ xl B b ls := xl_mem hv
    obtain ⟨j, hj⟩ := List.getElem?_of_mem hmem
    exact lv_iinc (k := j) hG.1 hG.2.1 hd (xL_has h4) hj (by rw [hz]) hi rfl (fun ls' h' => k a1 a2 H locs ls' h1 h2 h3 (xL_set1 (v := .int (x + d)) h4.1 hi rfl h'))
  · cases hC
-- branches
theorem pif_sp {cd : Int32 → Bool} {t n pc : Nat} {ls : pL} {st : List Value} {w : pW} {C : pC} (h : pif cd t n (pc, ls, st, w) = some C) : ∃ x st', st = .int x :: st' ∧ C = (bif cd x then t else n, ls, st', w) := by
  cases st with
  | nil => cases h
  | cons v st' => cases v <;> first | (cases h; done) | exact ⟨_, _, rfl, (Option.some.inj h).symm⟩
theorem picmp_sp {cd : Int32 → Int32 → Bool} {t n pc : Nat} {ls : pL} {st : List Value} {w : pW} {C : pC} (h : picmp cd t n (pc, ls, st, w) = some C) : ∃ x y st', st = .int y :: .int x :: st' ∧ C = (bif cd x y then t else n, ls, st', w) := by
  cases st with
  | nil => cases h
  | cons v st' => cases v <;> first | (cases h; done) | (cases st' with
    | nil => cases h
    | cons u st2 => cases u <;> first | (cases h; done) | exact ⟨_, _, _, rfl, (Option.some.inj h).symm⟩)
theorem x_ifof {t n : Nat} {cd : Int32 → Bool} (h : ∀ (p : Program) (l : Launch) (e : Env) (R : Room) (s : State) (m : MethodId) (args : Array Value) (below : List Frame) (meth : Method) (c : Code) (Q : State → Prop) (x : Int32) (rest : List Value) (H : Heap) (locs : List Loc) (ls : Array Slot) (cells slots : Nat), p.tables.exec = Jvm.exec → c.code = cc →
    (cd x = true → W p l e R s m args below meth c H locs cells slots Q (F0 m t ls rest)) → (cd x = false → W p l e R s m args below meth c H locs cells slots Q (F0 m n ls rest)) → W p l e R s m args below meth c H locs cells slots Q (F0 m pc ls (.int x :: rest))) : xSnd Z own cc nL pc (pif cd t n) := by
  intro p l e R s m args below meth c Q D cT B b n0 s0 hG hZ ls st w C hC
  obtain ⟨x, st', rfl, rfl⟩ := pif_sp hC
  refine ⟨⟨Nat.le_refl _, Nat.le_refl _⟩, fun _ _ k a1 a2 H locs lm h1 h2 h3 h4 => ?_⟩
  have kk := k a1 a2 H locs lm h1 h2 h3 h4
  refine h p l e R s m args below meth c Q x _ H locs lm _ _ hG.1 hG.2.1 (fun q => ?_) (fun q => ?_)
  · simp only [q, cond_true] at kk; exact kk
  · simp only [q, cond_false] at kk; exact kk
theorem x_icmpof {t n : Nat} {cd : Int32 → Int32 → Bool} (h : ∀ (p : Program) (l : Launch) (e : Env) (R : Room) (s : State) (m : MethodId) (args : Array Value) (below : List Frame) (meth : Method) (c : Code) (Q : State → Prop) (x y : Int32) (rest : List Value) (H : Heap) (locs : List Loc) (ls : Array Slot) (cells slots : Nat), p.tables.exec = Jvm.exec → c.code = cc →
    (cd x y = true → W p l e R s m args below meth c H locs cells slots Q (F0 m t ls rest)) → (cd x y = false → W p l e R s m args below meth c H locs cells slots Q (F0 m n ls rest)) → W p l e R s m args below meth c H locs cells slots Q (F0 m pc ls (.int y :: .int x :: rest))) : xSnd Z own cc nL pc (picmp cd t n) := by
  intro p l e R s m args below meth c Q D cT B b n0 s0 hG hZ ls st w C hC
  obtain ⟨x, y, st', rfl, rfl⟩ := picmp_sp hC
  refine ⟨⟨Nat.le_refl _, Nat.le_refl _⟩, fun _ _ k a1 a2 H locs lm h1 h2 h3 h4 => ?_⟩
  have kk := k a1 a2 H locs lm h1 h2 h3 h4
  refine h p l e R s m args below meth c Q x y _ H locs lm _ _ hG.1 hG.2.1 (fun q => ?_) (fun q => ?_)
  · simp only [q, cond_true] at kk; exact kk
  · simp only [q, cond_false] at kk; exact kk
theorem x_if_eq {off : Int} {t : Nat} (hd : decode cc pc = .ok (.ifCond .eq off, 3)) (ht : (pc : Int) + off = (t : Int)) : xSnd Z own cc nL pc (pif (fun x => cEq x 0) t (pc + 3)) := x_ifof fun _ _ _ _ _ _ _ _ _ _ _ _ _ _ _ _ _ _ hx hb k1 k2 => lv_if_eq hx hb hd ht (fun q => k1 (decide_eq_true q)) (fun q => k2 (decide_eq_false q))
theorem x_if_ne {off : Int} {t : Nat} (hd : decode cc pc = .ok (.ifCond .ne off, 3)) (ht : (pc : Int) + off = (t : Int)) : xSnd Z own cc nL pc (pif (fun x => cNe x 0) t (pc + 3)) := x_ifof fun _ _ _ _ _ _ _ _ _ _ _ _ _ _ _ _ _ _ hx hb k1 k2 => lv_if_ne hx hb hd ht (fun q => k1 (by simp only [cNe, q]; rfl)) (fun q => k2 (by simp only [cNe]; simpa using q))
theorem x_if_lt {off : Int} {t : Nat} (hd : decode cc pc = .ok (.ifCond .lt off, 3)) (ht : (pc : Int) + off = (t : Int)) : xSnd Z own cc nL pc (pif (fun x => cLt x 0) t (pc + 3)) := x_ifof fun _ _ _ _ _ _ _ _ _ _ _ _ _ _ _ _ _ _ hx hb k1 k2 => lv_if_lt hx hb hd ht (fun q => k1 (decide_eq_true q)) (fun q => k2 (decide_eq_false q))
theorem x_if_ge {off : Int} {t : Nat} (hd : decode cc pc = .ok (.ifCond .ge off, 3)) (ht : (pc : Int) + off = (t : Int)) : xSnd Z own cc nL pc (pif (fun x => cGe x 0) t (pc + 3)) := x_ifof fun _ _ _ _ _ _ _ _ _ _ _ _ _ _ _ _ _ _ hx hb k1 k2 => lv_if_ge hx hb hd ht (fun q => k1 (decide_eq_true q)) (fun q => k2 (decide_eq_false q))
theorem x_if_gt {off : Int} {t : Nat} (hd : decode cc pc = .ok (.ifCond .gt off, 3)) (ht : (pc : Int) + off = (t : Int)) : xSnd Z own cc nL pc (pif (fun x => cGt x 0) t (pc + 3)) := x_ifof fun _ _ _ _ _ _ _ _ _ _ _ _ _ _ _ _ _ _ hx hb k1 k2 => lv_if_gt hx hb hd ht (fun q => k1 (decide_eq_true q)) (fun q => k2 (decide_eq_false q))
theorem x_if_le {off : Int} {t : Nat} (hd : decode cc pc = .ok (.ifCond .le off, 3)) (ht : (pc : Int) + off = (t : Int)) : xSnd Z own cc nL pc (pif (fun x => cLe x 0) t (pc + 3)) := x_ifof fun _ _ _ _ _ _ _ _ _ _ _ _ _ _ _ _ _ _ hx hb k1 k2 => lv_if_le hx hb hd ht (fun q => k1 (decide_eq_true q)) (fun q => k2 (decide_eq_false q))
theorem x_icmp_eq {off : Int} {t : Nat} (hd : decode cc pc = .ok (.if_icmp .eq off, 3)) (ht : (pc : Int) + off = (t : Int)) : xSnd Z own cc nL pc (picmp cEq t (pc + 3)) := x_icmpof fun _ _ _ _ _ _ _ _ _ _ _ _ _ _ _ _ _ _ _ hx hb k1 k2 => lv_icmp_eq hx hb hd ht (fun q => k1 (decide_eq_true q)) (fun q => k2 (decide_eq_false q))
theorem x_icmp_ne {off : Int} {t : Nat} (hd : decode cc pc = .ok (.if_icmp .ne off, 3)) (ht : (pc : Int) + off = (t : Int)) : xSnd Z own cc nL pc (picmp cNe t (pc + 3)) := x_icmpof fun _ _ _ _ _ _ _ _ _ _ _ _ _ _ _ _ _ _ _ hx hb k1 k2 => lv_icmp_ne hx hb hd ht (fun q => k1 (by simp only [cNe, q]; rfl)) (fun q => k2 (by simp only [cNe]; simpa using q))
theorem x_icmp_lt {off : Int} {t : Nat} (hd : decode cc pc = .ok (.if_icmp .lt off, 3)) (ht : (pc : Int) + off = (t : Int)) : xSnd Z own cc nL pc (picmp cLt t (pc + 3)) := x_icmpof fun _ _ _ _ _ _ _ _ _ _ _ _ _ _ _ _ _ _ _ hx hb k1 k2 => lv_icmp_lt hx hb hd ht (fun q => k1 (decide_eq_true q)) (fun q => k2 (decide_eq_false q))
theorem x_icmp_ge {off : Int} {t : Nat} (hd : decode cc pc = .ok (.if_icmp .ge off, 3)) (ht : (pc : Int) + off = (t : Int)) : xSnd Z own cc nL pc (picmp cGe t (pc + 3)) := x_icmpof fun _ _ _ _ _ _ _ _ _ _ _ _ _ _ _ _ _ _ _ hx hb k1 k2 => lv_icmp_ge hx hb hd ht (fun q => k1 (decide_eq_true q)) (fun q => k2 (decide_eq_false q))
theorem x_icmp_gt {off : Int} {t : Nat} (hd : decode cc pc = .ok (.if_icmp .gt off, 3)) (ht : (pc : Int) + off = (t : Int)) : xSnd Z own cc nL pc (picmp cGt t (pc + 3)) := x_icmpof fun _ _ _ _ _ _ _ _ _ _ _ _ _ _ _ _ _ _ _ hx hb k1 k2 => lv_icmp_gt hx hb hd ht (fun q => k1 (decide_eq_true q)) (fun q => k2 (decide_eq_false q))
theorem x_icmp_le {off : Int} {t : Nat} (hd : decode cc pc = .ok (.if_icmp .le off, 3)) (ht : (pc : Int) + off = (t : Int)) : xSnd Z own cc nL pc (picmp cLe t (pc + 3)) := x_icmpof fun _ _ _ _ _ _ _ _ _ _ _ _ _ _ _ _ _ _ _ hx hb k1 k2 => lv_icmp_le hx hb hd ht (fun q => k1 (decide_eq_true q)) (fun q => k2 (decide_eq_false q))
theorem x_ifnull {off : Int} {t : Nat} (hd : decode cc pc = .ok (.ifnull off, 3)) (ht : (pc : Int) + off = (t : Int)) : xSnd Z own cc nL pc (pnull t (pc + 3)) := by
  intro p l e R s m args below meth c Q D cT B b n0 s0 hG hZ ls st w C hC
  unfold pnull at hC
  split at hC
  · rename_i hq
    cases hq
    cases hC
    exact ⟨⟨Nat.le_refl _, Nat.le_refl _⟩, fun _ _ k a1 a2 H locs lm h1 h2 h3 h4 => lv_ifnullN hG.1 hG.2.1 hd ht (k a1 a2 H locs lm h1 h2 h3 h4)⟩
  · rename_i hq
    cases hq
    cases hC
    exact ⟨⟨Nat.le_refl _, Nat.le_refl _⟩, fun _ _ k a1 a2 H locs lm h1 h2 h3 h4 => lv_ifnull hG.1 hG.2.1 hd (k a1 a2 H locs lm h1 h2 h3 h4)⟩
  · cases hC
theorem x_ifnonnull {off : Int} {t : Nat} (hd : decode cc pc = .ok (.ifnonnull off, 3)) (ht : (pc : Int) + off = (t : Int)) : xSnd Z own cc nL pc (pnull (pc + 3) t) := by
  intro p l e R s m args below meth c Q D cT B b n0 s0 hG hZ ls st w C hC
  unfold pnull at hC
  split at hC
  · rename_i hq
    cases hq
    cases hC
    exact ⟨⟨Nat.le_refl _, Nat.le_refl _⟩, fun _ _ k a1 a2 H locs lm h1 h2 h3 h4 => lv_ifnonnullN hG.1 hG.2.1 hd (k a1 a2 H locs lm h1 h2 h3 h4)⟩
  · rename_i hq
    cases hq
    cases hC
    exact ⟨⟨Nat.le_refl _, Nat.le_refl _⟩, fun _ _ k a1 a2 H locs lm h1 h2 h3 h4 => lv_ifnonnull hG.1 hG.2.1 hd ht (k a1 a2 H locs lm h1 h2 h3 h4)⟩
  · cases hC
/-- a switch: its table says of each key where it goes; whatever key there is, the machine goes where the table says -/
theorem x_swof {tb : List (Int32 × Nat)} {d : Nat} (h : ∀ (p : Program) (l : Launch) (e : Env) (R : Room) (s : State) (m : MethodId) (args : Array Value) (below : List Frame) (meth : Method) (c : Code) (Q : State → Prop) (x : Int32) (rest : List Value) (H : Heap) (locs : List Loc) (ls : Array Slot) (cells slots : Nat), p.tables.exec = Jvm.exec → c.code = cc →
    W p l e R s m args below meth c H locs cells slots Q (F0 m (ptab tb d x) ls rest) → W p l e R s m args below meth c H locs cells slots Q (F0 m pc ls (.int x :: rest))) : xSnd Z own cc nL pc (psw tb d) := by
  intro p l e R s m args below meth c Q D cT B b n0 s0 hG hZ ls st w C hC
  unfold psw at hC
  split at hC
  · rename_i hq
    cases hq
    cases hC
    exact ⟨⟨Nat.le_refl _, Nat.le_refl _⟩, fun _ _ k a1 a2 H locs lm h1 h2 h3 h4 => h p l e R s m args below meth c Q _ _ H locs lm _ _ hG.1 hG.2.1 (k a1 a2 H locs lm h1 h2 h3 h4)⟩
  · cases hC
theorem ptab_out {tb : List (Int32 × Nat)} {d : Nat} {x : Int32} (h : ∀ q ∈ tb, x ≠ q.1) : ptab tb d x = d := by
  induction tb with
  | nil => rfl
  | cons q r ih =>
    obtain ⟨k, t⟩ := q
    simp only [ptab]
    rw [decide_eq_false (h (k, t) List.mem_cons_self)]
    exact ih fun q hq => h q (List.mem_cons_of_mem _ hq)
theorem ptab_in {tb : List (Int32 × Nat)} {d : Nat} {x : Int32} {P : Nat → Prop} (hin : ∀ q ∈ tb, x = q.1 → P q.2) (hout : (∀ q ∈ tb, x ≠ q.1) → P d) : P (ptab tb d x) := by
  induction tb with
  | nil => exact hout fun q hq => by cases hq
  | cons q r ih =>
    obtain ⟨k, t⟩ := q
    simp only [ptab]
    by_cases h : x = k
    · rw [decide_eq_true h]
      exact hin (k, t) List.mem_cons_self h
    · rw [decide_eq_false h]
      exact ih (fun q hq => hin q (List.mem_cons_of_mem _ hq)) (fun h2 => hout fun q hq => by
        rcases List.mem_cons.mp hq with rfl | hq
        · exact h
        · exact h2 q hq)
/-- tableswitch, its places 0 .. n - 1 from lo on -/
theorem x_tsw {dflt lo hi : Int} {offs : Array Int} {len : Nat} {tb : List (Int32 × Nat)} {d : Nat} (hd : decode cc pc = .ok (.tableswitch dflt lo hi offs, len)) (hdf : (pc : Int) + dflt = (d : Int))
    (hin : ∀ q ∈ tb, lo ≤ q.1.toInt ∧ q.1.toInt ≤ hi ∧ (offs[(q.1.toInt - lo).toNat]?).map (fun o => (pc : Int) + o) = some (q.2 : Int)) (hall : ∀ j : Nat, j < (hi - lo + 1).toNat → ∃ q ∈ tb, q.1.toInt = lo + j) : xSnd Z own cc nL pc (psw tb d) := by
  refine x_swof fun p l e R s m args below meth c Q x rest H locs ls cells slots hx hb k => ?_
  revert k
  refine ptab_in (tb := tb) (d := d) (x := x) (P := fun t => W p l e R s m args below meth c H locs cells slots Q (F0 m t ls rest) → _) (fun q hq e1 k => ?_) (fun hne k => ?_)
  · subst e1
    obtain ⟨h1, h2, h3⟩ := hin q hq
    obtain ⟨o, ho, ho2⟩ := Option.map_eq_some_iff.mp h3
    exact lv_tableIn hx hb hd (by omega) (by omega) ho ho2 k
  · refine lv_tableOut hx hb hd ?_ hdf k
    by_cases h1 : x.toInt < lo
    · exact Or.inl h1
    · by_cases h2 : hi < x.toInt
      · exact Or.inr h2
      · obtain ⟨q, hq, e1⟩ := hall (x.toInt - lo).toNat (by omega)
        exact absurd (Int32.toInt_inj.mp (by rw [e1]; omega)) (hne q hq)
/-- lookupswitch -/
theorem x_lsw {dflt : Int} {ps : Array (Int × Int)} {len : Nat} {tb : List (Int32 × Nat)} {d : Nat} (hd : decode cc pc = .ok (.lookupswitch dflt ps, len)) (hp : (ps.toList.zip (ps.toList.drop 1)).all (fun (a, next) => a.1 < next.1) = true)
    (hall : ∀ x : Int32, (pc : Int) + Op.lookupswitch.offset ps.toList dflt x.toInt = (ptab tb d x : Int)) : xSnd Z own cc nL pc (psw tb d) := by
  refine x_swof fun p l e R s m args below meth c Q x rest H locs ls cells slots hx hb k => ?_
  exact lv_lookup hx hb hd hp rfl (hall x) k
end XJ
