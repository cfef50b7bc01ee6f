/-! what a step of the pure machine is worth on the machine -/
def wtG : List Cond := lw_tbl.filter goodWord
theorem wtG_of {w : Cond} (i : Nat) (h : lw_tbl[i]? = some w) (hg : goodWord w = true) : w ∈ wtG := List.mem_filter.mpr ⟨List.mem_of_getElem? h, hg⟩
theorem wtG_good (ws : List Cond) (h : ∀ w ∈ ws, w ∈ wtG) : GoodIn (wtG) ws := fun w hw => ⟨h w hw, good_of_word (List.mem_filter.mp (h w hw)).2⟩
/-- the words of nest mates, which travel beside the others -/
def xNl : List (String × Nat × MethodName × String) := [("HullCharts", 11, ⟨"HullCharts$Sheet", "<init>", "()V"⟩, "HullCharts"), ("HullCharts", 20, ⟨"HullCharts$Sea", "<init>", "()V"⟩, "HullCharts"), ("HullCharts", 27, ⟨"HullCharts$Readings", "<init>", "()V"⟩, "HullCharts"), ("HullCharts$Readings", 23, ⟨"HullCharts", "setNumber", "([III)V"⟩, "HullCharts"), ("HullCharts$Readings", 29, ⟨"HullCharts", "numberAt", "([II)I"⟩, "HullCharts"), ("HullCharts$Sea", 23, ⟨"HullCharts", "numberAt", "([II)I"⟩, "HullCharts"), ("HullCharts$Sea", 52, ⟨"HullCharts", "setNumber", "([III)V"⟩, "HullCharts"), ("HullCharts$SeaText", 26, ⟨"HullCharts", "numberAt", "([II)I"⟩, "HullCharts"), ("HullCharts$SeaText", 43, ⟨"HullCharts", "within", "(III)Z"⟩, "HullCharts"), ("HullCharts$Sheet", 36, ⟨"HullCharts", "numberAt", "([II)I"⟩, "HullCharts"), ("HullCharts$Sheet", 44, ⟨"HullCharts", "setNumber", "([III)V"⟩, "HullCharts")]
def xN (U : State) : Prop := (∀ q ∈ xNl, va_Nw (.methodLinkNest q.1 q.2.1 q.2.2.1 q.2.2.2) U) ∧ va_AO RX3 U
theorem xN.warm {s U : State} (hW : s.WarmedH U.vm) (h : xN s) : xN U := ⟨fun q hq => va_Nw.warmM hW (h.1 q hq), va_AO.moved hW.alike h.2⟩
theorem xN.same {u U : State} (h : u.vm = U.vm) (hu : xN u) : xN U := ⟨fun q hq => va_Nw.same rfl h (hu.1 q hq), va_AO.moved (h ▸ Vm.Alike.refl u.vm) hu.2⟩
abbrev xT (cT : ClassId × ClassId) : List (ClassId × FieldType) := [(cT.1, .int), (cT.2, .object RX3)]
def xG (p : Program) (s : State) (m : MethodId) (args : Array Value) (c : Code) (own : String) (cc : ByteArray) (nL : Nat) (D : va_G) (cT : ClassId × ClassId) (B : Nat) : Prop :=
  p.tables.exec = Jvm.exec ∧ c.code = cc ∧ c.maxLocals = nL ∧ s.vm.findClass own = some m.cls ∧ (∀ w ∈ wtG, w.before args s = true) ∧ va_K D vwCl (xT cT) s ∧ xN s ∧ B ≤ s.heap.size
section XS
variable {p : Program} {l : Launch} {e : Env} {R : Room} {s : State} {m : MethodId} {args : Array Value} {below : List Frame} {meth : Method} {c : Code} {Q : State → Prop}
variable {D : va_G} {cT : ClassId × ClassId} {B b n0 s0 nL : Nat} {own : String} {cc : ByteArray}
def xWp (p : Program) (l : Launch) (e : Env) (R : Room) (s : State) (m : MethodId) (args : Array Value) (below : List Frame) (meth : Method) (c : Code) (Q : State → Prop) (D : va_G) (cT : ClassId × ClassId) (B b n0 s0 nL : Nat) (C : pC) : Prop :=
  n0 ≤ C.2.2.2.length → s0 ≤ wsl C.2.2.2 → ∀ (H : Heap) (locs : List Loc) (ls : Array Slot), H.size = B + C.2.2.2.length → va_P D vwCl (xW cT B b C.2.2.2) H → va_S (fun q => B ≤ q) s.heap H locs → xL B b nL C.2.1 ls →
    W p l e R s m args below meth c H locs (C.2.2.2.length - n0) (wsl C.2.2.2 - s0) Q (F0 m C.1 ls (C.2.2.1.map (xV B b)))
/-- a plain instruction at pc, as a function: it makes no cell vanish, and what is shown of its end holds of its start -/
def xSnd (Z : Room → Nat → Nat → State → String → Prop) (own : String) (cc : ByteArray) (nL pc : Nat) (f : pC → Option pC) : Prop :=
  ∀ (p : Program) (l : Launch) (e : Env) (R : Room) (s : State) (m : MethodId) (args : Array Value) (below : List Frame) (meth : Method) (c : Code) (Q : State → Prop) (D : va_G) (cT : ClassId × ClassId) (B b n0 s0 : Nat),
    xG p s m args c own cc nL D cT B → Z R B b s meth.name → ∀ (ls : pL) (st : List Value) (w : pW) (C : pC), f (pc, ls, st, w) = some C →
      (w.length ≤ C.2.2.2.length ∧ wsl w ≤ wsl C.2.2.2) ∧ (C.2.2.2.length - n0 ≤ R.cells → wsl C.2.2.2 - s0 ≤ R.slots →
        xWp p l e R s m args below meth c Q D cT B b n0 s0 nL C → xWp p l e R s m args below meth c Q D cT B b n0 s0 nL (pc, ls, st, w))
end XS
section XI
variable {Z : Room → Nat → Nat → State → String → Prop} {own : String} {cc : ByteArray} {nL pc : Nat}
/-- an instruction that touches the stack alone -/
theorem x_st {n : Nat} {g : List Value → Option (List Value)} (h : ∀ (p : Program) (l : Launch) (e : Env) (R : Room) (s : State) (m : MethodId) (args : Array Value) (below : List Frame) (meth : Method) (c : Code) (Q : State → Prop) (B b : Nat) (st st' : List Value) (H : Heap) (locs : List Loc) (ls : Array Slot) (cells slots : Nat), p.tables.exec = Jvm.exec → c.code = cc → s.vm.findClass own = some m.cls → (∀ w ∈ wtG, w.before args s = true) → g st = some st' →
    W p l e R s m args below meth c H locs cells slots Q (F0 m n ls (st'.map (xV B b))) → W p l e R s m args below meth c H locs cells slots Q (F0 m pc ls (st.map (xV B b)))) : xSnd Z own cc nL pc (pst g n) := by
  intro p l e R s m args below meth c Q D cT B b n0 s0 hG hZ ls st w C hC
  simp only [pst] at hC
  cases hg : g st with
  | none => rw [hg] at hC; cases hC
  | some st' =>
    rw [hg] at hC
    cases hC
    refine ⟨⟨Nat.le_refl _, Nat.le_refl _⟩, fun _ _ k a1 a2 H locs ls' h1 h2 h3 h4 => ?_⟩
    exact h p l e R s m args below meth c Q B b st st' H locs ls' _ _ hG.1 hG.2.1 hG.2.2.2.1 hG.2.2.2.2.1 hg (k a1 a2 H locs ls' h1 h2 h3 h4)
theorem x_k {v : Value} {n : Nat} (hv : ∀ B b, xV B b v = v) (h : ∀ (p : Program) (l : Launch) (e : Env) (R : Room) (s : State) (m : MethodId) (args : Array Value) (below : List Frame) (meth : Method) (c : Code) (Q : State → Prop) (rest : List Value) (H : Heap) (locs : List Loc) (ls : Array Slot) (cells slots : Nat), p.tables.exec = Jvm.exec → c.code = cc → s.vm.findClass own = some m.cls → (∀ w ∈ wtG, w.before args s = true) →
    W p l e R s m args below meth c H locs cells slots Q (F0 m n ls (v :: rest)) → W p l e R s m args below meth c H locs cells slots Q (F0 m pc ls rest)) : xSnd Z own cc nL pc (pst (g_k v) n) := by
  refine x_st fun p l e R s m args below meth c Q B b st st' H locs ls cells slots hx hb ho ht hg k => ?_
  cases hg
  refine h p l e R s m args below meth c Q _ H locs ls cells slots hx hb ho ht ?_
  rw [List.map_cons, hv] at k
  exact k
theorem x_iconst {z : Int} {v : Int32} (hd : decode cc pc = .ok (.iconst z, 1)) (hv : Int32.ofInt z = v) : xSnd Z own cc nL pc (pst (g_k (.int v)) (pc + 1)) :=
  x_k (fun _ _ => rfl) fun _ _ _ _ _ _ _ _ _ _ _ _ _ _ _ _ _ hx hb _ _ k => lv_iconst hx hb hd hv k
theorem x_bipush {z : Int} {v : Int32} (hd : decode cc pc = .ok (.bipush z, 2)) (hv : (Int8.ofInt z).toInt32 = v) : xSnd Z own cc nL pc (pst (g_k (.int v)) (pc + 2)) :=
  x_k (fun _ _ => rfl) fun _ _ _ _ _ _ _ _ _ _ _ _ _ _ _ _ _ hx hb _ _ k => lv_bipush hx hb hd hv k
theorem x_sipush {z : Int} {v : Int32} (hd : decode cc pc = .ok (.sipush z, 3)) (hv : (Int16.ofInt z).toInt32 = v) : xSnd Z own cc nL pc (pst (g_k (.int v)) (pc + 3)) :=
  x_k (fun _ _ => rfl) fun _ _ _ _ _ _ _ _ _ _ _ _ _ _ _ _ _ hx hb _ _ k => lv_sipush hx hb hd hv k
theorem x_lconst {z : Fin 2} {v : Int64} (hd : decode cc pc = .ok (.lconst z, 1)) (hv : Int64.ofNat (z : Nat) = v) : xSnd Z own cc nL pc (pst (g_k (.long v)) (pc + 1)) :=
  x_k (fun _ _ => rfl) fun _ _ _ _ _ _ _ _ _ _ _ _ _ _ _ _ _ hx hb _ _ k => lv_lconst hx hb hd hv k
theorem x_ldcw {i : Nat} {v : Int32} (hd : decode cc pc = .ok (.ldc_w i, 3)) (hw : Cond.constant own i v ∈ wtG) : xSnd Z own cc nL pc (pst (g_k (.int v)) (pc + 3)) :=
  x_k (fun _ _ => rfl) fun _ _ _ _ _ _ _ _ _ _ _ _ _ _ _ _ _ hx hb ho ht k => lv_ldcw hx hb ho (ht _ hw) hd k
theorem x_ldc2 {i : Nat} {v : Int64} (hd : decode cc pc = .ok (.ldc2_w i, 3)) (hw : Cond.constantLong own i v ∈ wtG) : xSnd Z own cc nL pc (pst (g_k (.long v)) (pc + 3)) :=
  x_k (fun _ _ => rfl) fun _ _ _ _ _ _ _ _ _ _ _ _ _ _ _ _ _ hx hb ho ht k => lv_ldc2 hx hb ho (ht _ hw) hd k
theorem x_null (hd : decode cc pc = .ok (.aconst_null, 1)) : xSnd Z own cc nL pc (pst (g_k .null) (pc + 1)) :=
  x_k (fun _ _ => rfl) fun _ _ _ _ _ _ _ _ _ _ _ _ _ _ _ _ _ hx hb _ _ k => lv_null hx hb hd k
theorem x_goto {off : Int} {tgt : Nat} (hd : decode cc pc = .ok (.goto off, 3)) (ht : (pc : Int) + off = (tgt : Int)) : xSnd Z own cc nL pc (pst g_id tgt) := by
  refine x_st fun p l e R s m args below meth c Q B b st st' H locs ls cells slots hx hb _ _ hg k => ?_
  cases hg
  exact lv_goto hx hb hd ht k
theorem x_i2of {n : Nat} {f : Int32 → Int32 → Int32} (h : ∀ (p : Program) (l : Launch) (e : Env) (R : Room) (s : State) (m : MethodId) (args : Array Value) (below : List Frame) (meth : Method) (c : Code) (Q : State → Prop) (x y : Int32) (rest : List Value) (H : Heap) (locs : List Loc) (ls : Array Slot) (cells slots : Nat), p.tables.exec = Jvm.exec → c.code = cc →
    W p l e R s m args below meth c H locs cells slots Q (F0 m n ls (.int (f x y) :: rest)) → W p l e R s m args below meth c H locs cells slots Q (F0 m pc ls (.int y :: .int x :: rest))) : xSnd Z own cc nL pc (pst (g_i2 f) n) := by
  refine x_st fun p l e R s m args below meth c Q B b st st' H locs ls cells slots hx hb _ _ hg k => ?_
  unfold g_i2 at hg
  split at hg
  · cases hg
    exact h p l e R s m args below meth c Q _ _ _ H locs ls cells slots hx hb k
  · cases hg
theorem x_l2of {n : Nat} {f : Int64 → Int64 → Int64} (h : ∀ (p : Program) (l : Launch) (e : Env) (R : Room) (s : State) (m : MethodId) (args : Array Value) (below : List Frame) (meth : Method) (c : Code) (Q : State → Prop) (x y : Int64) (rest : List Value) (H : Heap) (locs : List Loc) (ls : Array Slot) (cells slots : Nat), p.tables.exec = Jvm.exec → c.code = cc →
    W p l e R s m args below meth c H locs cells slots Q (F0 m n ls (.long (f x y) :: rest)) → W p l e R s m args below meth c H locs cells slots Q (F0 m pc ls (.long y :: .long x :: rest))) : xSnd Z own cc nL pc (pst (g_l2 f) n) := by
  refine x_st fun p l e R s m args below meth c Q B b st st' H locs ls cells slots hx hb _ _ hg k => ?_
  unfold g_l2 at hg
  split at hg
  · cases hg
    exact h p l e R s m args below meth c Q _ _ _ H locs ls cells slots hx hb k
  · cases hg
theorem x_lsof {n : Nat} {f : Int64 → Int32 → Int64} (h : ∀ (p : Program) (l : Launch) (e : Env) (R : Room) (s : State) (m : MethodId) (args : Array Value) (below : List Frame) (meth : Method) (c : Code) (Q : State → Prop) (x : Int64) (y : Int32) (rest : List Value) (H : Heap) (locs : List Loc) (ls : Array Slot) (cells slots : Nat), p.tables.exec = Jvm.exec → c.code = cc →
    W p l e R s m args below meth c H locs cells slots Q (F0 m n ls (.long (f x y) :: rest)) → W p l e R s m args below meth c H locs cells slots Q (F0 m pc ls (.int y :: .long x :: rest))) : xSnd Z own cc nL pc (pst (g_ls f) n) := by
  refine x_st fun p l e R s m args below meth c Q B b st st' H locs ls cells slots hx hb _ _ hg k => ?_
  unfold g_ls at hg
  split at hg
  · cases hg
    exact h p l e R s m args below meth c Q _ _ _ H locs ls cells slots hx hb k
  · cases hg
theorem x_i1of {n : Nat} {f : Int32 → Int32} (h : ∀ (p : Program) (l : Launch) (e : Env) (R : Room) (s : State) (m : MethodId) (args : Array Value) (below : List Frame) (meth : Method) (c : Code) (Q : State → Prop) (x : Int32) (rest : List Value) (H : Heap) (locs : List Loc) (ls : Array Slot) (cells slots : Nat), p.tables.exec = Jvm.exec → c.code = cc →
    W p l e R s m args below meth c H locs cells slots Q (F0 m n ls (.int (f x) :: rest)) → W p l e R s m args below meth c H locs cells slots Q (F0 m pc ls (.int x :: rest))) : xSnd Z own cc nL pc (pst (g_i1 f) n) := by
  refine x_st fun p l e R s m args below meth c Q B b st st' H locs ls cells slots hx hb _ _ hg k => ?_
  unfold g_i1 at hg
  split at hg
  · cases hg
    exact h p l e R s m args below meth c Q _ _ H locs ls cells slots hx hb k
  · cases hg
theorem x_iadd (hd : decode cc pc = .ok (.iadd, 1)) : xSnd Z own cc nL pc (pst (g_i2 (· + ·)) (pc + 1)) := x_i2of fun _ _ _ _ _ _ _ _ _ _ _ _ _ _ _ _ _ _ _ hx hb k => lv_iadd hx hb hd k
theorem x_isub (hd : decode cc pc = .ok (.isub, 1)) : xSnd Z own cc nL pc (pst (g_i2 (· - ·)) (pc + 1)) := x_i2of fun _ _ _ _ _ _ _ _ _ _ _ _ _ _ _ _ _ _ _ hx hb k => lv_isub hx hb hd k
theorem x_imul (hd : decode cc pc = .ok (.imul, 1)) : xSnd Z own cc nL pc (pst (g_i2 (· * ·)) (pc + 1)) := x_i2of fun _ _ _ _ _ _ _ _ _ _ _ _ _ _ _ _ _ _ _ hx hb k => lv_imul hx hb hd k
theorem x_iand (hd : decode cc pc = .ok (.iand, 1)) : xSnd Z own cc nL pc (pst (g_i2 (· &&& ·)) (pc + 1)) := x_i2of fun _ _ _ _ _ _ _ _ _ _ _ _ _ _ _ _ _ _ _ hx hb k => lv_iand hx hb hd k
theorem x_ior (hd : decode cc pc = .ok (.ior, 1)) : xSnd Z own cc nL pc (pst (g_i2 (· ||| ·)) (pc + 1)) := x_i2of fun _ _ _ _ _ _ _ _ _ _ _ _ _ _ _ _ _ _ _ hx hb k => lv_ior hx hb hd k
theorem x_ixor (hd : decode cc pc = .ok (.ixor, 1)) : xSnd Z own cc nL pc (pst (g_i2 (· ^^^ ·)) (pc + 1)) := x_i2of fun _ _ _ _ _ _ _ _ _ _ _ _ _ _ _ _ _ _ _ hx hb k => lv_ixor hx hb hd k
theorem x_ishl (hd : decode cc pc = .ok (.ishl, 1)) : xSnd Z own cc nL pc (pst (g_i2 shl) (pc + 1)) := x_i2of fun _ _ _ _ _ _ _ _ _ _ _ _ _ _ _ _ _ _ _ hx hb k => lv_ishl hx hb hd k
theorem x_ishr (hd : decode cc pc = .ok (.ishr, 1)) : xSnd Z own cc nL pc (pst (g_i2 shr) (pc + 1)) := x_i2of fun _ _ _ _ _ _ _ _ _ _ _ _ _ _ _ _ _ _ _ hx hb k => lv_ishr hx hb hd k
theorem x_iushr (hd : decode cc pc = .ok (.iushr, 1)) : xSnd Z own cc nL pc (pst (g_i2 ushr) (pc + 1)) := x_i2of fun _ _ _ _ _ _ _ _ _ _ _ _ _ _ _ _ _ _ _ hx hb k => lv_iushr hx hb hd rfl k
theorem x_ineg (hd : decode cc pc = .ok (.ineg, 1)) : xSnd Z own cc nL pc (pst (g_i1 (- ·)) (pc + 1)) := x_i1of fun _ _ _ _ _ _ _ _ _ _ _ _ _ _ _ _ _ _ hx hb k => lv_ineg hx hb hd k
theorem x_i2b (hd : decode cc pc = .ok (.i2b, 1)) : xSnd Z own cc nL pc (pst (g_i1 i2b) (pc + 1)) := x_i1of fun _ _ _ _ _ _ _ _ _ _ _ _ _ _ _ _ _ _ hx hb k => lv_i2b hx hb hd rfl k
theorem x_i2s (hd : decode cc pc = .ok (.i2s, 1)) : xSnd Z own cc nL pc (pst (g_i1 i2s) (pc + 1)) := x_i1of fun _ _ _ _ _ _ _ _ _ _ _ _ _ _ _ _ _ _ hx hb k => lv_i2s hx hb hd rfl k
theorem x_ladd (hd : decode cc pc = .ok (.ladd, 1)) : xSnd Z own cc nL pc (pst (g_l2 (· + ·)) (pc + 1)) := x_l2of fun _ _ _ _ _ _ _ _ _ _ _ _ _ _ _ _ _ _ _ hx hb k => lv_ladd hx hb hd k
theorem x_lsub (hd : decode cc pc = .ok (.lsub, 1)) : xSnd Z own cc nL pc (pst (g_l2 (· - ·)) (pc + 1)) := x_l2of fun _ _ _ _ _ _ _ _ _ _ _ _ _ _ _ _ _ _ _ hx hb k => lv_lsub hx hb hd k
theorem x_lmul (hd : decode cc pc = .ok (.lmul, 1)) : xSnd Z own cc nL pc (pst (g_l2 (· * ·)) (pc + 1)) := x_l2of fun _ _ _ _ _ _ _ _ _ _ _ _ _ _ _ _ _ _ _ hx hb k => lv_lmul hx hb hd k
theorem x_land (hd : decode cc pc = .ok (.land, 1)) : xSnd Z own cc nL pc (pst (g_l2 (· &&& ·)) (pc + 1)) := x_l2of fun _ _ _ _ _ _ _ _ _ _ _ _ _ _ _ _ _ _ _ hx hb k => lv_land hx hb hd k
theorem x_lor (hd : decode cc pc = .ok (.lor, 1)) : xSnd Z own cc nL pc (pst (g_l2 (· ||| ·)) (pc + 1)) := x_l2of fun _ _ _ _ _ _ _ _ _ _ _ _ _ _ _ _ _ _ _ hx hb k => lv_lor hx hb hd k
theorem x_lxor (hd : decode cc pc = .ok (.lxor, 1)) : xSnd Z own cc nL pc (pst (g_l2 (· ^^^ ·)) (pc + 1)) := x_l2of fun _ _ _ _ _ _ _ _ _ _ _ _ _ _ _ _ _ _ _ hx hb k => lv_lxor hx hb hd k
theorem x_lshl (hd : decode cc pc = .ok (.lshl, 1)) : xSnd Z own cc nL pc (pst (g_ls lshl) (pc + 1)) := x_lsof fun _ _ _ _ _ _ _ _ _ _ _ _ _ _ _ _ _ _ _ hx hb k => lv_lshl hx hb hd rfl k
theorem x_lshr (hd : decode cc pc = .ok (.lshr, 1)) : xSnd Z own cc nL pc (pst (g_ls lshr) (pc + 1)) := x_lsof fun _ _ _ _ _ _ _ _ _ _ _ _ _ _ _ _ _ _ _ hx hb k => lv_lshr hx hb hd rfl k
theorem x_lushr (hd : decode cc pc = .ok (.lushr, 1)) : xSnd Z own cc nL pc (pst (g_ls lushr) (pc + 1)) := x_lsof fun _ _ _ _ _ _ _ _ _ _ _ _ _ _ _ _ _ _ _ hx hb k => lv_lushr hx hb hd rfl k
theorem x_i2l (hd : decode cc pc = .ok (.i2l, 1)) : xSnd Z own cc nL pc (pst g_i2l (pc + 1)) := by
  refine x_st fun p l e R s m args below meth c Q B b st st' H locs ls cells slots hx hb _ _ hg k => ?_
  unfold g_i2l at hg
  split at hg
  · cases hg
    exact lv_i2l hx hb hd rfl k
  · cases hg
theorem x_l2i (hd : decode cc pc = .ok (.l2i, 1)) : xSnd Z own cc nL pc (pst g_l2i (pc + 1)) := by
  refine x_st fun p l e R s m args below meth c Q B b st st' H locs ls cells slots hx hb _ _ hg k => ?_
  unfold g_l2i at hg
  split at hg
  · cases hg
    exact lv_l2i hx hb hd rfl k
  · cases hg
theorem x_lcmp (hd : decode cc pc = .ok (.lcmp, 1)) : xSnd Z own cc nL pc (pst g_lcmp (pc + 1)) := by
  refine x_st fun p l e R s m args below meth c Q B b st st' H locs ls cells slots hx hb _ _ hg k => ?_
  unfold g_lcmp at hg
  split at hg
  · cases hg
    exact W.lcmp hx hb hd k
  · cases hg
theorem x_idiv (hd : decode cc pc = .ok (.idiv, 1)) : xSnd Z own cc nL pc (pst (g_idiv (· / ·)) (pc + 1)) := by
  refine x_st fun p l e R s m args below meth c Q B b st st' H locs ls cells slots hx hb _ _ hg k => ?_
  unfold g_idiv at hg
  split at hg
  · rename_i y x st
    by_cases h0 : y = 0
    · simp [h0] at hg
    · simp only [decide_eq_false h0, cond_false] at hg
      cases hg
      exact lv_idiv hx hb hd h0 k
  · cases hg
theorem x_irem (hd : decode cc pc = .ok (.irem, 1)) : xSnd Z own cc nL pc (pst (g_idiv irem) (pc + 1)) := by
  refine x_st fun p l e R s m args below meth c Q B b st st' H locs ls cells slots hx hb _ _ hg k => ?_
  unfold g_idiv at hg
  split at hg
  · rename_i y x st
    by_cases h0 : y = 0
    · simp [h0] at hg
    · simp only [decide_eq_false h0, cond_false] at hg
      cases hg
      exact lv_irem hx hb hd h0 k
  · cases hg
theorem x_ldiv (hd : decode cc pc = .ok (.ldiv, 1)) : xSnd Z own cc nL pc (pst (g_ldiv (· / ·)) (pc + 1)) := by
  refine x_st fun p l e R s m args below meth c Q B b st st' H locs ls cells slots hx hb _ _ hg k => ?_
  unfold g_ldiv at hg
  split at hg
  · rename_i y x st
    by_cases h0 : y = 0
    · simp [h0] at hg
    · simp only [decide_eq_false h0, cond_false] at hg
      cases hg
      exact lv_ldiv hx hb hd h0 k
  · cases hg
theorem x_lrem (hd : decode cc pc = .ok (.lrem, 1)) : xSnd Z own cc nL pc (pst (g_ldiv lrem) (pc + 1)) := by
  refine x_st fun p l e R s m args below meth c Q B b st st' H locs ls cells slots hx hb _ _ hg k => ?_
  unfold g_ldiv at hg
  split at hg
  · rename_i y x st
    by_cases h0 : y = 0
    · simp [h0] at hg
    · simp only [decide_eq_false h0, cond_false] at hg
      cases hg
      exact lv_lrem hx hb hd h0 k
  · cases hg
theorem x_dup (hd : decode cc pc = .ok (.dup, 1)) : xSnd Z own cc nL pc (pst g_dup (pc + 1)) := by
  refine x_st fun p l e R s m args below meth c Q B b st st' H locs ls cells slots hx hb _ _ hg k => ?_
  unfold g_dup at hg
  split at hg
  · rename_i v st
    cases hc : Nat.beq v.category 1 with
    | false => rw [hc] at hg; cases hg
    | true =>
      rw [hc] at hg
      cases hg
      exact lv_dup hx hb hd (by rw [xV_cat]; exact Nat.eq_of_beq_eq_true hc) k
  · cases hg
theorem x_dupx1 (hd : decode cc pc = .ok (.dup_x1, 1)) : xSnd Z own cc nL pc (pst g_dupx1 (pc + 1)) := by
  refine x_st fun p l e R s m args below meth c Q B b st st' H locs ls cells slots hx hb _ _ hg k => ?_
  unfold g_dupx1 at hg
  split at hg
  · rename_i v u st
    cases hc : (Nat.beq v.category 1 && Nat.beq u.category 1) with
    | false => rw [hc] at hg; cases hg
    | true =>
      rw [hc] at hg
      cases hg
      rw [Bool.and_eq_true] at hc
      exact lv_dup_x1 hx hb hd (by rw [xV_cat]; exact Nat.eq_of_beq_eq_true hc.1) (by rw [xV_cat]; exact Nat.eq_of_beq_eq_true hc.2) k
  · cases hg
end XI
