/-! fields, arrays, new cells -/
section XM
variable {p : Program} {l : Launch} {e : Env} {R : Room} {s : State} {m : MethodId} {args : Array Value} {below : List Frame} {meth : Method} {c : Code} {H : Heap} {locs : List Loc} {cells slots : Nat} {Q : State → Prop}
variable {cc : ByteArray} {pc : Nat} {ls : Array Slot} {rest : List Value} {D : va_G} {cl : List vw_C} {A : Nat → Prop} {a : Nat} {tys : List (ClassId × FieldType)} {ws : va_W} {H0 : Heap}
/-- as the kit's own rows for a field's write, and it says that the heap is as large as it was -/
theorem xm_put (hexec : p.tables.exec = Jvm.exec) (hb : c.code = cc) {own C : String} {T : u_T} {N ci index : Nat} {Ts : List Cond} (hts : ∀ w ∈ Ts, w.before args s = true) (hin : ∀ w ∈ u_ws C T N, w ∈ Ts) (ty0 : Nat → FieldType) (hty : ∀ k, k < N → parseFieldDescriptor (T k).2.2.1 = some (ty0 k)) (hnm : ∀ a, a < N → ∀ b, b < N → a ≠ b → (T a).2.1 ≠ (T b).2.1) (hown : s.vm.findClass own = some m.cls) (hK : va_K D cl tys s) (hP : va_P D cl ws H) (hD : va_D A ws) (hS0 : va_S A H0 H locs) (q0 : Nat) {fs : List Value} (he : ws[q0]? = some (a, .inr (ci, fs))) (hc : cl[ci]? = some (C, T, N)) (k : Nat) (hk : k < N) (hlink : (Cond.fieldLink own index (T k).1 (T k).2.1 (T k).2.2.1).before args s = true) (hfin : (T k).2.2.2 = false ∨ ((T k).2.2.2 = true ∧ meth.name = "<init>" ∧ (T k).1 = own)) {ty : FieldType} {v : Value} (hd : parseFieldDescriptor (T k).2.2.1 = some ty) (hn : narrow ty v = v) (hfit : fits ty v = true) (hl : k < fs.length)
    (hdg : decode cc pc = .ok (.putfield index, 3)) (kk : ∀ (H1 : Heap) (locs1 : List Loc), H1.size = H.size → va_P D cl (ws.set q0 (a, .inr (ci, fs.set k v))) H1 → va_S A H0 H1 locs1 → W p l e R s m args below meth c H1 locs1 cells slots Q (F0 m (pc + 3) ls rest)) : W p l e R s m args below meth c H locs cells slots Q (F0 m pc ls (v :: .ref a :: rest)) := by
  have hap := va_apart (own := own) hts hin ty0 hty hnm hK hc
  obtain ⟨r, h1, cell, q1, q2, q3, q4⟩ := hP q0 _ he
  have hr : r = (C, T, N) := Option.some.inj (h1.symm.trans hc)
  subst hr
  obtain ⟨hS, hfc, kC, hkC, hkind⟩ := hK.1 ci _ hc
  obtain ⟨cf, kf, fi, f, hi, hsl⟩ := hS k hk
  have hlay := hts _ (hin _ (u_in_lay hk))
  unfold u_lay at hlay
  have hst := (u_facts hfc hkC (u_lays hts hin hk) hi).1
  rcases hfin with hfin | ⟨hfin, hin2, hdecl⟩
  · rw [if_neg (by rw [hfin]; decide)] at hlay
    have h6 := u_store hfc hkC hkind hlay hi hd hn hfit
    refine W.putK hexec hb (f := f) ⟨hown, hlink, ⟨_, _, _, hi⟩, hst⟩ (by rw [q2]; exact h6) q1 q3 (by rw [hsl]; exact k2_hasslot (q4 k hk)) rfl rfl hdg fun H' e1 e2 e3 => ?_
    rw [hsl] at e1 ⊢
    exact kk H' _ e2 (hP.set hD he ⟨_, hc, t_OB.to (V := updV (vp_V fs) k v) ⟨_, e1, q2, q3, t_set q4 hap hk v⟩ (fun j _ => vp_updV_set hl v j)⟩ e3) (hS0.put e2 e3 (hD.2 q0 _ he))
  · rw [if_pos hfin] at hlay
    have hcf : m.cls = cf := by
      obtain ⟨_, _, c', _, _, _, -, -, hf', -, -, -, hown2, -⟩ := Cond.laysFinal_spec hlay
      have e1 : c' = cf := by have := hi.symm.trans hf'; simp at this; exact this.1.symm
      rw [hdecl] at hown2
      rw [← e1]; exact Option.some.inj (hown.symm.trans hown2)
    have h6 := u_fits hfc hkC hkind (Or.inr hlay) hi hd hn hfit
    refine W.putFinK hexec hb hown hlink hi hst hcf hin2 (by rw [q2]; exact h6) q1 q3 (by rw [hsl]; exact k2_hasslot (q4 k hk)) rfl rfl hdg fun H' e1 e2 e3 => ?_
    rw [hsl] at e1 ⊢
    exact kk H' _ e2 (hP.set hD he ⟨_, hc, t_OB.to (V := updV (vp_V fs) k v) ⟨_, e1, q2, q3, t_set q4 hap hk v⟩ (fun j _ => vp_updV_set hl v j)⟩ e3) (hS0.put e2 e3 (hD.2 q0 _ he))
theorem xm_iast (hexec : p.tables.exec = Jvm.exec) (hb : c.code = cc) (hK : va_K D cl tys s) (hP : va_P D cl ws H) (hD : va_D A ws) (hS : va_S A H0 H locs) (q0 t0 : Nat) {cA : ClassId} {n : Nat} {f : Nat → Int32} (ha : ws[q0]? = some (a, .inl (cA, n, .inl f))) (ht : tys[t0]? = some (cA, .int)) {i : Int32} {x : Int32} (hin : vp_in i n) (hdg : decode cc pc = .ok (.iastore, 1))
    (kk : ∀ (H1 : Heap) (locs1 : List Loc), H1.size = H.size → va_P D cl (ws.set q0 (a, .inl (cA, n, .inl (upd f i.toNatClampNeg x)))) H1 → va_S A H0 H1 locs1 → W p l e R s m args below meth c H1 locs1 cells slots Q (F0 m (pc + 1) ls rest)) : W p l e R s m args below meth c H locs cells slots Q (F0 m pc ls (.int x :: .int i :: .ref a :: rest)) := by
  refine W.iast hexec hb (hP q0 _ ha) ((hK.2 t0 _ ht).1 n (fun j => .int (f j))) (fun q => by cases q) (by show ¬ (i < 0 ∨ (arrV _ _ _).slots.size ≤ _); rw [arrV_size]; exact hin) rfl rfl hdg fun H1 e z oq => ?_
  refine kk H1 _ z (hP.set hD ha ?_ oq) (hS.put z oq (hD.2 q0 _ ha))
  show H1[a]? = some (vp_cell _ _)
  rw [e]
  rw [vp_cell_i, vp_cell_i, arrV_store]
  congr 2
  funext q
  by_cases hq : q = i.toNatClampNeg
  · subst hq
    simp [updV, upd]
  · simp [updV, upd, hq]
theorem xm_astq (hexec : p.tables.exec = Jvm.exec) (hb : c.code = cc) (hK : va_K D cl tys s) (hP : va_P D cl ws H) (hD : va_D A ws) (hS : va_S A H0 H locs) (q0 t0 qk ci : Nat) {cA : ClassId} {r : vw_C} {n v : Nat} {vs : List Value} {f : Nat → Option Nat} (ha : ws[q0]? = some (a, .inl (cA, n, .inr (.inr (.inr (.inr f)))))) (ht : tys[t0]? = some (cA, .object r.1)) (hv : ws[qk]? = some (v, .inr (ci, vs))) (hc : cl[ci]? = some r) {i : Int32} (hin : vp_in i n) (hdg : decode cc pc = .ok (.aastore, 1))
    (kk : ∀ (H1 : Heap) (locs1 : List Loc), H1.size = H.size → va_P D cl (ws.set q0 (a, .inl (cA, n, .inr (.inr (.inr (.inr (va_up f i.toNatClampNeg (some v)))))))) H1 → va_S A H0 H1 locs1 → W p l e R s m args below meth c H1 locs1 cells slots Q (F0 m (pc + 1) ls rest)) : W p l e R s m args below meth c H locs cells slots Q (F0 m pc ls (.ref v :: .int i :: .ref a :: rest)) := by
  have hlt : i.toNatClampNeg < n := Nat.not_le.mp fun q => hin (Or.inr q)
  have h0 : ¬ i < 0 := fun q => hin (Or.inl q)
  obtain ⟨r', hr', cellV, g1, g2, g3, -⟩ := hP qk _ hv
  have hcls := (hK.1 ci r hc).2
  obtain ⟨kA, comp, k1, k2, k3, -⟩ := (hK.2 t0 _ ht).2
  have hcomp : comp = D.1 ci := Option.some.inj (k3.symm.trans hcls.1)
  subst hcomp
  obtain ⟨kC, hkC, -⟩ := hcls.2
  refine W.aast hexec hb (hP q0 _ ha) (fun q h => by cases h) (fun h => by cases h) k1 k2 rfl hkC ⟨h0, by show _ < (arrV _ _ _).slots.size; rw [arrV_size]; exact hlt⟩ g1 (fun q h => by rw [g3] at h; cases h) (by rw [g2]; exact hkC) (by rw [g2]; exact va_assign hcls) rfl rfl hdg fun H1 e z oq => ?_
  refine kk H1 _ z (hP.set hD ha ?_ oq) (hS.put z oq (hD.2 q0 _ ha))
  show H1[a]? = some (vp_cell _ _)
  rw [e]
  rw [vp_cell_q, vp_cell_q, arrV_store]
  congr 2
  funext q
  by_cases hq : q = i.toNatClampNeg
  · subst hq
    simp [updV, va_up, va_rf]
  · simp [updV, va_up, hq]
end XM
theorem vin_of {x : Int32} {N : Nat} (h : vin x N = true) : vp_in x N := by
  unfold vin at h
  rw [Bool.not_eq_true', Bool.or_eq_false_iff] at h
  intro q
  rcases q with q | q
  · exact absurd q (of_decide_eq_false h.1)
  · have h2 := Nat.ble_eq_true_of_le q
    rw [h.2] at h2
    cases h2
section XQ
variable {Z : Room → Nat → Nat → State → String → Prop} {own : String} {cc : ByteArray} {nL pc : Nat}
theorem pgetf_sp {ci k n pc : Nat} {ls : pL} {st : List Value} {w : pW} {C : pC} (h : pgetf ci k n (pc, ls, st, w) = some C) : ∃ i fs v st', st = .ref i :: st' ∧ w[i]? = some (.inr (ci, fs)) ∧ fs[k]? = some v ∧ C = (n, ls, v :: st', w) := by
  cases st with
  | nil => cases h
  | cons u st' => cases u <;> first | (cases h; done) | skip
                  rename_i i
                  simp only [pgetf] at h
                  split at h
                  · rename_i c' fs hw
                    cases hb : Nat.beq c' ci with
                    | false => rw [hb] at h; cases h
                    | true =>
                      rw [hb] at h
                      simp only [cond_true] at h
                      have e1 := Nat.eq_of_beq_eq_true hb
                      subst e1
                      split at h
                      · rename_i v hv
                        exact ⟨i, fs, v, st', rfl, hw, hv, (Option.some.inj h).symm⟩
                      · cases h
                  · cases h
theorem x_getf {ci k N index : Nat} {C : String} {T : u_T} (hc : vwCl[ci]? = some (C, T, N)) (hk : k < N) (hin : ∀ w ∈ u_ws C T N, w ∈ wtG) (hl : Cond.fieldLink own index (T k).1 (T k).2.1 (T k).2.2.1 ∈ wtG) (hd : decode cc pc = .ok (.getfield index, 3)) : xSnd Z own cc nL pc (pgetf ci k (pc + 3)) := by
  intro p l e R s m args below meth c Q D cT B b n0 s0 hG hZ ls st w C' hC
  obtain ⟨i, fs, v, st', rfl, hw, hv, rfl⟩ := pgetf_sp hC
  refine ⟨⟨Nat.le_refl _, Nat.le_refl _⟩, fun _ _ kk a1 a2 H locs lm h1 h2 h3 h4 => ?_⟩
  exact va_get (cl := vwCl) hG.1 hG.2.1 hG.2.2.2.2.1 hin hG.2.2.2.1 hG.2.2.2.2.2.1 h2 i (xW_at hw) hc k hk (hG.2.2.2.2.1 _ hl) (fun _ h => h) (by rw [List.getElem?_map, hv]; rfl) hd (kk a1 a2 H locs lm h1 h2 h3 h4)
theorem pputf_sp {ci k n pc : Nat} {ty : FieldType} {ls : pL} {st : List Value} {w : pW} {C : pC} (h : pputf ci k ty n (pc, ls, st, w) = some C) : ∃ i fs v st', st = v :: .ref i :: st' ∧ w[i]? = some (.inr (ci, fs)) ∧ okv ty v = true ∧ k < fs.length ∧ C = (n, ls, st', w.set i (.inr (ci, fs.set k v))) := by
  cases st with
  | nil => cases h
  | cons v st1 =>
    cases st1 with
    | nil => cases h
    | cons u st' => cases u <;> first | (cases h; done) | skip
                    rename_i i
                    simp only [pputf] at h
                    split at h
                    · rename_i c' fs hw
                      cases hb : (Nat.beq c' ci && okv ty v && Nat.ble (k + 1) fs.length) with
                      | false => rw [hb] at h; cases h
                      | true =>
                        rw [hb] at h
                        simp only [cond_true] at h
                        simp only [Bool.and_eq_true] at hb
                        have e1 := Nat.eq_of_beq_eq_true hb.1.1
                        subst e1
                        exact ⟨i, fs, v, st', rfl, hw, hb.1.2, Nat.le_of_ble_eq_true hb.2, (Option.some.inj h).symm⟩
                    · cases h
theorem x_putfof {ci k N index : Nat} {C : String} {T : u_T} {ty : FieldType} (ty0 : Nat → FieldType) (hty : ∀ k, k < N → parseFieldDescriptor (T k).2.2.1 = some (ty0 k)) (hnm : ∀ a, a < N → ∀ b, b < N → a ≠ b → (T a).2.1 ≠ (T b).2.1) (hc : vwCl[ci]? = some (C, T, N)) (hk : k < N) (hin : ∀ w ∈ u_ws C T N, w ∈ wtG) (hl : Cond.fieldLink own index (T k).1 (T k).2.1 (T k).2.2.1 ∈ wtG) (hd : decode cc pc = .ok (.putfield index, 3)) (hp : parseFieldDescriptor (T k).2.2.1 = some ty)
    (hfin : ∀ (R : Room) (B b : Nat) (s : State) (nm : String), Z R B b s nm → (T k).2.2.2 = false ∨ ((T k).2.2.2 = true ∧ nm = "<init>" ∧ (T k).1 = own)) : xSnd Z own cc nL pc (pputf ci k ty (pc + 3)) := by
  intro p l e R s m args below meth c Q D cT B b n0 s0 hG hZ ls st w C' hC
  obtain ⟨i, fs, v, st', rfl, hw, hv, hlen, rfl⟩ := pputf_sp hC
  have hsz : wsl (w.set i (.inr (ci, fs.set k v))) = wsl w := wsl_set hw (by simp [csz])
  refine ⟨⟨by simp, by rw [hsz]; exact Nat.le_refl _⟩, fun _ _ kk a1 a2 H locs lm h1 h2 h3 h4 => ?_⟩
  have hok := okv_x (B := B) (b := b) hv
  refine xm_put (cl := vwCl) (A := fun q => B ≤ q) hG.1 hG.2.1 hG.2.2.2.2.1 hin ty0 hty hnm hG.2.2.2.1 hG.2.2.2.2.2.1 h2 (xW_D cT B b w) h3 i (xW_at hw) hc k hk (hG.2.2.2.2.1 _ hl) (hfin R B b s meth.name hZ) hp hok.1 hok.2 (by simpa using hlen) hd fun H1 locs1 z hP1 hS1 => ?_
  have e1 : (xW cT B b w).set i (B + i, .inr (ci, (fs.map (xV B b)).set k (xV B b v))) = xW cT B b (w.set i (.inr (ci, fs.set k v))) := by
    rw [← xW_set, ← List.map_set]; rfl
  rw [e1] at hP1
  have hr := kk (by simp only [List.length_set]; exact a1) (by rw [hsz]; exact a2) H1 locs1 lm (by simp only [List.length_set]; rw [z, h1]) hP1 hS1 h4
  simp only [List.length_set, hsz] at hr
  exact hr
theorem piald_sp {n pc : Nat} {ls : pL} {st : List Value} {w : pW} {C : pC} (h : piald n (pc, ls, st, w) = some C) : ∃ i N f x st', st = .int x :: .ref i :: st' ∧ w[i]? = some (.inl (0, N, .inl f)) ∧ vin x N = true ∧ C = (n, ls, .int (f x.toNatClampNeg) :: st', w) := by
  rcases st with _ | ⟨u, _ | ⟨t, st'⟩⟩
  · cases h
  · cases u <;> cases h
  · cases u <;> first | (cases h; done) | skip
    cases t <;> first | (cases h; done) | skip
    rename_i x i
    simp only [piald] at h
    split at h
    · rename_i N f hw
      cases hb : vin x N with
      | false => rw [hb] at h; cases h
      | true => rw [hb] at h; exact ⟨i, N, f, x, st', rfl, hw, hb, (Option.some.inj h).symm⟩
    · cases h
theorem x_iald (hd : decode cc pc = .ok (.iaload, 1)) : xSnd Z own cc nL pc (piald (pc + 1)) := by
  intro p l e R s m args below meth c Q D cT B b n0 s0 hG hZ ls st w C' hC
  obtain ⟨i, N, f, x, st', rfl, hw, hv, rfl⟩ := piald_sp hC
  refine ⟨⟨Nat.le_refl _, Nat.le_refl _⟩, fun _ _ kk a1 a2 H locs lm h1 h2 h3 h4 => ?_⟩
  exact va_iald (cl := vwCl) hG.1 hG.2.1 hG.2.2.2.2.2.1 h2 i 0 (xW_at hw) rfl (vin_of hv) hd (kk a1 a2 H locs lm h1 h2 h3 h4)
theorem piast_sp {n pc : Nat} {ls : pL} {st : List Value} {w : pW} {C : pC} (h : piast n (pc, ls, st, w) = some C) : ∃ i N f x y st', st = .int y :: .int x :: .ref i :: st' ∧ w[i]? = some (.inl (0, N, .inl f)) ∧ vin x N = true ∧ C = (n, ls, st', w.set i (.inl (0, N, .inl (upd f x.toNatClampNeg y)))) := by
  rcases st with _ | ⟨u, _ | ⟨t, _ | ⟨z, st'⟩⟩⟩
  · cases h
  · cases u <;> cases h
  · cases u <;> first | (cases h; done) | skip
    cases t <;> cases h
  · cases u <;> first | (cases h; done) | skip
    cases t <;> first | (cases h; done) | skip
    cases z <;> first | (cases h; done) | skip
    rename_i y x i
    simp only [piast] at h
    split at h
    · rename_i N f hw
      cases hb : vin x N with
      | false => rw [hb] at h; cases h
      | true => rw [hb] at h; exact ⟨i, N, f, x, y, st', rfl, hw, hb, (Option.some.inj h).symm⟩
    · cases h
theorem x_iast (hd : decode cc pc = .ok (.iastore, 1)) : xSnd Z own cc nL pc (piast (pc + 1)) := by
  intro p l e R s m args below meth c Q D cT B b n0 s0 hG hZ ls st w C' hC
  obtain ⟨i, N, f, x, y, st', rfl, hw, hv, rfl⟩ := piast_sp hC
  have hsz : wsl (w.set i (.inl (0, N, .inl (upd f x.toNatClampNeg y)))) = wsl w := wsl_set hw rfl
  refine ⟨⟨by simp, by rw [hsz]; exact Nat.le_refl _⟩, fun _ _ kk a1 a2 H locs lm h1 h2 h3 h4 => ?_⟩
  refine xm_iast (cl := vwCl) (A := fun q => B ≤ q) hG.1 hG.2.1 hG.2.2.2.2.2.1 h2 (xW_D cT B b w) h3 i 0 (xW_at hw) rfl (vin_of hv) hd fun H1 locs1 z hP1 hS1 => ?_
  have e1 : (xW cT B b w).set i (B + i, .inl (cT.1, N, .inl (upd f x.toNatClampNeg y))) = xW cT B b (w.set i (.inl (0, N, .inl (upd f x.toNatClampNeg y)))) := by
    rw [← xW_set]; rfl
  have hP1 : va_P D vwCl ((xW cT B b w).set i (B + i, .inl (cT.1, N, .inl (upd f x.toNatClampNeg y)))) H1 := hP1
  rw [e1] at hP1
  have hr := kk (by simp only [List.length_set]; exact a1) (by rw [hsz]; exact a2) H1 locs1 lm (by simp only [List.length_set]; rw [z, h1]) hP1 hS1 h4
  simp only [List.length_set, hsz] at hr
  exact hr
theorem x_alen (hd : decode cc pc = .ok (.arraylength, 1)) : xSnd Z own cc nL pc (palen (pc + 1)) := by
  intro p l e R s m args below meth c Q D cT B b n0 s0 hG hZ ls st w C' hC
  rcases st with _ | ⟨u, st'⟩
  · cases hC
  · cases u <;> first | (cases hC; done) | skip
    rename_i i
    simp only [palen] at hC
    split at hC
    · rename_i N f hw
      cases hC
      refine ⟨⟨Nat.le_refl _, Nat.le_refl _⟩, fun _ _ kk a1 a2 H locs lm h1 h2 h3 h4 => ?_⟩
      exact va_alen (cl := vwCl) (ty := .int) hG.1 hG.2.1 hG.2.2.2.2.2.1 h2 i 0 (xW_at hw) rfl rfl hd (kk a1 a2 H locs lm h1 h2 h3 h4)
    · rename_i N f hw
      cases hC
      refine ⟨⟨Nat.le_refl _, Nat.le_refl _⟩, fun _ _ kk a1 a2 H locs lm h1 h2 h3 h4 => ?_⟩
      exact va_alen (cl := vwCl) (ty := .object RX3) hG.1 hG.2.1 hG.2.2.2.2.2.1 h2 i 1 (xW_at hw) rfl rfl hd (kk a1 a2 H locs lm h1 h2 h3 h4)
    · cases hC
theorem paald_sp {n pc : Nat} {ls : pL} {st : List Value} {w : pW} {C : pC} (h : paald n (pc, ls, st, w) = some C) : ∃ i N f x st', st = .int x :: .ref i :: st' ∧ w[i]? = some (.inl (1, N, .inr (.inr (.inr (.inr f))))) ∧ vin x N = true ∧ C = (n, ls, prf (f x.toNatClampNeg) :: st', w) := by
  rcases st with _ | ⟨u, _ | ⟨t, st'⟩⟩
  · cases h
  · cases u <;> cases h
  · cases u <;> first | (cases h; done) | skip
    cases t <;> first | (cases h; done) | skip
    rename_i x i
    simp only [paald] at h
    split at h
    · rename_i N f hw
      cases hb : vin x N with
      | false => rw [hb] at h; cases h
      | true => rw [hb] at h; exact ⟨i, N, f, x, st', rfl, hw, hb, (Option.some.inj h).symm⟩
    · cases h
theorem x_aald (hd : decode cc pc = .ok (.aaload, 1)) : xSnd Z own cc nL pc (paald (pc + 1)) := by
  intro p l e R s m args below meth c Q D cT B b n0 s0 hG hZ ls st w C' hC
  obtain ⟨i, N, f, x, st', rfl, hw, hv, rfl⟩ := paald_sp hC
  refine ⟨⟨Nat.le_refl _, Nat.le_refl _⟩, fun _ _ kk a1 a2 H locs lm h1 h2 h3 h4 => ?_⟩
  refine va_aldq (cl := vwCl) (C := RX3) hG.1 hG.2.1 hG.2.2.2.2.2.1 h2 i 1 (xW_at hw) rfl (vin_of hv) hd ?_
  have hr := kk a1 a2 H locs lm h1 h2 h3 h4
  have e1 : xV B b (prf (f x.toNatClampNeg)) = va_rf ((f x.toNatClampNeg).map (fun i => B + i)) := by
    cases f x.toNatClampNeg <;> rfl
  simp only [List.map_cons, e1] at hr
  exact hr
theorem paast_sp {n pc : Nat} {ls : pL} {st : List Value} {w : pW} {C : pC} (h : paast n (pc, ls, st, w) = some C) : ∃ i j N f x vs st', st = .ref j :: .int x :: .ref i :: st' ∧ w[i]? = some (.inl (1, N, .inr (.inr (.inr (.inr f))))) ∧ w[j]? = some (.inr (2, vs)) ∧ vin x N = true ∧ C = (n, ls, st', w.set i (.inl (1, N, .inr (.inr (.inr (.inr (va_up f x.toNatClampNeg (some j)))))))) := by
  rcases st with _ | ⟨u, _ | ⟨t, _ | ⟨z, st'⟩⟩⟩
  · cases h
  · cases u <;> cases h
  · cases u <;> first | (cases h; done) | skip
    cases t <;> cases h
  · cases u <;> first | (cases h; done) | skip
    cases t <;> first | (cases h; done) | skip
    cases z <;> first | (cases h; done) | skip
    rename_i j x i
    simp only [paast] at h
    split at h
    · rename_i N f hw
      split at h
      · rename_i vs hj
        cases hb : vin x N with
        | false => rw [hb] at h; cases h
        | true => rw [hb] at h; exact ⟨i, j, N, f, x, vs, st', rfl, hw, hj, hb, (Option.some.inj h).symm⟩
      · cases h
    · cases h
theorem x_aast (hd : decode cc pc = .ok (.aastore, 1)) : xSnd Z own cc nL pc (paast (pc + 1)) := by
  intro p l e R s m args below meth c Q D cT B b n0 s0 hG hZ ls st w C' hC
  obtain ⟨i, j, N, f, x, vs, st', rfl, hw, hj, hv, rfl⟩ := paast_sp hC
  have hsz : wsl (w.set i (.inl (1, N, .inr (.inr (.inr (.inr (va_up f x.toNatClampNeg (some j)))))))) = wsl w := wsl_set hw rfl
  refine ⟨⟨by simp, by rw [hsz]; exact Nat.le_refl _⟩, fun _ _ kk a1 a2 H locs lm h1 h2 h3 h4 => ?_⟩
  refine xm_astq (cl := vwCl) (A := fun q => B ≤ q) (r := (RX3, TX3, 3)) hG.1 hG.2.1 hG.2.2.2.2.2.1 h2 (xW_D cT B b w) h3 i 1 j 2 (xW_at hw) rfl (xW_at hj) rfl (vin_of hv) hd fun H1 locs1 z hP1 hS1 => ?_
  have e0 : va_up (fun j => (f j).map (fun i => B + i)) x.toNatClampNeg (some (B + j)) = fun q => (va_up f x.toNatClampNeg (some j) q).map (fun i => B + i) := by
    funext q
    simp only [va_up]
    split <;> rfl
  have e1 : (xW cT B b w).set i (B + i, .inl (cT.2, N, .inr (.inr (.inr (.inr (va_up (fun j => (f j).map (fun i => B + i)) x.toNatClampNeg (some (B + j)))))))) = xW cT B b (w.set i (.inl (1, N, .inr (.inr (.inr (.inr (va_up f x.toNatClampNeg (some j)))))))) := by
    rw [← xW_set, e0]; rfl
  have hP1 : va_P D vwCl ((xW cT B b w).set i (B + i, .inl (cT.2, N, .inr (.inr (.inr (.inr (va_up (fun j => (f j).map (fun i => B + i)) x.toNatClampNeg (some (B + j))))))))) H1 := hP1
  rw [e1] at hP1
  have hr := kk (by simp only [List.length_set]; exact a1) (by rw [hsz]; exact a2) H1 locs1 lm (by simp only [List.length_set]; rw [z, h1]) hP1 hS1 h4
  simp only [List.length_set, hsz] at hr
  exact hr
-- the script
theorem x_sld {L : Nat} {xs : Nat → Int32} (hZ : ∀ R B b s nm, Z R B b s nm → va_X b L xs s s.heap ∧ b < B) (hd : decode cc pc = .ok (.iaload, 1)) : xSnd Z own cc nL pc (psld L xs (pc + 1)) := by
  intro p l e R s m args below meth c Q D cT B b n0 s0 hG hz ls st w C' hC
  obtain ⟨hX, hb⟩ := hZ _ _ _ _ _ hz
  rcases st with _ | ⟨u, _ | ⟨t, st'⟩⟩
  · cases hC
  · cases u <;> cases hC
  · cases u <;> first | (cases hC; done) | skip
    cases t <;> first | (cases hC; done) | skip
    rename_i x i
    simp only [psld] at hC
    cases hv : vin x L with
    | false => rw [hv] at hC; cases hC
    | true =>
      rw [hv] at hC
      cases hC
      refine ⟨⟨Nat.le_refl _, Nat.le_refl _⟩, fun _ _ kk a1 a2 H locs lm h1 h2 h3 h4 => ?_⟩
      exact va_sld hG.1 hG.2.1 hX (Nat.lt_of_lt_of_le hb hG.2.2.2.2.2.2.2) (Nat.not_le.mpr hb) h3 (vin_of hv) hd (kk a1 a2 H locs lm h1 h2 h3 h4)
theorem x_slen {L : Nat} {xs : Nat → Int32} (hZ : ∀ R B b s nm, Z R B b s nm → va_X b L xs s s.heap ∧ b < B) (hd : decode cc pc = .ok (.arraylength, 1)) : xSnd Z own cc nL pc (pslen L (pc + 1)) := by
  intro p l e R s m args below meth c Q D cT B b n0 s0 hG hz ls st w C' hC
  obtain ⟨hX, hb⟩ := hZ _ _ _ _ _ hz
  rcases st with _ | ⟨u, st'⟩
  · cases hC
  · cases u <;> first | (cases hC; done) | skip
    simp only [pslen] at hC
    cases hC
    refine ⟨⟨Nat.le_refl _, Nat.le_refl _⟩, fun _ _ kk a1 a2 H locs lm h1 h2 h3 h4 => ?_⟩
    exact va_slen hG.1 hG.2.1 hX (Nat.lt_of_lt_of_le hb hG.2.2.2.2.2.2.2) (Nat.not_le.mpr hb) h3 hd (kk a1 a2 H locs lm h1 h2 h3 h4)
-- new cells
theorem xm_push {cT : ClassId × ClassId} {B b : Nat} {w : pW} {H H1 : Heap} {D : va_G} {A : Nat → Prop} {H0 : Heap} {locs : List Loc} {x : pE} (h1 : H.size = B + w.length) (hP : va_P D vwCl (xW cT B b w) H) (hS : va_S A H0 H locs) (z1 : H1.size = H.size + 1) (o1 : ∀ q : Nat, q < H.size → H1[q]? = H[q]?) (ha : va_at D vwCl (H.size, xE cT B b x) H1) :
    H1.size = B + (w ++ [x]).length ∧ va_P D vwCl (xW cT B b (w ++ [x])) H1 ∧ va_S A H0 H1 locs := by
  refine ⟨by rw [z1, h1]; simp; omega, ?_, ⟨Nat.le_trans hS.1 (by omega), fun q h1 h2 => (o1 q (Nat.lt_of_lt_of_le h1 hS.1)).trans (hS.2.1 q h1 h2), hS.2.2⟩⟩
  rw [← xW_app]
  refine (hP.kept (fun k x hx => o1 x.1 ((hP k x hx).lt))).app (fun k x hx => ?_)
  have hz : k < 1 := (List.getElem?_eq_some_iff.mp hx).1
  rw [show k = 0 by omega] at hx
  cases hx
  rw [← h1]
  exact ha
theorem x_new {ci N index : Nat} {C : String} {T : u_T} (ty : Nat → FieldType) (hty : ∀ k, k < N → parseFieldDescriptor (T k).2.2.1 = some (ty k)) (hc : vwCl[ci]? = some (C, T, N)) (hin : ∀ w ∈ u_ws C T N, w ∈ wtG) (hcl : Cond.classLink own index C ∈ wtG) (hinst : Cond.instantiable C N ∈ wtG) (hini : Cond.initialized C ∈ wtG) {fs : List Value} (hfs : ∀ j, j < N → defaultValue (ty j) = vp_V fs j) (hlen : fs.length = N) (hx : ∀ B b, fs.map (xV B b) = fs) (hd : decode cc pc = .ok (.new index, 3)) : xSnd Z own cc nL pc (pnew ci fs (pc + 3)) := by
  intro p l e R s m args below meth c Q D cT B b n0 s0 hG hz ls st w C' hC
  cases hC
  have e1 : (w ++ [(Sum.inr (ci, fs) : pE)]).length = w.length + 1 := by simp
  have e2 : wsl (w ++ [Sum.inr (ci, fs)]) = wsl w + N := by rw [wsl_app]; simp [csz, hlen]
  refine ⟨⟨by simp, by simp only [e2]; omega⟩, fun r1 r2 kk a1 a2 H locs lm h1 h2 h3 h4 => ?_⟩
  simp only [e1, e2] at r1 r2
  have hts := hG.2.2.2.2.1
  have hKn := hG.2.2.2.2.2.1.1 ci _ hc
  have b1 : n0 ≤ w.length := a1
  have b2 : s0 ≤ wsl w := a2
  refine W.newcK hG.1 hG.2.1 hG.2.2.2.1 (hts _ hcl) (hts _ hinst) (hts _ hini) rfl hd (by show w.length - n0 + 1 ≤ _; omega) (by show wsl w - s0 + N ≤ _; omega) hKn.2.1 rfl fun H1 kC hkC g1 z1 o1 => ?_
  obtain ⟨f1, f2, f3⟩ := xm_push (x := .inr (ci, fs)) h1 h2 h3 z1 o1 (by
    refine ⟨_, hc, ?_⟩
    show t_OB _ _ _ _ _ (vp_V (fs.map (xV B b)))
    rw [hx]
    exact (u_born ty hts hin hKn hkC g1 hty).to hfs)
  have hr := kk (by simp only [e1]; omega) (by simp only [e2]; omega) H1 locs lm f1 f2 f3 h4
  have e3 : (w.length + 1) - n0 = w.length - n0 + 1 := by omega
  have e4 : (wsl w + N) - s0 = wsl w - s0 + N := by omega
  simp only [e1, e2, e3, e4, List.map_cons] at hr
  rw [show xV B b (.ref w.length) = .ref (B + w.length) from rfl, ← h1] at hr
  exact hr
theorem pnewa_sp {n pc : Nat} {ls : pL} {st : List Value} {w : pW} {C : pC} (h : pnewa n (pc, ls, st, w) = some C) : ∃ x st', st = .int x :: st' ∧ ¬ x < 0 ∧ x.toNatClampNeg ≤ 100000 ∧ C = (n, ls, .ref w.length :: st', w ++ [.inl (0, x.toNatClampNeg, .inl (fun _ => 0))]) := by
  rcases st with _ | ⟨u, st'⟩
  · cases h
  · cases u <;> first | (cases h; done) | skip
    rename_i x
    simp only [pnewa] at h
    cases hb : (!decide (x < 0) && Nat.ble x.toNatClampNeg 100000) with
    | false => rw [hb] at h; cases h
    | true =>
      rw [hb] at h
      simp only [Bool.and_eq_true, Bool.not_eq_true', decide_eq_false_iff_not] at hb
      exact ⟨x, st', rfl, hb.1, Nat.le_of_ble_eq_true hb.2, (Option.some.inj h).symm⟩
theorem x_newa (hd : decode cc pc = .ok (.newarray .int, 2)) (hw : Cond.arrayClass .int ∈ wtG) : xSnd Z own cc nL pc (pnewa (pc + 2)) := by
  intro p l e R s m args below meth c Q D cT B b n0 s0 hG hz ls st w C' hC
  obtain ⟨x, st', rfl, hx0, hx1, rfl⟩ := pnewa_sp hC
  have e1 : (w ++ [(Sum.inl (0, x.toNatClampNeg, .inl (fun _ => 0)) : pE)]).length = w.length + 1 := by simp
  have e2 : wsl (w ++ [Sum.inl (0, x.toNatClampNeg, .inl (fun _ => 0))]) = wsl w + x.toNatClampNeg := by rw [wsl_app]; simp [csz]
  refine ⟨⟨by simp, by simp only [e2]; omega⟩, fun r1 r2 kk a1 a2 H locs lm h1 h2 h3 h4 => ?_⟩
  simp only [e1, e2] at r1 r2
  have hts := hG.2.2.2.2.1
  have b1 : n0 ≤ w.length := a1
  have b2 : s0 ≤ wsl w := a2
  refine va_newaK (atype := .int) hG.1 hG.2.1 (hts _ hw) rfl hd rfl hx0 rfl (by show x.toNatClampNeg * 4 ≤ _; omega) (by show w.length - n0 + 1 ≤ _; omega) (by show wsl w - s0 + x.toNatClampNeg ≤ _; omega) rfl fun H1 cA g1 z1 o1 hAr hNm => ?_
  have hcA : cA = cT.1 := Option.some.inj (hNm.symm.trans (hG.2.2.2.2.2.1.2 0 _ rfl).2)
  subst hcA
  obtain ⟨f1, f2, f3⟩ := xm_push (x := .inl (0, x.toNatClampNeg, .inl (fun _ => 0))) h1 h2 h3 z1 o1 g1
  have hr := kk (by simp only [e1]; omega) (by simp only [e2]; omega) H1 locs lm f1 f2 f3 h4
  have e3 : (w.length + 1) - n0 = w.length - n0 + 1 := by omega
  have e4 : (wsl w + x.toNatClampNeg) - s0 = wsl w - s0 + x.toNatClampNeg := by omega
  simp only [e1, e2, e3, e4, List.map_cons] at hr
  rw [show xV B b (.ref w.length) = .ref (B + w.length) from rfl, ← h1] at hr
  exact hr
theorem pnewq_sp {n pc : Nat} {ls : pL} {st : List Value} {w : pW} {C : pC} (h : pnewq n (pc, ls, st, w) = some C) : ∃ x st', st = .int x :: st' ∧ ¬ x < 0 ∧ x.toNatClampNeg ≤ 100000 ∧ C = (n, ls, .ref w.length :: st', w ++ [.inl (1, x.toNatClampNeg, .inr (.inr (.inr (.inr (fun _ => none)))))]) := by
  rcases st with _ | ⟨u, st'⟩
  · cases h
  · cases u <;> first | (cases h; done) | skip
    rename_i x
    simp only [pnewq] at h
    cases hb : (!decide (x < 0) && Nat.ble x.toNatClampNeg 100000) with
    | false => rw [hb] at h; cases h
    | true =>
      rw [hb] at h
      simp only [Bool.and_eq_true, Bool.not_eq_true', decide_eq_false_iff_not] at hb
      exact ⟨x, st', rfl, hb.1, Nat.le_of_ble_eq_true hb.2, (Option.some.inj h).symm⟩
theorem x_newq {index : Nat} (hcl : Cond.classLink own index RX3 ∈ wtG) (hd : decode cc pc = .ok (.anewarray index, 3)) : xSnd Z own cc nL pc (pnewq (pc + 3)) := by
  intro p l e R s m args below meth c Q D cT B b n0 s0 hG hz ls st w C' hC
  obtain ⟨x, st', rfl, hx0, hx1, rfl⟩ := pnewq_sp hC
  have e1 : (w ++ [(Sum.inl (1, x.toNatClampNeg, .inr (.inr (.inr (.inr (fun _ => none))))) : pE)]).length = w.length + 1 := by simp
  have e2 : wsl (w ++ [Sum.inl (1, x.toNatClampNeg, .inr (.inr (.inr (.inr (fun _ => none)))))]) = wsl w + x.toNatClampNeg := by rw [wsl_app]; simp [csz]
  refine ⟨⟨by simp, by simp only [e2]; omega⟩, fun r1 r2 kk a1 a2 H locs lm h1 h2 h3 h4 => ?_⟩
  simp only [e1, e2] at r1 r2
  have hts := hG.2.2.2.2.1
  have b1 : n0 ≤ w.length := a1
  have b2 : s0 ≤ wsl w := a2
  refine W.anew hG.1 hG.2.1 hG.2.2.2.1 (hts _ hcl) (va_AO.use hG.2.2.2.2.2.2.1.2) rfl hd rfl hx0 (by omega) (by show w.length - n0 + 1 ≤ _; omega) (by show wsl w - s0 + x.toNatClampNeg ≤ _; omega) fun cA kA comp q1 q2 q3 q4 => ?_
  obtain ⟨kA', comp', t1, t2, t3, t4⟩ := (hG.2.2.2.2.2.1.2 1 _ rfl).2
  have hcA : cA = cT.2 := Option.some.inj (q1.symm.trans t4)
  subst hcA
  generalize hH1 : H.push ({ cls := cT.2, slots := Array.replicate x.toNatClampNeg .null, vm := .none } : Cell) = H1
  have z1 : H1.size = H.size + 1 := by rw [← hH1, Array.size_push]
  have g1 : H1[H.size]? = some (arrV cT.2 x.toNatClampNeg (fun _ => .null)) := by rw [← hH1, Array.getElem?_push_size, ← arrV_new]
  have o1 : ∀ q : Nat, q < H.size → H1[q]? = H[q]? := fun q hq => by rw [← hH1, Array.getElem?_push, if_neg (Nat.ne_of_lt hq)]
  obtain ⟨f1, f2, f3⟩ := xm_push (x := .inl (1, x.toNatClampNeg, .inr (.inr (.inr (.inr (fun _ => none)))))) h1 h2 h3 z1 o1 g1
  have hr := kk (by simp only [e1]; omega) (by simp only [e2]; omega) H1 locs lm f1 f2 f3 h4
  have e3 : (w.length + 1) - n0 = w.length - n0 + 1 := by omega
  have e4 : (wsl w + x.toNatClampNeg) - s0 = wsl w - s0 + x.toNatClampNeg := by omega
  simp only [e1, e2, e3, e4, List.map_cons] at hr
  rw [show xV B b (.ref w.length) = .ref (B + w.length) from rfl, ← h1] at hr
  exact hr
theorem x_obj {idx : Nat} (hZ : ∀ R B b s nm, Z R B b s nm → 1 ≤ R.frames ∧ 21 ≤ R.locals) (hl : Cond.methodLink own idx objectInit ∈ wtG) (hi : Cond.instanceMethod objectInit ∈ wtG) (hco : Cond.code objectInit ⟨#[0xb1]⟩ 1 none ∈ wtG) (hd : decode cc pc = .ok (.invokespecial idx, 3)) : xSnd Z own cc nL pc (pobj (pc + 3)) := by
  intro p l e R s m args below meth c Q D cT B b n0 s0 hG hz ls st w C' hC
  obtain ⟨r1, r2⟩ := hZ _ _ _ _ _ hz
  rcases st with _ | ⟨u, st'⟩
  · cases hC
  · cases u <;> first | (cases hC; done) | skip
    cases st' with
    | cons _ _ => cases hC
    | nil =>
      cases hC
      refine ⟨⟨Nat.le_refl _, Nat.le_refl _⟩, fun _ _ kk a1 a2 H locs lm h1 h2 h3 h4 => ?_⟩
      have hts := hG.2.2.2.2.1
      exact W.objInit hG.1 hG.2.1 hG.2.2.2.1 (hts _ hl) (hts _ hi) (hts _ hco) rfl (by rw [hG.2.2.1]; exact h4.2.1) rfl hd r1 (Nat.le_trans (Nat.add_le_add_right (lv_room (st := []) (Nat.zero_le _)) 12) (Nat.le_trans (by decide) r2)) (kk a1 a2 H locs lm h1 h2 h3 h4)
theorem psum_xv {B b : Nat} (st : List Value) : ((st.map (xV B b)).map fun v => v.category).sum = psum st := by
  unfold psum
  rw [List.map_map]
  congr 1
  exact List.map_congr_left fun v _ => xV_cat B b
theorem x_m2of {n : Nat} {f : Int32 → Int32 → Int32} (hZ : ∀ R B b s nm, Z R B b s nm → 1 ≤ R.frames ∧ 21 ≤ R.locals) (h : ∀ (p : Program) (l : Launch) (e : Env) (R : Room) (s : State) (m : MethodId) (args : Array Value) (below : List Frame) (meth : Method) (c : Code) (Q : State → Prop) (x y : Int32) (rest : List Value) (H : Heap) (locs : List Loc) (ls : Array Slot) (cells slots : Nat), p.tables.exec = Jvm.exec → c.code = cc → c.maxLocals = ls.size → s.vm.findClass own = some m.cls → (∀ w ∈ wtG, w.before args s = true) → 1 ≤ R.frames → (rest.map fun v => v.category).sum + 13 ≤ R.locals → cells ≤ R.cells → slots ≤ R.slots →
    W p l e R s m args below meth c H locs cells slots Q (F0 m n ls (.int (f x y) :: rest)) → W p l e R s m args below meth c H locs cells slots Q (F0 m pc ls (.int y :: .int x :: rest))) : xSnd Z own cc nL pc (pst (g_m2 f) n) := by
  intro p l e R s m args below meth c Q D cT B b n0 s0 hG hz ls st w C' hC
  obtain ⟨r1, r2⟩ := hZ _ _ _ _ _ hz
  rcases st with _ | ⟨u, _ | ⟨t, st'⟩⟩
  · cases hC
  · cases u <;> cases hC
  · cases u <;> first | (cases hC; done) | skip
    cases t <;> first | (cases hC; done) | skip
    rename_i y x
    simp only [pst, g_m2] at hC
    cases hb : Nat.ble (psum st') 8 with
    | false => rw [hb] at hC; cases hC
    | true =>
      rw [hb] at hC
      cases hC
      have hle := Nat.le_of_ble_eq_true hb
      refine ⟨⟨Nat.le_refl _, Nat.le_refl _⟩, fun q1 q2 kk a1 a2 H locs lm h1 h2 h3 h4 => ?_⟩
      exact h p l e R s m args below meth c Q x y _ H locs lm _ _ hG.1 hG.2.1 (by rw [hG.2.2.1]; exact h4.2.1.symm) hG.2.2.2.1 hG.2.2.2.2.1 r1 (by rw [psum_xv]; omega) q1 q2 (kk a1 a2 H locs lm h1 h2 h3 h4)
theorem x_mmax {index : Nat} (hZ : ∀ R B b s nm, Z R B b s nm → 1 ≤ R.frames ∧ 21 ≤ R.locals) (hl : Cond.methodLink own index Lib.Math.max.name ∈ wtG) (hs : Cond.static Lib.Math.max.name ∈ wtG) (hi : Cond.initialized "java/lang/Math" ∈ wtG) (hco : Cond.code Lib.Math.max.name Lib.Math.max.code 2 (some .int) ∈ wtG) (hd : decode cc pc = .ok (.invokestatic index, 3)) : xSnd Z own cc nL pc (pst (g_m2 imax) (pc + 3)) :=
  x_m2of hZ fun _ _ _ _ _ _ _ _ _ _ _ _ _ _ _ _ _ _ _ hx hb hml ho ht r1 r2 r3 r4 k => va_mmax hx hb hml ho (ht _ hl) (ht _ hs) (ht _ hi) (ht _ hco) r1 r2 r3 r4 hd k
theorem x_mmin {index : Nat} (hZ : ∀ R B b s nm, Z R B b s nm → 1 ≤ R.frames ∧ 21 ≤ R.locals) (hl : Cond.methodLink own index Lib.Math.min.name ∈ wtG) (hs : Cond.static Lib.Math.min.name ∈ wtG) (hi : Cond.initialized "java/lang/Math" ∈ wtG) (hco : Cond.code Lib.Math.min.name Lib.Math.min.code 2 (some .int) ∈ wtG) (hd : decode cc pc = .ok (.invokestatic index, 3)) : xSnd Z own cc nL pc (pst (g_m2 imin) (pc + 3)) :=
  x_m2of hZ fun _ _ _ _ _ _ _ _ _ _ _ _ _ _ _ _ _ _ _ hx hb hml ho ht r1 r2 r3 r4 k => va_mmin hx hb hml ho (ht _ hl) (ht _ hs) (ht _ hi) (ht _ hco) r1 r2 r3 r4 hd k
theorem x_mabs {index : Nat} (hZ : ∀ R B b s nm, Z R B b s nm → 1 ≤ R.frames ∧ 21 ≤ R.locals) (hl : Cond.methodLink own index Lib.Math.abs.name ∈ wtG) (hs : Cond.static Lib.Math.abs.name ∈ wtG) (hi : Cond.initialized "java/lang/Math" ∈ wtG) (hco : Cond.code Lib.Math.abs.name Lib.Math.abs.code 1 (some .int) ∈ wtG) (hd : decode cc pc = .ok (.invokestatic index, 3)) : xSnd Z own cc nL pc (pst (g_m1 iabs) (pc + 3)) := by
  intro p l e R s m args below meth c Q D cT B b n0 s0 hG hz ls st w C' hC
  obtain ⟨r1, r2⟩ := hZ _ _ _ _ _ hz
  rcases st with _ | ⟨u, st'⟩
  · cases hC
  · cases u <;> first | (cases hC; done) | skip
    rename_i x
    simp only [pst, g_m1] at hC
    cases hb : Nat.ble (psum st') 8 with
    | false => rw [hb] at hC; cases hC
    | true =>
      rw [hb] at hC
      cases hC
      have hle := Nat.le_of_ble_eq_true hb
      have hts := hG.2.2.2.2.1
      refine ⟨⟨Nat.le_refl _, Nat.le_refl _⟩, fun q1 q2 kk a1 a2 H locs lm h1 h2 h3 h4 => ?_⟩
      exact va_mabs hG.1 hG.2.1 (by rw [hG.2.2.1]; exact h4.2.1.symm) hG.2.2.2.1 (hts _ hl) (hts _ hs) (hts _ hi) (hts _ hco) r1 (by rw [psum_xv]; omega) q1 q2 hd (kk a1 a2 H locs lm h1 h2 h3 h4)
end XQ
