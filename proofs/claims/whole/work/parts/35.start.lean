/-! the law's start: both objects are made; from there on it runs over states -/
theorem px_p {t : pM} {rec : pRec} {n pc : Nat} {f : pC → Option pC} {ls : pL} {st : List Value} {w : pW} {C : pC} (hf : pfind t pc = some (.inl f)) (h : f (pc, ls, st, w) = some C) : pexec t rec (n + 1) (pc, ls, st, w) = pexec t rec n C := by simp only [pexec, hf, h]
theorem px_c {t : pM} {rec : pRec} {n pc : Nat} {q : pK} {ls : pL} {st as rest : List Value} {w w' : pW} {v : Option Value} (hf : pfind t pc = some (.inr (.inl q))) (ha : pargs q st w = some (as, rest)) (hr : rec q.1 as w = some (v, w')) : pexec t rec (n + 1) (pc, ls, st, w) = pexec t rec n (pc + 3, ls, v.toList ++ rest, w') := by simp only [pexec, hf, ha, hr]
noncomputable def σ0 : PS := (fun z => bif Nat.beq z 129 || Nat.beq z 257 || Nat.beq z 385 || Nat.beq z 513 then -1 else 0, fun _ => 0, fun a => bif Nat.beq a 30 then upd (upd (upd (upd (fun _ => 0) (Int32.toNatClampNeg 0) (-1)) (Int32.toNatClampNeg (0 + 1)) (-1)) (Int32.toNatClampNeg (0 + 1 + 1)) (-1)) (Int32.toNatClampNeg (0 + 1 + 1 + 1)) (-1) else fun _ => 0)
noncomputable def shC : Nat → Option Nat := va_up (va_up (va_up (va_up (fun _ => none) (Int32.toNatClampNeg 0) (some 2)) (Int32.toNatClampNeg 1) (some 4)) (Int32.toNatClampNeg 2) (some 6)) (Int32.toNatClampNeg 3) (some 8)
noncomputable def wB : pW := (enc σ0).set 1 (.inl (1, 4, .inr (.inr (.inr (.inr shC)))))
noncomputable def wA : pW := wB.take 19
theorem shC_eq : shC = fun j => if j < 4 then shF j else none := by
  have e0 : Int32.toNatClampNeg 0 = 0 := by decide
  have e1 : Int32.toNatClampNeg 1 = 1 := by decide
  have e2 : Int32.toNatClampNeg 2 = 2 := by decide
  have e3 : Int32.toNatClampNeg 3 = 3 := by decide
  funext j
  unfold shC
  rw [e0, e1, e2, e3]
  match j with
  | 0 => rfl
  | 1 => rfl
  | 2 => rfl
  | 3 => rfl
  | j + 4 =>
    rw [if_neg (by omega)]
    simp [va_up]
theorem wB_eq : wB = enc σ0 := by
  unfold wB
  rw [shC_eq]
  rfl
noncomputable def c0 : pE := .inr (3, [.null, .null, .null, .null, .int 0, .int 0])
noncomputable def c19 : pE := .inr (4, [.int 0, .int 0, .int 0, .int 0, .int 0, .int 0, .int 0, .int 0, .long 0, .null, .null, .null, .int 0, .int 0, .int 0, .int 0, .int 0, .int 0, .null, .null, .null, .int 0, .int 0, .long 0, .null, .int 0, .null, .null, .null, .null, .null, .null, .null, .int 0])
set_option maxRecDepth 100000 in
set_option maxHeartbeats 16000000 in
theorem init_A (m : Nat) : lawrec (m + 1000) 70 [.ref 0] [c0] = some (none, wA) := by
  rfl
set_option maxRecDepth 100000 in
set_option maxHeartbeats 16000000 in
theorem init_B (m : Nat) : lawrec (m + 1000) 121 [.ref 19] (wA ++ [c19]) = some (none, wB) := by
  rfl
theorem wA_len : wA.length = 19 := by
  unfold wA wB
  rw [List.length_take, List.length_set]
  simp [enc, layT]
set_option maxRecDepth 100000 in
theorem law_makes_g (L : Nat) (xs : Nat → Int32) (rec : pRec) (n : Nat) (wA wB : pW) (hA : rec 70 [.ref 0] [c0] = some (none, wA)) (hl : wA.length = 19) (hB : rec 121 [.ref 19] (wA ++ [c19]) = some (none, wB)) : pexec (tbL L xs) rec (n + 10) (0, [some (.float 0), none, none, none], [], []) = pexec (tbL L xs) rec n (18, [some (.float 0), some (.ref 0), some (.ref 19), some (.int 0)], [], wB) := by
  have hr : precv (some 4) [.ref 19] (wA ++ [c19]) = true := by
    have h1 : (wA ++ [c19])[19]? = some c19 := by
      rw [List.getElem?_append_right (by omega), hl]
      rfl
    simp only [precv, h1]
    rfl
  refine Eq.trans (px_p (n := n + 9) (pc := 0) (C := (3, [some (.float 0), none, none, none], [.ref 0], [c0])) rfl rfl) ?_
  refine Eq.trans (px_p (C := (4, [some (.float 0), none, none, none], [.ref 0, .ref 0], [c0])) rfl rfl) ?_
  refine Eq.trans (px_c (q := (70, 1, some 3)) (as := [.ref 0]) (rest := [.ref 0]) (v := none) (w' := wA) rfl rfl hA) ?_
  refine Eq.trans (px_p (C := (8, [some (.float 0), some (.ref 0), none, none], [], wA)) rfl rfl) ?_
  refine Eq.trans (px_p (C := (11, [some (.float 0), some (.ref 0), none, none], [.ref wA.length], wA ++ [c19])) rfl rfl) ?_
  rw [hl]
  refine Eq.trans (px_p (C := (12, [some (.float 0), some (.ref 0), none, none], [.ref 19, .ref 19], wA ++ [c19])) rfl rfl) ?_
  refine Eq.trans (px_c (q := (121, 1, some 4)) (as := [.ref 19]) (rest := [.ref 19]) (v := none) (w' := wB) rfl ?_ hB) ?_
  · show (bif (true && true && precv (some 4) [.ref 19] (wA ++ [c19])) then some ([Value.ref 19], [Value.ref 19]) else none) = _
    rw [hr]
    rfl
  refine Eq.trans (px_p (C := (16, [some (.float 0), some (.ref 0), some (.ref 19), none], [], wB)) rfl rfl) ?_
  refine Eq.trans (px_p (C := (17, [some (.float 0), some (.ref 0), some (.ref 19), none], [.int 0], wB)) rfl rfl) ?_
  exact px_p (C := (18, [some (.float 0), some (.ref 0), some (.ref 19), some (.int 0)], [], wB)) rfl rfl
theorem law_makes (L : Nat) (xs : Nat → Int32) (m n : Nat) : pexec (tbL L xs) (lawrec (m + 1000)) (n + 10) (0, [some (.float 0), none, none, none], [], []) = pexec (tbL L xs) (lawrec (m + 1000)) n (18, [some (.float 0), some (.ref 0), some (.ref 19), some (.int 0)], [], enc σ0) := by
  rw [← wB_eq]
  exact law_makes_g L xs _ n wA wB (init_A m) wA_len (init_B m)
theorem enc_len (σ : PS) : (enc σ).length = 34 := by simp [enc, layT]
def lsz : lC → Nat
  | .inl (_, ks) => ks.length
  | .inr (.inl N) => N
  | .inr (.inr _) => 4
theorem enc_wsl (σ : PS) : wsl (enc σ) = 894 := by
  have h : (enc σ).map csz = layT.map lsz := by
    apply List.ext_getElem?
    intro i
    rw [List.getElem?_map, List.getElem?_map, enc_get]
    cases layT[i]? with
    | none => rfl
    | some c => rcases c with ⟨ci, ks⟩ | N | u <;> simp [lcell, csz, lsz]
  unfold wsl
  rw [h]
  decide +kernel
theorem rec0_law (n : Nat) : ∀ j as σ v σ', rec0 9 348 n j as σ = some (v, σ') → lawrec n j as (enc σ) = some (v, enc σ') := by
  intro j as σ v σ' h
  simp only [rec0, prec2] at h
  split at h
  · rename_i M hM
    obtain ⟨t, ht, -⟩ := pRTT j M hM
    simp only [lawrec, ht]
    cases hb : Nat.ble (19 + M.1) 348 with
    | false => rw [hb] at h; cases h
    | true =>
      rw [hb] at h
      exact sim_run pRTT _ _ _ _ _ _ _ _ h
  · cases h
theorem law_of_run (L : Nat) (xs : Nat → Int32) (σ' : PS) (h : L_law L xs fuelN 0 σ0 = some (1, σ')) : ∃ (n : Nat) (w' : pW), pexec (tbL L xs) (lawrec n) n (0, [some (.float 0), none, none, none], [], []) = some (some (.int 1), w') ∧ w'.length = 34 ∧ wsl w' = 894 := by
  obtain ⟨n, hn⟩ := ml_law L xs fuelN 0 σ0 1 σ' h
  refine ⟨n + 1000, enc σ', ?_, enc_len σ', enc_wsl σ'⟩
  have e : pexec (tbL L xs) (lawrec (n + 1000)) (n + 1000) (0, [some (.float 0), none, none, none], [], []) = pexec (tbL L xs) (lawrec (n + 1000)) ((n + 990) + 10) (0, [some (.float 0), none, none, none], [], []) := rfl
  rw [e, law_makes]
  refine sim_exec (rtL L xs) (rec0_law (n + 1000)) _ _ _ _ _ _ _ ?_
  exact pexec2_mono (rec0_mono (by omega)) _ _ _ _ (by omega) hn
