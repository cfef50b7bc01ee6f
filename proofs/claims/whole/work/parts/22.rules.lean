/-! rules for runs over states -/
noncomputable def rec0 (d lo n : Nat) : pRec2 := match d with
  | 0 => fun _ _ _ => none
  | d + 1 => prec2 pT2 lo (fun lo' => prun2 pT2 d lo' n)
theorem prun2_eq (d lo n j : Nat) (as : List Value) (σ : PS) : prun2 pT2 d lo n j as σ = match pT2 j with
    | some M => bif pgate2 M d lo as then pexec2 M.2.2 (rec0 d lo n) n (0, pinit M.1 as, [], σ) else none
    | none => none := by cases d <;> rfl
theorem pexec2_mono {t : pM2} {rec rec' : pRec2} (hr : ∀ j as σ r, rec j as σ = some r → rec' j as σ = some r) : ∀ (n n' : Nat) (C : pC2) (r : Option Value × PS), n ≤ n' → pexec2 t rec n C = some r → pexec2 t rec' n' C = some r := by
  intro n
  induction n with
  | zero => intro n' C r _ h; cases h
  | succ n ih =>
    intro n' C r hle h
    obtain ⟨m, rfl⟩ : ∃ m, n' = m + 1 := ⟨n' - 1, by omega⟩
    obtain ⟨pc, ls, st, w⟩ := C
    simp only [pexec2] at h ⊢
    split at h
    · rename_i f hf
      split at h
      · rename_i C' hC
        try simp only [hf, hC]
        exact ih m _ _ (by omega) h
      · cases h
    · rename_i q hf
      split at h
      · rename_i as rest ha
        split at h
        · rename_i v w' hv
          try simp only [hf, ha, hr _ _ _ _ hv]
          exact ih m _ _ (by omega) h
        · cases h
      · cases h
    · rename_i ty hf
      try simp only [hf]
      exact h
    · cases h
theorem pgate2_mono {M : Nat × Bool × pM2} {d lo d' lo' : Nat} {as : List Value} (hd : d ≤ d') (hl : lo ≤ lo') (h : pgate2 M d lo as = true) : pgate2 M d' lo' as = true := by
  unfold pgate2 at h ⊢
  rw [Bool.and_eq_true, Bool.or_eq_true, Bool.and_eq_true] at h ⊢
  refine ⟨h.1.imp id (fun q => ⟨?_, ?_⟩), h.2⟩
  · exact Nat.ble_eq_true_of_le (Nat.le_trans (Nat.le_of_ble_eq_true q.1) hd)
  · exact Nat.ble_eq_true_of_le (Nat.le_trans (Nat.le_of_ble_eq_true q.2) hl)
theorem prun2_mono : ∀ (d d' lo lo' n n' j : Nat) (as : List Value) (σ : PS) (r : Option Value × PS), d ≤ d' → lo ≤ lo' → n ≤ n' → prun2 pT2 d lo n j as σ = some r → prun2 pT2 d' lo' n' j as σ = some r := by
  intro d
  induction d with
  | zero =>
    intro d' lo lo' n n' j as σ r hd hl hn h
    rw [prun2_eq] at h ⊢
    split at h
    · rename_i M hM
      try simp only
      cases hg : pgate2 M 0 lo as with
      | false => rw [hg] at h; cases h
      | true =>
        rw [hg] at h
        rw [pgate2_mono hd hl hg]
        exact pexec2_mono (fun _ _ _ _ q => by cases q) _ _ _ _ hn h
    · cases h
  | succ d ih =>
    intro d' lo lo' n n' j as σ r hd hl hn h
    obtain ⟨m, rfl⟩ : ∃ m, d' = m + 1 := ⟨d' - 1, by omega⟩
    rw [prun2_eq] at h ⊢
    split at h
    · rename_i M hM
      try simp only
      cases hg : pgate2 M (d + 1) lo as with
      | false => rw [hg] at h; cases h
      | true =>
        rw [hg] at h
        rw [pgate2_mono hd hl hg]
        refine pexec2_mono (fun k as' σ' r' q => ?_) _ _ _ _ hn h
        simp only [rec0, prec2] at q ⊢
        split at q
        · rename_i M' hM'
          try simp only
          cases hb : Nat.ble (19 + M'.1) lo with
          | false => rw [hb] at q; cases q
          | true =>
            rw [hb] at q
            have h2 := Nat.le_of_ble_eq_true hb
            rw [Nat.ble_eq_true_of_le (Nat.le_trans h2 hl)]
            exact ih m _ _ n n' k as' σ' r' (by omega) (by omega) hn q
        · cases q
    · cases h
/-- method j, at its own room, comes from as and σ to v and σ' -/
def PR (j : Nat) (as : List Value) (σ : PS) (v : Option Value) (σ' : PS) : Prop := ∃ n, prun2 pT2 (pD j).1 (pD j).2 n j as σ = some (v, σ')
def RU (t : pM2) (d lo : Nat) (C : pC2) (v : Option Value) (σ' : PS) : Prop := ∃ n, pexec2 t (rec0 d lo n) n C = some (v, σ')
theorem rec0_mono {d lo n n' : Nat} (hn : n ≤ n') : ∀ j as σ r, rec0 d lo n j as σ = some r → rec0 d lo n' j as σ = some r := by
  intro j as σ r h
  cases d with
  | zero => cases h
  | succ d =>
    simp only [rec0, prec2] at h ⊢
    split at h
    · rename_i M hM
      try simp only
      cases hb : Nat.ble (19 + M.1) lo with
      | false => rw [hb] at h; cases h
      | true =>
        rw [hb] at h
        exact prun2_mono _ _ _ _ _ _ _ _ _ _ (Nat.le_refl _) (Nat.le_refl _) hn h
    · cases h
theorem PR.enter {j nL d lo : Nat} {fl : Bool} {tb : pM2} {as : List Value} {σ σ' : PS} {v : Option Value} {L : pL} (hT : pT2 j = some (nL, fl, tb)) (hD : pD j = (d, lo)) (hg : pgate2 (nL, fl, tb) d lo as = true) (hL : pinit nL as = L) (k : RU tb d lo (0, L, [], σ) v σ') : PR j as σ v σ' := by
  obtain ⟨n, h⟩ := k
  refine ⟨n, ?_⟩
  rw [hD, prun2_eq, hT]
  simp only [hg, cond_true, hL]
  exact h
def pblk (t : pM2) : Nat → pC2 → Option pC2
  | 0, C => some C
  | n + 1, (pc, ls, st, w) => match pfind2 t pc with
    | some (.inl f) => match f (pc, ls, st, w) with
      | some C' => pblk t n C'
      | none => none
    | _ => none
section RUS
variable {t : pM2} {d lo : Nat} {v : Option Value} {σ' : PS}
theorem RU.blk (k : Nat) {C C' : pC2} (h : pblk t k C = some C') (kk : RU t d lo C' v σ') : RU t d lo C v σ' := by
  obtain ⟨n, hn⟩ := kk
  refine ⟨n + k, ?_⟩
  have gen : ∀ (k : Nat) (C : pC2), pblk t k C = some C' → pexec2 t (rec0 d lo (n + k)) (n + k) C = some (v, σ') → True := fun _ _ _ _ => trivial
  have key : ∀ (m k : Nat) (C : pC2), n + k ≤ m → pblk t k C = some C' → pexec2 t (rec0 d lo m) (n + k) C = some (v, σ') := by
    intro m k
    induction k with
    | zero =>
      intro C hm h
      cases h
      exact pexec2_mono (rec0_mono (by omega)) _ _ _ _ (Nat.le_refl _) hn
    | succ k ih =>
      intro C hm h
      obtain ⟨pc, ls, st, w⟩ := C
      simp only [pblk] at h
      rw [show n + (k + 1) = (n + k) + 1 by omega]
      simp only [pexec2]
      split at h
      · rename_i f hf
        split at h
        · rename_i C1 hC
          simp only [hf, hC]
          exact ih C1 (by omega) h
        · cases h
      · cases h
  exact key (n + k) k C (Nat.le_refl _) h
theorem RU.one {pc : Nat} {f : pC2 → Option pC2} {ls : pL} {st : List Value} {σ : PS} {C' : pC2} (hf : pfind2 t pc = some (.inl f)) (h : f (pc, ls, st, σ) = some C') (kk : RU t d lo C' v σ') : RU t d lo (pc, ls, st, σ) v σ' :=
  RU.blk 1 (by simp only [pblk, hf, h]) kk
theorem RU.tt {c : Bool} {a b : Nat} {ls : pL} {st : List Value} {σ : PS} (hc : c = true) (kk : RU t d lo (a, ls, st, σ) v σ') : RU t d lo (bif c then a else b, ls, st, σ) v σ' := by subst hc; exact kk
theorem RU.ff {c : Bool} {a b : Nat} {ls : pL} {st : List Value} {σ : PS} (hc : c = false) (kk : RU t d lo (b, ls, st, σ) v σ') : RU t d lo (bif c then a else b, ls, st, σ) v σ' := by subst hc; exact kk
theorem RU.iald {pc n a N : Nat} {ls : pL} {st : List Value} {σ : PS} {x : Int32} (hf : pfind2 t pc = some (.inl (piald2 n))) (ha : layT[a]? = some (.inr (.inl N))) (hv : vin x N = true) (kk : RU t d lo (n, ls, .int (gA σ a x.toNatClampNeg) :: st, σ) v σ') : RU t d lo (pc, ls, .int x :: .ref a :: st, σ) v σ' :=
  RU.one hf (by simp only [piald2, ha, hv, cond_true]) kk
theorem RU.iast {pc n a N : Nat} {ls : pL} {st : List Value} {σ : PS} {x y : Int32} (hf : pfind2 t pc = some (.inl (piast2 n))) (ha : layT[a]? = some (.inr (.inl N))) (hv : vin x N = true) (kk : RU t d lo (n, ls, st, sA σ a x.toNatClampNeg y) v σ') : RU t d lo (pc, ls, .int y :: .int x :: .ref a :: st, σ) v σ' :=
  RU.one hf (by simp only [piast2, ha, hv, cond_true]) kk
theorem RU.sld {pc n L : Nat} {xs : Nat → Int32} {ls : pL} {st : List Value} {σ : PS} {x : Int32} {z : UInt32} (hf : pfind2 t pc = some (.inl (psld L xs n))) (hv : vin x L = true) (kk : RU t d lo (n, ls, .int (xs x.toNatClampNeg) :: st, σ) v σ') : RU t d lo (pc, ls, .int x :: .float z :: st, σ) v σ' :=
  RU.one hf (by simp only [psld, hv, cond_true]) kk
theorem RU.alen {pc n a N : Nat} {ls : pL} {st : List Value} {σ : PS} (hf : pfind2 t pc = some (.inl (palen2 n))) (ha : layT[a]? = some (.inr (.inl N))) (kk : RU t d lo (n, ls, .int (Int32.ofNat N) :: st, σ) v σ') : RU t d lo (pc, ls, .ref a :: st, σ) v σ' :=
  RU.one hf (by simp only [palen2, ha]) kk
theorem RU.aald {pc n : Nat} {ls : pL} {st : List Value} {σ : PS} {x : Int32} (hf : pfind2 t pc = some (.inl (paald2 n))) (hv : vin x 4 = true) (kk : RU t d lo (n, ls, .ref (2 * x.toNatClampNeg + 2) :: st, σ) v σ') : RU t d lo (pc, ls, .int x :: .ref 1 :: st, σ) v σ' :=
  RU.one hf (by simp only [paald2, hv, cond_true]) kk
theorem RU.getf {pc n i ci k kd : Nat} {ks : List Nat} {ls : pL} {st : List Value} {σ : PS} {u : Value} (hf : pfind2 t pc = some (.inl (pgetf2 ci k n))) (hl : layT[i]? = some (.inl (ci, ks))) (hk : ks[k]? = some kd) (hu : fval σ i k kd = u) (kk : RU t d lo (n, ls, u :: st, σ) v σ') : RU t d lo (pc, ls, .ref i :: st, σ) v σ' :=
  RU.one hf (by simp only [pgetf2, hl, hk, Nat.beq_refl, cond_true, hu]) kk
theorem RU.putI {pc n i ci k : Nat} {ks : List Nat} {ls : pL} {st : List Value} {σ : PS} {x : Int32} (hf : pfind2 t pc = some (.inl (pputf2 ci k .int n))) (hl : layT[i]? = some (.inl (ci, ks))) (hk : ks[k]? = some 0) (kk : RU t d lo (n, ls, st, sI σ (64 * i + k) x) v σ') : RU t d lo (pc, ls, .int x :: .ref i :: st, σ) v σ' :=
  RU.one hf (by simp only [pputf2, hl, hk, Nat.beq_refl, okv, Bool.and_true, cond_true]) kk
theorem RU.idiv {pc n : Nat} {f : Int32 → Int32 → Int32} {ls : pL} {st : List Value} {σ : PS} {x y : Int32} (hf : pfind2 t pc = some (.inl (pst (g_idiv f) n))) (hv : decide (y = 0) = false) (kk : RU t d lo (n, ls, .int (f x y) :: st, σ) v σ') : RU t d lo (pc, ls, .int y :: .int x :: st, σ) v σ' :=
  RU.one hf (by simp only [pst, g_idiv, hv, cond_false]) kk
theorem RU.ldiv {pc n : Nat} {f : Int64 → Int64 → Int64} {ls : pL} {st : List Value} {σ : PS} {x y : Int64} (hf : pfind2 t pc = some (.inl (pst (g_ldiv f) n))) (hv : decide (y = 0) = false) (kk : RU t d lo (n, ls, .long (f x y) :: st, σ) v σ') : RU t d lo (pc, ls, .long y :: .long x :: st, σ) v σ' :=
  RU.one hf (by simp only [pst, g_ldiv, hv, cond_false]) kk
def proom (d lo k : Nat) : Bool := match pT2 k with
  | some M => Nat.ble ((pD k).1 + 1) d && Nat.ble (19 + M.1 + (pD k).2) lo
  | none => false
theorem RU.call {pc : Nat} {q : pK} {ls : pL} {st as rest : List Value} {σ σ1 : PS} {u : Option Value} {C' : pC2} (hf : pfind2 t pc = some (.inr (.inl q))) (ha : pargs2 q st = some (as, rest)) (hP : PR q.1 as σ u σ1) (hr : proom d lo q.1 = true) (hC : (pc + 3, ls, u.toList ++ rest, σ1) = C') (kk : RU t d lo C' v σ') : RU t d lo (pc, ls, st, σ) v σ' := by
  subst hC
  obtain ⟨n1, h1⟩ := hP
  obtain ⟨n2, h2⟩ := kk
  refine ⟨max n1 n2 + 1, ?_⟩
  unfold proom at hr
  split at hr
  · rename_i M hM
    rw [Bool.and_eq_true] at hr
    have r1 := Nat.le_of_ble_eq_true hr.1
    have r2 := Nat.le_of_ble_eq_true hr.2
    obtain ⟨d', rfl⟩ : ∃ d', d = d' + 1 := ⟨d - 1, by omega⟩
    have hrec : rec0 (d' + 1) lo (max n1 n2 + 1) q.1 as σ = some (u, σ1) := by
      simp only [rec0, prec2, hM]
      rw [Nat.ble_eq_true_of_le (show 19 + M.1 ≤ lo by omega)]
      exact prun2_mono _ _ _ _ _ _ _ _ _ _ (by omega) (by omega) (by omega) h1
    simp only [pexec2, hf, ha, hrec]
    exact pexec2_mono (rec0_mono (by omega)) _ _ _ _ (by omega) h2
  · cases hr
theorem RU.ret {pc : Nat} {ty : Option FieldType} {ls : pL} {st : List Value} {σ : PS} (hf : pfind2 t pc = some (.inr (.inr ty))) (hv : pret ty st = some v) (hs : σ = σ') : RU t d lo (pc, ls, st, σ) v σ' := by
  subst hs
  exact ⟨1, by simp only [pexec2, hf, hv]⟩
end RUS
theorem cnd_some {α : Type} {c : Bool} {A B : Option α} {r : α} (h : (bif c then A else B) = some r) : (c = true ∧ A = some r) ∨ (c = false ∧ B = some r) := by
  cases c
  · exact Or.inr ⟨rfl, h⟩
  · exact Or.inl ⟨rfl, h⟩
theorem cnd_n {α : Type} {c : Bool} {A : Option α} {r : α} (h : (bif c then A else none) = some r) : c = true ∧ A = some r := by
  cases c
  · cases h
  · exact ⟨rfl, h⟩
theorem cnd_e {α : Type} {c : Bool} {A : Option α} {r : α} (h : (bif c then none else A) = some r) : c = false ∧ A = some r := by
  cases c
  · exact ⟨rfl, h⟩
  · cases h
def isSh (r : Nat) : Bool := Nat.beq r 2 || Nat.beq r 4 || Nat.beq r 6 || Nat.beq r 8
theorem isSh_c {r : Nat} (h : isSh r = true) : r = 2 ∨ r = 4 ∨ r = 6 ∨ r = 8 := by
  simp only [isSh, Bool.or_eq_true] at h
  rcases h with ((h | h) | h) | h <;> have := Nat.eq_of_beq_eq_true h <;> omega
theorem sh_lay {r : Nat} (h : isSh r = true) : layT[r]? = some (.inl (2, [r + 3, 0, 0])) := by
  rcases isSh_c h with rfl | rfl | rfl | rfl <;> rfl
theorem sh_arr {r : Nat} (h : isSh r = true) : layT[r + 1]? = some (.inr (.inl 60)) := by
  rcases isSh_c h with rfl | rfl | rfl | rfl <;> rfl
theorem pargs_sh {k n r : Nat} {st As rest : List Value} (hr : isSh r = true) (hst : (st.take n).reverse = .ref r :: As) (hl : Nat.beq (st.take n).length n = true) (hd : st.drop n = rest) (hs : Nat.ble (psum rest) 8 = true) : pargs2 (k, n, some 2) st = some (.ref r :: As, rest) := by
  unfold pargs2
  simp only [hst, hl, hd, hs, precv2, sh_lay hr, Nat.beq_refl, Bool.and_self, cond_true]
