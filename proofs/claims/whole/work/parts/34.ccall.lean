/-! calls of constructors, and of Arrays.fill over one row -/
theorem join_app {A0 : Nat → Prop} {D : va_G} {wr w1 : va_W} {h : Nat} {e : va_E} {H H1 : Heap} (hP : va_P D vwCl (wr ++ [(h, e)]) H) (hD : va_D A0 (wr ++ [(h, e)])) (hk : ∀ q : Nat, q < H.size → ¬ va_A [(h, e)] H.size q → H1[q]? = H[q]?) (hF : ∀ q, va_A [(h, e)] H.size q → A0 q) (hP1 : va_P D vwCl w1 H1) (hD1 : va_D (va_A [(h, e)] H.size) w1) : va_P D vwCl (wr ++ w1) H1 ∧ va_D A0 (wr ++ w1) := by
  have hin : ∀ (k : Nat) (q : Nat × va_E), wr[k]? = some q → (wr ++ [(h, e)])[k]? = some q := fun k q hq => by
    rw [List.getElem?_append_left (List.getElem?_eq_some_iff.mp hq).1]; exact hq
  have hlast : (wr ++ [(h, e)])[wr.length]? = some (h, e) := by simp
  have apart : ∀ (k : Nat) (q : Nat × va_E), wr[k]? = some q → q.1 < H.size ∧ ¬ va_A [(h, e)] H.size q.1 := by
    intro k q hq
    have hl := (hP k q (hin k q hq)).lt
    refine ⟨hl, fun z => ?_⟩
    rcases z with ⟨j, e', hj⟩ | z
    · have hj0 : j = 0 := by
        have := (List.getElem?_eq_some_iff.mp hj).1
        simp at this
        exact this
      subst hj0
      have eq : q.1 = h := by
        have : (h, e) = (q.1, e') := Option.some.inj hj
        exact (congrArg Prod.fst this).symm
      have := hD.1 k wr.length q (h, e) (hin k q hq) hlast eq
      have := (List.getElem?_eq_some_iff.mp hq).1
      omega
    · omega
  refine ⟨va_P.app (fun k q hq => (hP k q (hin k q hq)).kept (hk q.1 (apart k q hq).1 (apart k q hq).2)) hP1, va_D.app ⟨fun i j p q hi hj e => hD.1 i j p q (hin i p hi) (hin j q hj) e, fun k q hq => hD.2 k q (hin k q hq)⟩ (hD1.weaken (fun _ _ _ z => hF _ z)) (fun i j p q hi hj e => ?_)⟩
  have h1 := (apart i p hi).2
  have h2 := hD1.2 j q hj
  rw [← e] at h2
  exact h1 h2
theorem join_set {A0 : Nat → Prop} {D : va_G} {w : va_W} {q0 a : Nat} {e e' : va_E} {H H1 : Heap} (he : w[q0]? = some (a, e)) (hP : va_P D vwCl w H) (hD : va_D A0 w) (hk : ∀ q : Nat, q < H.size → ¬ va_A [(a, e)] H.size q → H1[q]? = H[q]?) (hP1 : va_P D vwCl [(a, e')] H1) : va_P D vwCl (w.set q0 (a, e')) H1 ∧ va_D A0 (w.set q0 (a, e')) := by
  have key : ∀ (k : Nat) (q : Nat × va_E), (w.set q0 (a, e'))[k]? = some q → (k = q0 ∧ q = (a, e')) ∨ (k ≠ q0 ∧ w[k]? = some q) := fun k q hq => by
    by_cases c : k = q0
    · subst c
      rw [List.getElem?_set_self (List.getElem?_eq_some_iff.mp he).1] at hq
      exact Or.inl ⟨rfl, (Option.some.inj hq).symm⟩
    · rw [List.getElem?_set_ne (fun z => c z.symm)] at hq
      exact Or.inr ⟨c, hq⟩
  refine ⟨fun k q hq => ?_, fun i j p q hi hj eq => ?_, fun k q hq => ?_⟩
  · rcases key k q hq with ⟨-, rfl⟩ | ⟨c, hq'⟩
    · exact hP1 0 _ rfl
    · refine (hP k q hq').kept (hk q.1 (hP k q hq').lt (fun z => ?_))
      rcases z with ⟨j, e2, hj⟩ | z
      · have hj0 : j = 0 := by
          have := (List.getElem?_eq_some_iff.mp hj).1
          simp at this
          exact this
        subst hj0
        have eq : q.1 = a := (congrArg Prod.fst (Option.some.inj hj)).symm
        exact c (hD.1 k q0 q (a, e) hq' he eq)
      · have := (hP k q hq').lt
        omega
  · rcases key i p hi with ⟨rfl, rfl⟩ | ⟨c, hi'⟩ <;> rcases key j q hj with ⟨rfl, rfl⟩ | ⟨c', hj'⟩
    · rfl
    · exact absurd (hD.1 i j (a, e) q he hj' eq).symm c'
    · exact absurd (hD.1 i j p (a, e) hi' he eq) c
    · exact hD.1 i j p q hi' hj' eq
  · rcases key k q hq with ⟨rfl, rfl⟩ | ⟨c, hq'⟩
    · exact hD.2 k (a, e) he
    · exact hD.2 k q hq'
def rmI (d mc ms : Nat) : Room := { frames := d + 1, cells := mc, slots := ms, locals := 34 * (d + 1) }
def PcI (D : va_G) (cy : Nat → ClassId) (as : List Value) (w : va_W) (sz : Nat) (E : State → Prop) : Array Value → State → Prop := va_Pc as (fun U => U.heap.size = sz ∧ va_P D vwCl w U.heap ∧ va_K D vwCl (tyC cy) U ∧ va_D (fun _ => True) w ∧ E U)
def Mv (E : State → Prop) : Prop := ∀ u U : State, u.vm.Alike U.vm → E u → E U
theorem PcI_blind {D : va_G} {cy : Nat → ClassId} {as : List Value} {w : va_W} {sz : Nat} {E : State → Prop} (hE : Mv E) : FrameBlind (PcI D cy as w sz E) := fun a U g mk q => by
  obtain ⟨q0, q1, qP, qK, qD, qE⟩ := q
  exact ⟨q0, q1, qP, va_K.moved (u := U) (U := U.calling g mk a) (Vm.Alike.refl U.vm) qK, qD, hE U (U.calling g mk a) (Vm.Alike.refl U.vm) qE⟩
/-- a constructor's contract: its cell's world becomes wo u -/
def CtI9 {S : Type} (l : Launch) (y : MethodName) (cc : ByteArray) (maxL d mc ms : Nat) (D : va_G) (cy : Nat → ClassId) (as : List Value) (h : Nat) (e : va_E) (E : State → Prop) (wo : S → va_W) : Prop :=
  ∀ sz : Nat, Met l y (wsY y cc maxL none) (rmI d mc ms) (PcI D cy as [(h, e)] sz E) (va_Qv (fun _ : S => True) (fun u t => va_P D vwCl (wo u) t.heap ∧ va_D (va_A [(h, e)] sz) (wo u)) (va_A [(h, e)] sz)) mc ms (va_A [(h, e)] sz)
theorem CtI9.of {S : Type} {l : Launch} {y : MethodName} {cc : ByteArray} {maxL d mc ms : Nat} {D : va_G} {cy : Nat → ClassId} {as : List Value} {h : Nat} {e : va_E} {E : State → Prop} {wo : S → va_W} (hy : plainName y.cls = true) (ha : (lg_sl as).length ≤ maxL)
    (body : ∀ Y : YY, Y.2.2.2 = (D, cy) → CY Y cc y.cls maxL d mc ms → Y.2.1.2.2.2.1.name = y.name → Y.2.1.2.2.2.1.sig.returnType = none → E Y.1.2.2.2.2 → Y.1.2.1 = l → ∀ sz, Y.2.2.1 = va_A [(h, e)] sz → RC Y maxL (MQ Y.2.1.2.2.1 (va_Qv (fun _ : S => True) (fun u t => va_P D vwCl (wo u) t.heap ∧ va_D (va_A [(h, e)] sz) (wo u)) (va_A [(h, e)] sz)) Y.2.1.2.1 Y.1.2.2.2.2 mc ms Y.2.2.1) 0 (lv_args 0 as) [] [(h, e)] 0 0) : CtI9 l y cc maxL d mc ms D cy as h e E wo := by
  intro sz
  refine Met.ofW (cc := cc) (maxL := maxL) (ret := none) hy rfl ?_
  intro p e9 s m args below meth c s₁ B hml hv
  obtain ⟨rfl, hsz, hP, hK, hD0, hE⟩ := hv
  have hts0 := atoms_spec (ws := wsY y cc maxL none) B.pre
  have hown : s.vm.findClass y.cls = some m.cls := findClass_of_methodNamed B.named
  have hin : meth.name = y.name := (name_of_methodNamed B.named B.method).1
  have hl := lv_entry as (n := maxL) ha
  rw [lg_entry_eq]
  generalize (lg_sl as ++ List.replicate (maxL - (lg_sl as).length) Slot.unset).toArray = ls at hl ⊢
  subst hsz
  exact body ((p, l, e9, (headSpec (wsY y cc maxL none) (rmI d mc ms)).room, s), (m, as.toArray, below, meth, c), va_A [(h, e)] s.heap.size, D, cy) rfl
    ⟨B.exec, B.bytes, hml, hown, fun w hw => hts0 w (List.mem_cons_of_mem _ hw), hK, fun q hq => Or.inr hq, B.notSynchronized, Nat.le_refl _, Nat.le_refl _, Nat.le_refl _, Nat.le_refl _⟩ hin B.returns hE rfl s.heap.size rfl s.heap [] ls hP (hD0.self (sz := s.heap.size)) va_S.rf hl
section RCC
variable {Y : YY} {cc : ByteArray} {own : String} {nL lev mc ms : Nat} {Q : State → Prop} {pc : Nat} {lv : List (Nat × Value)} {st : List Value} {w : va_W} {ce sl : Nat}
theorem r_callI {S : Type} (C : CY Y cc own nL lev mc ms) {idx : Nat} {y : MethodName} {ccy : ByteArray} {maxL d mc' ms' h : Nat} {as : List Value} {e : va_E} {E : State → Prop} {wo : S → va_W} {stk : List Value} (wr : va_W) (hw : w = wr ++ [(h, e)]) (hsk : stk = as.reverse ++ .ref h :: st) (hd : decode cc pc = .ok (.invokespecial idx, 3)) (hM : CtI9 Y.1.2.1 y ccy maxL d mc' ms' Y.2.2.2.1 Y.2.2.2.2 (.ref h :: as) h e E wo) (hE : Mv E) (hE0 : E Y.1.2.2.2.2) (hmw : MW y ccy maxL none as.length) (hl1 : Cond.methodLink own idx y ∈ TB) (hl2 : Cond.instanceMethod y ∈ TB) (hy : y.name = "<init>") (hlev : d < lev) (hst : (st.map fun v => v.category).sum ≤ 8) (h1 : ce + mc' ≤ mc) (h2 : sl + ms' ≤ ms)
    (kk : ∀ u : S, RC Y nL Q (pc + 3) lv st (wr ++ wo u) (ce + mc') (sl + ms')) : RC Y nL Q pc lv stk w ce sl := by
  obtain ⟨⟨p, l, e9, R, s⟩, ⟨m, args, below, meth, c⟩, A, D, cy⟩ := Y
  obtain ⟨hx, hb, hml, hown, hts, hK, hA, hlocks, hR⟩ := C
  intro H locs ls hP hD hS hl
  subst hw
  subst hsk
  have hlast : (wr ++ [(h, e)])[wr.length]? = some (h, e) := by simp
  have hPc : va_P D vwCl [(h, e)] H := fun k q hq => by
    have hk0 : k = 0 := by
      have := (List.getElem?_eq_some_iff.mp hq).1
      simp at this
      exact this
    subst hk0
    cases hq
    exact hP wr.length _ hlast
  have hDc : va_D (fun _ => True) [(h, e)] := ⟨fun i j p q hi hj _ => by
    have := (List.getElem?_eq_some_iff.mp hi).1
    have := (List.getElem?_eq_some_iff.mp hj).1
    simp at *
    omega, fun _ _ _ => trivial⟩
  have hFc : ∀ q, va_A [(h, e)] H.size q → A q := fun q z => by
    rcases z with ⟨j, e2, hj⟩ | z
    · have hj0 : j = 0 := by
        have := (List.getElem?_eq_some_iff.mp hj).1
        simp at this
        exact this
      subst hj0
      cases hj
      exact hD.2 wr.length _ hlast
    · exact hA q (Nat.le_trans hS.1 z)
  obtain ⟨g1, g2, g3, g4, g5, g6⟩ := hmw
  have hcb : CallB R s args own idx y ccy maxL none (wsY y ccy maxL none) (rmI d mc' ms') mc' ms' as.length := by
    refine callB_of (Ts := TB) (ws' := TB) as.length hts (fun w9 h9 => ?_) rfl rfl rfl (hts _ g1) (hts _ hl1) ⟨g3, g4, g5⟩ ⟨?_, ?_⟩
    · rcases List.mem_cons.mp h9 with rfl | h9
      · exact TB_good _ g2
      · exact TB_good _ h9
    · show d + 1 + 1 ≤ R.frames
      omega
    · show 8 + (maxL + 11) + 34 * (d + 1) ≤ R.locals
      omega
  refine va_callv (va_runI (bytes := ccy) (maxL := maxL) (n := as.length) (As := as) (rest := st) (Ts := TB) ⟨hx, hb, hml, hown, hts⟩ (hM H.size) ⟨hcb, hy, hts _ hl2⟩ ⟨PcI_blind hE, fun U hU hW => ⟨rfl, by rw [hU], by rw [hU]; exact hPc, va_K.moved hW.alike hK, hDc, hE s U hW.alike hE0⟩⟩ rfl rfl hl.1 rfl (lv_room hst) hd ⟨by omega, by omega⟩) hS (fun q _ z => hFc q z) hFc (fun u t H1 locs1 ht hvm hpost hB hz hk hS1 => ?_)
  obtain ⟨hP1, hD1⟩ := hB
  rw [ht] at hP1
  have j := join_app hP hD hk hFc hP1 hD1
  exact kk u H1 locs1 ls j.1 j.2 hS1 hl
theorem r_callS1 {S : Type} (C : CY Y cc own nL lev mc ms) {idx : Nat} {y : MethodName} {ccy : ByteArray} {maxL d a : Nat} {as : List Value} {e : va_E} {e' : S → va_E} {stk : List Value} (q0 : Nat) (hw : w[q0]? = some (a, e)) (hsk : stk = as.reverse ++ st) (hd : decode cc pc = .ok (.invokestatic idx, 3)) (hM : CtI9 Y.1.2.1 y ccy maxL d 0 0 Y.2.2.2.1 Y.2.2.2.2 as a e (fun _ => True) (fun u => [(a, e' u)])) (hmw : MW y ccy maxL none as.length) (hl1 : Cond.methodLink own idx y ∈ TB) (hl2 : Cond.static y ∈ TB) (hlev : d < lev) (hst : (st.map fun v => v.category).sum ≤ 8) (h1 : ce ≤ mc) (h2 : sl ≤ ms)
    (kk : ∀ u : S, RC Y nL Q (pc + 3) lv st (w.set q0 (a, e' u)) ce sl) : RC Y nL Q pc lv stk w ce sl := by
  obtain ⟨⟨p, l, e9, R, s⟩, ⟨m, args, below, meth, c⟩, A, D, cy⟩ := Y
  obtain ⟨hx, hb, hml, hown, hts, hK, hA, hlocks, hR⟩ := C
  intro H locs ls hP hD hS hl
  subst hsk
  have hPc : va_P D vwCl [(a, e)] H := fun k q hq => by
    have hk0 : k = 0 := by
      have := (List.getElem?_eq_some_iff.mp hq).1
      simp at this
      exact this
    subst hk0
    cases hq
    exact hP q0 _ hw
  have hDc : va_D (fun _ => True) [(a, e)] := ⟨fun i j p q hi hj _ => by
    have := (List.getElem?_eq_some_iff.mp hi).1
    have := (List.getElem?_eq_some_iff.mp hj).1
    simp at *
    omega, fun _ _ _ => trivial⟩
  have hFc : ∀ q, va_A [(a, e)] H.size q → A q := fun q z => by
    rcases z with ⟨j, e2, hj⟩ | z
    · have hj0 : j = 0 := by
        have := (List.getElem?_eq_some_iff.mp hj).1
        simp at this
        exact this
      subst hj0
      cases hj
      exact hD.2 q0 _ hw
    · exact hA q (Nat.le_trans hS.1 z)
  obtain ⟨g1, g2, g3, g4, g5, g6⟩ := hmw
  have hcb : CallB R s args own idx y ccy maxL none (wsY y ccy maxL none) (rmI d 0 0) 0 0 as.length := by
    refine callB_of (Ts := TB) (ws' := TB) as.length hts (fun w9 h9 => ?_) rfl rfl rfl (hts _ g1) (hts _ hl1) ⟨g3, g4, g5⟩ ⟨?_, ?_⟩
    · rcases List.mem_cons.mp h9 with rfl | h9
      · exact TB_good _ g2
      · exact TB_good _ h9
    · show d + 1 + 1 ≤ R.frames
      omega
    · show 8 + (maxL + 11) + 34 * (d + 1) ≤ R.locals
      omega
  refine va_callv (va_runS (bytes := ccy) (maxL := maxL) (n := as.length) (As := as) (rest := st) (Ts := TB) ⟨hx, hb, hml, hown, hts⟩ (hM H.size) ⟨hcb, hts _ hl2⟩ ⟨PcI_blind (fun _ _ _ z => z), fun U hU hW => ⟨rfl, by rw [hU], by rw [hU]; exact hPc, va_K.moved hW.alike hK, hDc, trivial⟩⟩ rfl rfl hl.1 rfl (lv_room hst) hd ⟨by omega, by omega⟩) hS (fun q _ z => hFc q z) hFc (fun u t H1 locs1 ht hvm hpost hB hz hk hS1 => ?_)
  obtain ⟨hP1, hD1⟩ := hB
  rw [ht] at hP1
  have j := join_set hw hP hD hk hP1
  exact kk u H1 locs1 ls j.1 j.2 hS1 hl
theorem r_min (C : CY Y cc own nL lev mc ms) {idx : Nat} {a b : Int} (hd : decode cc pc = .ok (.invokestatic idx, 3)) (hl1 : Cond.methodLink own idx Lib.Math.min.name ∈ TB) (ha : inR a) (hb' : inR b) (hst : (st.map fun v => v.category).sum ≤ 20) (h1 : ce ≤ mc) (h2 : sl ≤ ms) (kk : RC Y nL Q (pc + 3) lv (.int (oI (min a b)) :: st) w ce sl) : RC Y nL Q pc lv (.int (oI b) :: .int (oI a) :: st) w ce sl := by
  obtain ⟨⟨p, l, e9, R, s⟩, ⟨m, args, below, meth, c⟩, A, D, cy⟩ := Y
  obtain ⟨hx, hb, hml, hown, hts, hK, hA, hlocks, hR⟩ := C
  intro H locs ls hP hD hS hl
  have k := kk H locs ls hP hD hS hl
  have e1 : oI (min a b) = if oI b < oI a then oI b else oI a := by
    by_cases h : oI b < oI a
    · rw [if_pos h]; congr 1; have := (oI_lt hb' ha).mp h; omega
    · rw [if_neg h]; congr 1; have := mt (oI_lt hb' ha).mpr h; omega
  rw [e1] at k
  exact va_mmin hx hb (by rw [hml, hl.1]) hown (hts _ hl1) (hts _ mt_min.1) (hts _ mt_min.2.1) (hts _ mt_min.2.2) (by omega) (by omega) (by omega) (by omega) hd k
theorem r_max (C : CY Y cc own nL lev mc ms) {idx : Nat} {a b : Int} (hd : decode cc pc = .ok (.invokestatic idx, 3)) (hl1 : Cond.methodLink own idx Lib.Math.max.name ∈ TB) (ha : inR a) (hb' : inR b) (hst : (st.map fun v => v.category).sum ≤ 20) (h1 : ce ≤ mc) (h2 : sl ≤ ms) (kk : RC Y nL Q (pc + 3) lv (.int (oI (max a b)) :: st) w ce sl) : RC Y nL Q pc lv (.int (oI b) :: .int (oI a) :: st) w ce sl := by
  obtain ⟨⟨p, l, e9, R, s⟩, ⟨m, args, below, meth, c⟩, A, D, cy⟩ := Y
  obtain ⟨hx, hb, hml, hown, hts, hK, hA, hlocks, hR⟩ := C
  intro H locs ls hP hD hS hl
  have k := kk H locs ls hP hD hS hl
  have e1 : oI (max a b) = if oI a < oI b then oI b else oI a := by
    by_cases h : oI a < oI b
    · rw [if_pos h]; congr 1; have := (oI_lt ha hb').mp h; omega
    · rw [if_neg h]; congr 1; have := mt (oI_lt ha hb').mpr h; omega
  rw [e1] at k
  exact va_mmax hx hb (by rw [hml, hl.1]) hown (hts _ hl1) (hts _ mt_max.1) (hts _ mt_max.2.1) (hts _ mt_max.2.2) (by omega) (by omega) (by omega) (by omega) hd k
theorem r_icmp_ge (C : CY Y cc own nL lev mc ms) {a b : Int} {off : Int} (tgt : Nat) (hd : decode cc pc = .ok (.if_icmp .ge off, 3)) (ht : (pc : Int) + off = (tgt : Int)) (ha : inR a) (hb' : inR b) (kt : b ≤ a → RC Y nL Q tgt lv st w ce sl) (kf : a < b → RC Y nL Q (pc + 3) lv st w ce sl) : RC Y nL Q pc lv (.int (oI b) :: .int (oI a) :: st) w ce sl := by
  obtain ⟨⟨p, l, e9, R, s⟩, ⟨m, args, below, meth, c⟩, A, D, cy⟩ := Y
  obtain ⟨hx, hb, hml, hown, hts, hK, hA, hlocks, hR⟩ := C
  intro H locs ls hP hD hS hl
  exact lv_icmp_ge hx hb hd ht (fun q => kt ((oI_le hb' ha).mp q) H locs ls hP hD hS hl) (fun q => kf (Int.not_le.mp (fun z => q ((oI_le hb' ha).mpr z))) H locs ls hP hD hS hl)
theorem r_icmp_le (C : CY Y cc own nL lev mc ms) {a b : Int} {off : Int} (tgt : Nat) (hd : decode cc pc = .ok (.if_icmp .le off, 3)) (ht : (pc : Int) + off = (tgt : Int)) (ha : inR a) (hb' : inR b) (kt : a ≤ b → RC Y nL Q tgt lv st w ce sl) (kf : b < a → RC Y nL Q (pc + 3) lv st w ce sl) : RC Y nL Q pc lv (.int (oI b) :: .int (oI a) :: st) w ce sl := by
  obtain ⟨⟨p, l, e9, R, s⟩, ⟨m, args, below, meth, c⟩, A, D, cy⟩ := Y
  obtain ⟨hx, hb, hml, hown, hts, hK, hA, hlocks, hR⟩ := C
  intro H locs ls hP hD hS hl
  exact lv_icmp_le hx hb hd ht (fun q => kt ((oI_le ha hb').mp q) H locs ls hP hD hS hl) (fun q => kf (Int.not_le.mp (fun z => q ((oI_le ha hb').mpr z))) H locs ls hP hD hS hl)
theorem r_goto (C : CY Y cc own nL lev mc ms) {off : Int} (tgt : Nat) (hd : decode cc pc = .ok (.goto off, 3)) (ht : (pc : Int) + off = (tgt : Int)) (kk : RC Y nL Q tgt lv st w ce sl) : RC Y nL Q pc lv st w ce sl := by
  obtain ⟨⟨p, l, e9, R, s⟩, ⟨m, args, below, meth, c⟩, A, D, cy⟩ := Y
  obtain ⟨hx, hb, hml, hown, hts, hK, hA, hlocks, hR⟩ := C
  intro H locs ls hP hD hS hl
  exact lv_goto hx hb hd ht (kk H locs ls hP hD hS hl)
theorem r_istore_n (C : CY Y cc own nL lev mc ms) {j : Fin 4} {x : Int32} (lv' : List (Nat × Value)) (hd : decode cc pc = .ok (.istore_n j, 1)) (hn : (j : Nat) < nL) (hv : ((j : Nat), Value.int x) :: lv.filter (fun q => !(q.1 == (j : Nat)) && !(q.1 + 1 == (j : Nat) && q.2.category == 2)) = lv') (kk : RC Y nL Q (pc + 1) lv' st w ce sl) : RC Y nL Q pc lv (.int x :: st) w ce sl := by
  obtain ⟨⟨p, l, e9, R, s⟩, ⟨m, args, below, meth, c⟩, A, D, cy⟩ := Y
  obtain ⟨hx, hb, hml, hown, hts, hK, hA, hlocks, hR⟩ := C
  intro H locs ls hP hD hS hl
  exact lv_istore_n hx hb hd rfl hl hn hv (fun ls' hl' => kk H locs ls' hP hD hS hl')
theorem r_iinc (C : CY Y cc own nL lev mc ms) {i : Nat} {n x : Int} (k : Nat) (lv' : List (Nat × Value)) (hd : decode cc pc = .ok (.iinc i n, 3)) (hk : lv[k]? = some (i, .int (oI x))) (hn : i < nL) (hv : (i, Value.int (oI (x + n))) :: lv.filter (fun q => !(q.1 == i) && !(q.1 + 1 == i && q.2.category == 2)) = lv') (kk : RC Y nL Q (pc + 3) lv' st w ce sl) : RC Y nL Q pc lv st w ce sl := by
  obtain ⟨⟨p, l, e9, R, s⟩, ⟨m, args, below, meth, c⟩, A, D, cy⟩ := Y
  obtain ⟨hx, hb, hml, hown, hts, hK, hA, hlocks, hR⟩ := C
  intro H locs ls hP hD hS hl
  exact lv_iinc hx hb hd hl hk (show oI x + oI n = oI (x + n) from oI_add x n) hn hv (fun ls' hl' => kk H locs ls' hP hD hS hl')
theorem r_alen (C : CY Y cc own nL lev mc ms) {a N : Nat} {f : Int → Int} (q0 : Nat) (he : w[q0]? = some (a, iaE (yC Y 0) N f)) (hd : decode cc pc = .ok (.arraylength, 1)) (kk : RC Y nL Q (pc + 1) lv (.int (oI N) :: st) w ce sl) : RC Y nL Q pc lv (.ref a :: st) w ce sl := by
  obtain ⟨⟨p, l, e9, R, s⟩, ⟨m, args, below, meth, c⟩, A, D, cy⟩ := Y
  obtain ⟨hx, hb, hml, hown, hts, hK, hA, hlocks, hR⟩ := C
  intro H locs ls hP hD hS hl
  exact va_alen hx hb hK hP q0 0 he rfl (v := oI N) rfl hd (kk H locs ls hP hD hS hl)
theorem r_iast (C : CY Y cc own nL lev mc ms) {a N : Nat} {f : Int → Int} {i v : Int} (q0 : Nat) (he : w[q0]? = some (a, iaE (yC Y 0) N f)) (hN : N ≤ 400) (h0 : 0 ≤ i) (h1 : i < N) (hd : decode cc pc = .ok (.iastore, 1)) (kk : RC Y nL Q (pc + 1) lv st (w.set q0 (a, iaE (yC Y 0) N (fun j => if j = i then v else f j))) ce sl) : RC Y nL Q pc lv (.int (oI v) :: .int (oI i) :: .ref a :: st) w ce sl := by
  obtain ⟨⟨p, l, e9, R, s⟩, ⟨m, args, below, meth, c⟩, A, D, cy⟩ := Y
  obtain ⟨hx, hb, hml, hown, hts, hK, hA, hlocks, hR⟩ := C
  intro H locs ls hP hD hS hl
  obtain ⟨g1, g2⟩ := oI_in h0 h1 (by omega)
  refine va_iast hx hb hK hP hD hS q0 0 he rfl g1 hd (fun H1 locs1 hP1 hD1 hS1 => ?_)
  have e : (.inl (cy 0, N, .inl (upd (fun j : Nat => oI (f j)) (oI i).toNatClampNeg (oI v))) : va_E) = iaE (cy 0) N (fun j => if j = i then v else f j) := by
    unfold iaE
    congr 4
    funext j
    rw [g2]
    unfold upd
    show _ = oI (if ((j : Nat) : Int) = i then v else f j)
    by_cases e : j = i.toNat
    · rw [if_pos e, if_pos (by omega)]
    · rw [if_neg e, if_neg (by omega)]
  exact kk H1 locs1 ls (e ▸ hP1) (e ▸ hD1) hS1 hl
end RCC
/-- Arrays.fill, of one row -/
theorem c_fillA (l : Launch) (D : va_G) (cy : Nat → ClassId) (a N : Nat) (f : Int → Int) (v : Int) (hN : N ≤ 400) : CtI9 l yJ7_fill_53178 cJ7_fill_53178 4 0 0 0 D cy [.ref a, .int (oI v)] a (iaE (cy 0) N f) (fun _ => True) (fun _ : Unit => [(a, iaE (cy 0) N (fun j => if j < N then v else f j))]) := by
  refine CtI9.of (by decide) (Nat.le_of_ble_eq_true rfl) (fun Y hY C hin hr hE hl sz hA => ?_)
  obtain ⟨⟨p, l9, e9, R, s⟩, ⟨m, args, below, meth, c⟩, A, D9, cy9⟩ := Y
  cases hY
  cases hA
  have loop : ∀ n : Nat, ∀ k : Int, 0 ≤ k → k ≤ N → (N - k).toNat < n → RC ((p, l9, e9, R, s), (m, args, below, meth, c), va_A [(a, iaE (cy 0) N f)] sz, D, cy) 4 (MQ below (va_Qv (fun _ : Unit => True) (fun u t => va_P D vwCl [(a, iaE (cy 0) N (fun j => if j < N then v else f j))] t.heap ∧ va_D (va_A [(a, iaE (cy 0) N f)] sz) [(a, iaE (cy 0) N (fun j => if j < N then v else f j))]) (va_A [(a, iaE (cy 0) N f)] sz)) args s 0 0 (va_A [(a, iaE (cy 0) N f)] sz)) 5 [(3, .int (oI N)), (2, .int (oI k)), (0, .ref a), (1, .int (oI v))] [] [(a, iaE (cy 0) N (fun j => if j < k then v else f j))] 0 0 := by
    intro n
    induction n with
    | zero => intro k _ _ h; omega
    | succ n ih =>
      intro k k0 k1 hn
      refine r_iload_n C 1 dJ7_fill_53178_5 rfl ?_
      refine r_iload_n C 0 dJ7_fill_53178_6 rfl ?_
      refine r_icmp_ge C 20 dJ7_fill_53178_7 (by decide) ⟨by omega, by omega⟩ ⟨by omega, by omega⟩ (fun g => ?_) (fun g => ?_)
      · have ek : k = N := by omega
        subst ek
        refine r_vret C hr dJ7_fill_53178_20 (fun t H locs ht hw hP hD hS => ⟨⟨(), rfl, trivial, by rw [ht]; exact hP, hD⟩, hS.F ht⟩)
      · refine r_aload_n C 2 dJ7_fill_53178_10 rfl ?_
        refine r_iload_n C 1 dJ7_fill_53178_11 rfl ?_
        refine r_iload_n C 3 dJ7_fill_53178_12 rfl ?_
        refine r_iast C (N := N) (f := fun j => if j < k then v else f j) 0 rfl hN k0 g dJ7_fill_53178_13 ?_
        refine r_iinc C 1 [(2, .int (oI (k + 1))), (3, .int (oI N)), (0, .ref a), (1, .int (oI v))] dJ7_fill_53178_14 rfl (by decide) rfl ?_
        refine r_goto C 5 dJ7_fill_53178_17 (by decide) ?_
        have ih' := ih (k + 1) (by omega) (by omega) (by omega)
        have ef : (fun j => if j = k then v else if j < k then v else f j) = fun j => if j < k + 1 then v else f j := by
          funext j
          by_cases c : j < k + 1
          · rw [if_pos c]
            by_cases c2 : j = k
            · rw [if_pos c2]
            · rw [if_neg c2, if_pos (by omega)]
          · rw [if_neg c, if_neg (by omega), if_neg (by omega)]
        show RC _ 4 _ 5 _ [] [(a, iaE (cy 0) N (fun j => if j = k then v else if j < k then v else f j))] 0 0
        rw [ef]
        intro H locs ls hP hD hS hl
        exact ih' H locs ls hP hD hS (lv_sub hl [1, 0, 2, 3] rfl)
  show RC _ 4 _ 0 [(0, .ref a), (1, .int (oI v))] [] _ 0 0
  refine r_iconst C dJ7_fill_53178_0 ?_
  refine r_istore_n C [(2, .int (oI 0)), (0, .ref a), (1, .int (oI v))] dJ7_fill_53178_1 (by decide) rfl ?_
  refine r_aload_n C 1 dJ7_fill_53178_2 rfl ?_
  refine r_alen C 0 rfl dJ7_fill_53178_3 ?_
  refine r_istore_n C [(3, .int (oI N)), (2, .int (oI 0)), (0, .ref a), (1, .int (oI v))] dJ7_fill_53178_4 (by decide) rfl ?_
  have := loop (N + 1) 0 (by omega) (by omega) (by omega)
  have ef : (fun j => if j < 0 then v else f j) = fun j : Int => if j < 0 then v else f j := rfl
  intro H locs ls hP hD hS hl
  refine this H locs ls (fun k q hq => ?_) ?_ hS hl
  · have hk0 : k = 0 := by
      have := (List.getElem?_eq_some_iff.mp hq).1
      simp at this
      exact this
    subst hk0
    cases hq
    have h0 := hP 0 _ rfl
    exact h0
  · refine ⟨fun i j p q hi hj _ => ?_, fun k q hq => ?_⟩
    · have := (List.getElem?_eq_some_iff.mp hi).1
      have := (List.getElem?_eq_some_iff.mp hj).1
      simp at *
      omega
    · have hk0 : k = 0 := by
        have := (List.getElem?_eq_some_iff.mp hq).1
        simp at this
        exact this
      subst hk0
      cases hq
      exact hD.2 0 _ rfl
