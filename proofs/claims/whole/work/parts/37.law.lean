/-! the law: the script, the ghosts, its cases -/
def sc (xs : Nat → Int32) (i : Int) : Int := (xs i.toNat).toInt
theorem sc_in (xs : Nat → Int32) (i : Int) : inR (sc xs i) := inR_of _
def SX (G : GG) (X : XX) (L : Nat) (xs : Nat → Int32) : Prop := match X with
  | ((_, _, _, _, s), _, A0, _, _) => va_X (gA G (-1)) L xs s s.heap ∧ ¬ A0 (gA G (-1)) ∧ L ≤ 2561
section LROWS
variable {G : GG} {X : XX} {cc : ByteArray} {own : String} {nL lev : Nat} {ret : Option FieldType} {Q : State → Prop} {pc : Nat} {lv : List (Nat × PV)} {st : List PV} {σ : Mem} {L : Nat} {xs : Nat → Int32}
theorem SX_lt (S : SX G X L xs) : gA G (-1) < X.1.2.2.2.2.heap.size := by
  obtain ⟨⟨p, l, e, R, s⟩, ⟨m, args, below, meth, c⟩, A0, ce, sl⟩ := X
  obtain ⟨⟨scr, h1, -⟩, -⟩ := S
  exact (Array.getElem?_eq_some_iff.mp h1).1
theorem w_sld (C : CX G X cc own nL ret lev) (S : SX G X L xs) {i : Int} (hd : decode cc pc = .ok (.iaload, 1)) (h0 : 0 ≤ i) (h1 : i < L) (kk : RW G X nL Q (pc + 1) lv (pI (sc xs i) :: st) σ) : RW G X nL Q pc lv (pI i :: pR (-1) :: st) σ := by
  have hlt := SX_lt S
  obtain ⟨⟨p, l, e, R, s⟩, ⟨m, args, below, meth, c⟩, A0, ce, sl⟩ := X
  obtain ⟨hx, hb, hml, hown, hts, hK, hG, hAA, hlocks, hr, hR⟩ := C
  obtain ⟨hX, hbA, hL⟩ := S
  intro H locs ls hP hS hl
  obtain ⟨g1, g2⟩ := oI_in h0 h1 (by omega)
  refine va_sld hx hb hX hlt hbA hS g1 hd ?_
  have k := kk H locs ls hP hS hl
  have e1 : xs (oI i).toNatClampNeg = oI (sc xs i) := by
    unfold sc
    rw [g2, oI_of]
  rw [e1]
  exact k
theorem w_slen (C : CX G X cc own nL ret lev) (S : SX G X L xs) (hd : decode cc pc = .ok (.arraylength, 1)) (kk : RW G X nL Q (pc + 1) lv (pI L :: st) σ) : RW G X nL Q pc lv (pR (-1) :: st) σ := by
  have hlt := SX_lt S
  obtain ⟨⟨p, l, e, R, s⟩, ⟨m, args, below, meth, c⟩, A0, ce, sl⟩ := X
  obtain ⟨hx, hb, hml, hown, hts, hK, hG, hAA, hlocks, hr, hR⟩ := C
  obtain ⟨hX, hbA, hL⟩ := S
  intro H locs ls hP hS hl
  exact va_slen hx hb hX hlt hbA hS hd (kk H locs ls hP hS hl)
theorem w_eqJ (C : CX G X cc own nL ret lev) {a b : Int} {off : Int} (tgt : Nat) (hd : decode cc pc = .ok (.if_icmp .eq off, 3)) (ht : (pc : Int) + off = (tgt : Int)) (h : a = b) (kk : RW G X nL Q tgt lv st σ) : RW G X nL Q pc lv (pI b :: pI a :: st) σ := by
  obtain ⟨⟨p, l, e, R, s⟩, ⟨m, args, below, meth, c⟩, A0, ce, sl⟩ := X
  obtain ⟨hx, hb, hml, hown, hts, hK, hG, hAA, hlocks, hr, hR⟩ := C
  subst h
  intro H locs ls hP hS hl
  exact lv_icmp_eq hx hb hd ht (fun q => kk H locs ls hP hS hl) (fun q => absurd rfl q)
theorem w_lcmpS (C : CX G X cc own nL ret lev) {a b : Int} (hd : decode cc pc = .ok (.lcmp, 1)) (h : a = b) (kk : RW G X nL Q (pc + 1) lv (pI 0 :: st) σ) : RW G X nL Q pc lv (pL b :: pL a :: st) σ := by
  obtain ⟨⟨p, l, e, R, s⟩, ⟨m, args, below, meth, c⟩, A0, ce, sl⟩ := X
  obtain ⟨hx, hb, hml, hown, hts, hK, hG, hAA, hlocks, hr, hR⟩ := C
  subst h
  intro H locs ls hP hS hl
  have k : W p l e R s m args below meth c H locs ce sl Q (F0 m (pc + 1) ls (.int (oI 0) :: dens (gA G) st)) := kk H locs ls hP hS hl
  have e1 : lg_cmp (oL a) (oL a) = oI 0 := by
    unfold lg_cmp
    rw [if_neg (by simp), if_pos rfl]
    rfl
  rw [← e1] at k
  exact W.lcmp hx hb hd k
theorem w_gh (τ : Mem) (h : ∀ k : Nat, τ (k : Int) = σ (k : Int)) (kk : RW G X nL Q pc lv st τ) : RW G X nL Q pc lv st σ := by
  have e : WS G σ = WS G τ := by
    unfold WS
    apply List.map_congr_left
    intro k _
    rw [h k]
  obtain ⟨⟨p, l, e9, R, s⟩, ⟨m, args, below, meth, c⟩, A0, ce, sl⟩ := X
  intro H locs ls hP hS hl
  rw [e] at hP
  exact kk H locs ls hP hS hl
end LROWS
/-! what holds between the calls -/
def LI (M : Nat) (σ : Mem) : Prop := CI M σ ∧ RM M σ σ
def Sy (a : Mem) : Prop := ∀ c : Int, a c = a (c.natAbs : Int)
def sy (σ : Mem) : Mem := fun c => σ (c.natAbs : Int)
def sg (a σ : Mem) : Mem := fun c => if c ≤ -1000 then a (-1000 - c) else σ c
theorem sy_Sy (σ : Mem) : Sy (sy σ) := fun c => by unfold sy; rw [Int.natAbs_natCast]
theorem sy_nat (σ : Mem) (k : Nat) : sy σ (k : Int) = σ (k : Int) := by unfold sy; rw [Int.natAbs_natCast]
theorem sy_pos (σ : Mem) {c : Int} (h : 0 ≤ c) : sy σ c = σ c := by unfold sy; rw [Int.natAbs_of_nonneg h]
theorem sg_nat (a σ : Mem) (k : Nat) : sg a σ (k : Int) = σ (k : Int) := by unfold sg; rw [if_neg (by omega)]
theorem sg_pos (a σ : Mem) {c : Int} (h : 0 ≤ c) : sg a σ c = σ c := by unfold sg; rw [if_neg (by omega)]
theorem sg_gh {a : Mem} (h : Sy a) (σ : Mem) : gh (sg a σ) = a := by
  funext c
  unfold gh sg
  rw [if_pos (by omega), h c]
  congr 1
  omega
theorem RM_cells {M : Nat} {a σ σ' : Mem} (h : ∀ c : Int, 37 ≤ c → c ≤ 47 → σ' c = σ c) (r : RM M a σ) : RM M a σ' := by
  unfold RM at *
  rw [h 37 (by omega) (by omega), h 38 (by omega) (by omega), h 39 (by omega) (by omega), h 40 (by omega) (by omega), h 41 (by omega) (by omega), h 42 (by omega) (by omega), h 43 (by omega) (by omega), h 44 (by omega) (by omega), h 45 (by omega) (by omega), h 46 (by omega) (by omega), h 47 (by omega) (by omega)]
  exact r
theorem LI_sy {M : Nat} {σ : Mem} (h : LI M σ) : LI M (sy σ) := by
  have hse : SE σ (sy σ) := fun c hc => (sy_pos σ (by omega)).symm
  exact ⟨CI_SE hse (sy_pos σ (by omega)) h.1, RM_SE hse (RM_cells (fun c c1 _ => sy_pos σ (by omega)) h.2)⟩
theorem ref_pre {M : Nat} {a s : Mem} (hI : LI M a) (hs : Sy a) (hf : ∀ c : Int, 37 ≤ c → c ≤ 47 → s c = a c) : RP M (sg a s) := by
  unfold RP
  rw [sg_gh hs]
  exact ⟨hI.1.1, RM_cells (fun c c1 c2 => by rw [sg_pos a s (by omega)]; exact hf c c1 c2) hI.2⟩
theorem mod_fin {M : Nat} {a s s2 a1 a2 : Mem} (e : a1 = a2) (hse : SE a1 s) (hci : CI M s) (hfm : FM (sg a s) s2) (hrm : RM M a2 s2) : LI M s2 := by
  have hse2 : SE s s2 := fun c hc => by
    rcases hc with hc | hc
    · rw [hfm c (by omega), sg_pos a s (by omega)]
    · rw [hfm c (by omega), sg_pos a s (by omega)]
  subst e
  exact ⟨CI_SE hse2 (by rw [hfm 32 (by omega), sg_pos a s (by omega)]) hci, RM_SE (hse.trans hse2) hrm⟩
theorem q_fin {M : Nat} {a s s2 : Mem} (hI : LI M a) (hse : SE a s) (hci : CI M s) (hf : ∀ c : Int, 37 ≤ c → c ≤ 47 → s c = a c) (hfr : RFr (sg a s) s2) : LI M s2 := by
  have hse2 : SE s s2 := fun c hc => by
    rcases hc with hc | hc
    · rw [hfr.1 c (by omega), sg_pos a s (by omega)]
    · rw [hfr.1 c (by omega), sg_pos a s (by omega)]
  have r1 : RM M a (sg a s) := RM_cells (fun c c1 c2 => by rw [sg_pos a s (by omega)]; exact hf c c1 c2) hI.2
  exact ⟨CI_SE hse2 (by rw [hfr.1 32 (by omega), sg_pos a s (by omega)]) hci, RM_SE (hse.trans hse2) (RM_fr hfr r1)⟩
abbrev lvL (i : Int) : List (Nat × PV) := [(0, pR (-1)), (1, pR 0), (2, pR 37), (3, pR 56), (4, pI i)]

set_option maxRecDepth 20000 in
set_option maxHeartbeats 4000000 in
theorem case_job {G : GG} {X : XX} {Q : State → Prop} {L : Nat} {xs : Nat → Int32} (C : CX G X cL_law RL 8 ret 8) (S : SX G X L xs) {σ : Mem} (hI : LI (gM G) σ) (hs : Sy σ) {i : Int} (i1 : 1 ≤ i) (i5 : i + 5 ≤ L) (K : ∀ τ, LI (gM G) τ → RW G X 8 Q 701 (lvL i) [] τ) : RW G X 8 Q 136 (lvL i) [] σ := by
  refine w_aload_n C 1 dL_law_136 rfl ?_
  refine w_aload_n C 0 dL_law_137 rfl ?_
  refine w_iload C 4 dL_law_138 rfl ?_
  refine w_iconst C dL_law_140 ?_
  refine w_iadd C dL_law_141 ?_
  refine w_sld C S dL_law_142 (by omega) (by omega) ?_
  refine w_aload_n C 0 dL_law_143 rfl ?_
  refine w_iload C 4 dL_law_144 rfl ?_
  refine w_iconst C dL_law_146 ?_
  refine w_iadd C dL_law_147 ?_
  refine w_sld C S dL_law_148 (by omega) (by omega) ?_
  refine w_aload_n C 0 dL_law_149 rfl ?_
  refine w_iload C 4 dL_law_150 rfl ?_
  refine w_iconst C dL_law_152 ?_
  refine w_iadd C dL_law_153 ?_
  refine w_sld C S dL_law_154 (by omega) (by omega) ?_
  refine w_callVI C [pI (sc xs (i + 1)), pI (sc xs (i + 2)), pI (sc xs (i + 3))] [] rfl dL_law_155 (c_X4_job C.gi (xL X) (sc xs (i + 1)) (sc xs (i + 2)) (sc xs (i + 3)) σ ⟨hI.1, sc_in xs (i + 1), sc_in xs (i + 2), sc_in xs (i + 3)⟩) oc_0 mw_X4_job ml_L_27 im_X4_job se_X4_job (by decide) (Nat.le_of_ble_eq_true rfl) (fun z s hz => ?_)
  obtain ⟨a1, hr1, hse, hci, hfc⟩ := hz
  have hf : ∀ c : Int, 37 ≤ c → c ≤ 47 → s c = σ c := fun c c1 c2 => hfc c c1 (by omega)
  have hrp := ref_pre hI hs hf
  refine w_gh (sg σ s) (sg_nat σ s) ?_
  refine w_aload_n C 2 dL_law_158 rfl ?_
  refine w_aload_n C 0 dL_law_159 rfl ?_
  refine w_iload C 4 dL_law_160 rfl ?_
  refine w_iconst C dL_law_162 ?_
  refine w_iadd C dL_law_163 ?_
  refine w_sld C S dL_law_164 (by omega) (by omega) ?_
  refine w_aload_n C 0 dL_law_165 rfl ?_
  refine w_iload C 4 dL_law_166 rfl ?_
  refine w_iconst C dL_law_168 ?_
  refine w_iadd C dL_law_169 ?_
  refine w_sld C S dL_law_170 (by omega) (by omega) ?_
  refine w_aload_n C 0 dL_law_171 rfl ?_
  refine w_iload C 4 dL_law_172 rfl ?_
  refine w_iconst C dL_law_174 ?_
  refine w_iadd C dL_law_175 ?_
  refine w_sld C S dL_law_176 (by omega) (by omega) ?_
  refine w_callVI C [pI (sc xs (i + 1)), pI (sc xs (i + 2)), pI (sc xs (i + 3))] [pI z] rfl dL_law_177 (c_X5_job C.gi (xL X) (sc xs (i + 1)) (sc xs (i + 2)) (sc xs (i + 3)) (sg σ s) ⟨hrp, sc_in xs (i + 1), sc_in xs (i + 2), sc_in xs (i + 3)⟩) oc_37 mw_X5_job ml_L_31 im_X5_job se_X5_job (by decide) (Nat.le_of_ble_eq_true rfl) (fun z2 s2 hz2 => ?_)
  obtain ⟨hfm, a2, hr2, hrm⟩ := hz2
  rw [sg_gh hs] at hr2
  have hd := (R_job_det hr1 hr2)
  have ez := hd.1
  have hI2 : LI (gM G) s2 := mod_fin hd.2 hse hci hfm hrm
  refine w_eqJ C 701 dL_law_180 (by decide) ez ?_
  exact K s2 hI2
set_option maxRecDepth 20000 in
set_option maxHeartbeats 4000000 in
theorem case_step {G : GG} {X : XX} {Q : State → Prop} {L : Nat} {xs : Nat → Int32} (C : CX G X cL_law RL 8 ret 8) (S : SX G X L xs) {σ : Mem} (hI : LI (gM G) σ) (hs : Sy σ) {i : Int} (i1 : 1 ≤ i) (i5 : i + 5 ≤ L) (K : ∀ τ, LI (gM G) τ → RW G X 8 Q 701 (lvL i) [] τ) : RW G X 8 Q 185 (lvL i) [] σ := by
  refine w_aload_n C 1 dL_law_185 rfl ?_
  refine w_aload_n C 0 dL_law_186 rfl ?_
  refine w_iload C 4 dL_law_187 rfl ?_
  refine w_iconst C dL_law_189 ?_
  refine w_iadd C dL_law_190 ?_
  refine w_sld C S dL_law_191 (by omega) (by omega) ?_
  refine w_aload_n C 0 dL_law_192 rfl ?_
  refine w_iload C 4 dL_law_193 rfl ?_
  refine w_iconst C dL_law_195 ?_
  refine w_iadd C dL_law_196 ?_
  refine w_sld C S dL_law_197 (by omega) (by omega) ?_
  refine w_aload_n C 0 dL_law_198 rfl ?_
  refine w_iload C 4 dL_law_199 rfl ?_
  refine w_iconst C dL_law_201 ?_
  refine w_iadd C dL_law_202 ?_
  refine w_sld C S dL_law_203 (by omega) (by omega) ?_
  refine w_callVI C [pI (sc xs (i + 1)), pI (sc xs (i + 2)), pI (sc xs (i + 3))] [] rfl dL_law_204 (c_X4_step C.gi (xL X) (sc xs (i + 1)) (sc xs (i + 2)) (sc xs (i + 3)) σ ⟨hI.1, sc_in xs (i + 1), sc_in xs (i + 2), sc_in xs (i + 3)⟩) oc_0 mw_X4_step ml_L_32 im_X4_step se_X4_step (by decide) (Nat.le_of_ble_eq_true rfl) (fun z s hz => ?_)
  obtain ⟨a1, hr1, hse, hci, hfc⟩ := hz
  have hf : ∀ c : Int, 37 ≤ c → c ≤ 47 → s c = σ c := fun c c1 c2 => hfc c c1 (by omega)
  have hrp := ref_pre hI hs hf
  refine w_gh (sg σ s) (sg_nat σ s) ?_
  refine w_aload_n C 2 dL_law_207 rfl ?_
  refine w_aload_n C 0 dL_law_208 rfl ?_
  refine w_iload C 4 dL_law_209 rfl ?_
  refine w_iconst C dL_law_211 ?_
  refine w_iadd C dL_law_212 ?_
  refine w_sld C S dL_law_213 (by omega) (by omega) ?_
  refine w_aload_n C 0 dL_law_214 rfl ?_
  refine w_iload C 4 dL_law_215 rfl ?_
  refine w_iconst C dL_law_217 ?_
  refine w_iadd C dL_law_218 ?_
  refine w_sld C S dL_law_219 (by omega) (by omega) ?_
  refine w_aload_n C 0 dL_law_220 rfl ?_
  refine w_iload C 4 dL_law_221 rfl ?_
  refine w_iconst C dL_law_223 ?_
  refine w_iadd C dL_law_224 ?_
  refine w_sld C S dL_law_225 (by omega) (by omega) ?_
  refine w_callVI C [pI (sc xs (i + 1)), pI (sc xs (i + 2)), pI (sc xs (i + 3))] [pI z] rfl dL_law_226 (c_X5_step C.gi (xL X) (sc xs (i + 1)) (sc xs (i + 2)) (sc xs (i + 3)) (sg σ s) ⟨hrp, sc_in xs (i + 1), sc_in xs (i + 2), sc_in xs (i + 3)⟩) oc_37 mw_X5_step ml_L_35 im_X5_step se_X5_step (by decide) (Nat.le_of_ble_eq_true rfl) (fun z2 s2 hz2 => ?_)
  obtain ⟨hfm, a2, hr2, hrm⟩ := hz2
  rw [sg_gh hs] at hr2
  have hd := (R_step_det hr1 hr2)
  have ez := hd.1
  have hI2 : LI (gM G) s2 := mod_fin hd.2 hse hci hfm hrm
  refine w_eqJ C 701 dL_law_229 (by decide) ez ?_
  exact K s2 hI2
set_option maxRecDepth 20000 in
set_option maxHeartbeats 4000000 in
theorem case_change {G : GG} {X : XX} {Q : State → Prop} {L : Nat} {xs : Nat → Int32} (C : CX G X cL_law RL 8 ret 8) (S : SX G X L xs) {σ : Mem} (hI : LI (gM G) σ) (hs : Sy σ) {i : Int} (i1 : 1 ≤ i) (i5 : i + 5 ≤ L) (K : ∀ τ, LI (gM G) τ → RW G X 8 Q 701 (lvL i) [] τ) : RW G X 8 Q 234 (lvL i) [] σ := by
  refine w_aload_n C 1 dL_law_234 rfl ?_
  refine w_aload_n C 0 dL_law_235 rfl ?_
  refine w_iload C 4 dL_law_236 rfl ?_
  refine w_iconst C dL_law_238 ?_
  refine w_iadd C dL_law_239 ?_
  refine w_sld C S dL_law_240 (by omega) (by omega) ?_
  refine w_aload_n C 0 dL_law_241 rfl ?_
  refine w_iload C 4 dL_law_242 rfl ?_
  refine w_iconst C dL_law_244 ?_
  refine w_iadd C dL_law_245 ?_
  refine w_sld C S dL_law_246 (by omega) (by omega) ?_
  refine w_aload_n C 0 dL_law_247 rfl ?_
  refine w_iload C 4 dL_law_248 rfl ?_
  refine w_iconst C dL_law_250 ?_
  refine w_iadd C dL_law_251 ?_
  refine w_sld C S dL_law_252 (by omega) (by omega) ?_
  refine w_aload_n C 0 dL_law_253 rfl ?_
  refine w_iload C 4 dL_law_254 rfl ?_
  refine w_iconst C dL_law_256 ?_
  refine w_iadd C dL_law_257 ?_
  refine w_sld C S dL_law_258 (by omega) (by omega) ?_
  refine w_callVI C [pI (sc xs (i + 1)), pI (sc xs (i + 2)), pI (sc xs (i + 3)), pI (sc xs (i + 4))] [] rfl dL_law_259 (c_X4_change C.gi (xL X) (sc xs (i + 1)) (sc xs (i + 2)) (sc xs (i + 3)) (sc xs (i + 4)) σ ⟨hI.1, sc_in xs (i + 1), sc_in xs (i + 2), sc_in xs (i + 3), sc_in xs (i + 4)⟩) oc_0 mw_X4_change ml_L_36 im_X4_change se_X4_change (by decide) (Nat.le_of_ble_eq_true rfl) (fun z s hz => ?_)
  obtain ⟨a1, hr1, hse, hci, hfc⟩ := hz
  have hf : ∀ c : Int, 37 ≤ c → c ≤ 47 → s c = σ c := fun c c1 c2 => hfc c c1 (by omega)
  have hrp := ref_pre hI hs hf
  refine w_gh (sg σ s) (sg_nat σ s) ?_
  refine w_aload_n C 2 dL_law_262 rfl ?_
  refine w_aload_n C 0 dL_law_263 rfl ?_
  refine w_iload C 4 dL_law_264 rfl ?_
  refine w_iconst C dL_law_266 ?_
  refine w_iadd C dL_law_267 ?_
  refine w_sld C S dL_law_268 (by omega) (by omega) ?_
  refine w_aload_n C 0 dL_law_269 rfl ?_
  refine w_iload C 4 dL_law_270 rfl ?_
  refine w_iconst C dL_law_272 ?_
  refine w_iadd C dL_law_273 ?_
  refine w_sld C S dL_law_274 (by omega) (by omega) ?_
  refine w_aload_n C 0 dL_law_275 rfl ?_
  refine w_iload C 4 dL_law_276 rfl ?_
  refine w_iconst C dL_law_278 ?_
  refine w_iadd C dL_law_279 ?_
  refine w_sld C S dL_law_280 (by omega) (by omega) ?_
  refine w_aload_n C 0 dL_law_281 rfl ?_
  refine w_iload C 4 dL_law_282 rfl ?_
  refine w_iconst C dL_law_284 ?_
  refine w_iadd C dL_law_285 ?_
  refine w_sld C S dL_law_286 (by omega) (by omega) ?_
  refine w_callVI C [pI (sc xs (i + 1)), pI (sc xs (i + 2)), pI (sc xs (i + 3)), pI (sc xs (i + 4))] [pI z] rfl dL_law_287 (c_X5_change C.gi (xL X) (sc xs (i + 1)) (sc xs (i + 2)) (sc xs (i + 3)) (sc xs (i + 4)) (sg σ s) ⟨hrp, sc_in xs (i + 1), sc_in xs (i + 2), sc_in xs (i + 3), sc_in xs (i + 4)⟩) oc_37 mw_X5_change ml_L_40 im_X5_change se_X5_change (by decide) (Nat.le_of_ble_eq_true rfl) (fun z2 s2 hz2 => ?_)
  obtain ⟨hfm, a2, hr2, hrm⟩ := hz2
  rw [sg_gh hs] at hr2
  have hd := (R_change_det hr1 hr2)
  have ez := hd.1
  have hI2 : LI (gM G) s2 := mod_fin hd.2 hse hci hfm hrm
  refine w_eqJ C 701 dL_law_290 (by decide) ez ?_
  exact K s2 hI2
set_option maxRecDepth 20000 in
set_option maxHeartbeats 4000000 in
theorem case_put {G : GG} {X : XX} {Q : State → Prop} {L : Nat} {xs : Nat → Int32} (C : CX G X cL_law RL 8 ret 8) (S : SX G X L xs) {σ : Mem} (hI : LI (gM G) σ) (hs : Sy σ) {i : Int} (i1 : 1 ≤ i) (i5 : i + 5 ≤ L) (K : ∀ τ, LI (gM G) τ → RW G X 8 Q 701 (lvL i) [] τ) : RW G X 8 Q 295 (lvL i) [] σ := by
  refine w_aload_n C 1 dL_law_295 rfl ?_
  refine w_aload_n C 0 dL_law_296 rfl ?_
  refine w_iload C 4 dL_law_297 rfl ?_
  refine w_iconst C dL_law_299 ?_
  refine w_iadd C dL_law_300 ?_
  refine w_sld C S dL_law_301 (by omega) (by omega) ?_
  refine w_aload_n C 0 dL_law_302 rfl ?_
  refine w_iload C 4 dL_law_303 rfl ?_
  refine w_iconst C dL_law_305 ?_
  refine w_iadd C dL_law_306 ?_
  refine w_sld C S dL_law_307 (by omega) (by omega) ?_
  refine w_callVI C [pI (sc xs (i + 1)), pI (sc xs (i + 2))] [] rfl dL_law_308 (c_X4_put C.gi (xL X) (sc xs (i + 1)) (sc xs (i + 2)) σ ⟨hI.1, sc_in xs (i + 1), sc_in xs (i + 2)⟩) oc_0 mw_X4_put ml_L_41 im_X4_put se_X4_put (by decide) (Nat.le_of_ble_eq_true rfl) (fun z s hz => ?_)
  obtain ⟨a1, hr1, hse, hci, hfc⟩ := hz
  have hf : ∀ c : Int, 37 ≤ c → c ≤ 47 → s c = σ c := fun c c1 c2 => hfc c c1 (by omega)
  have hrp := ref_pre hI hs hf
  refine w_gh (sg σ s) (sg_nat σ s) ?_
  refine w_aload_n C 2 dL_law_311 rfl ?_
  refine w_aload_n C 0 dL_law_312 rfl ?_
  refine w_iload C 4 dL_law_313 rfl ?_
  refine w_iconst C dL_law_315 ?_
  refine w_iadd C dL_law_316 ?_
  refine w_sld C S dL_law_317 (by omega) (by omega) ?_
  refine w_aload_n C 0 dL_law_318 rfl ?_
  refine w_iload C 4 dL_law_319 rfl ?_
  refine w_iconst C dL_law_321 ?_
  refine w_iadd C dL_law_322 ?_
  refine w_sld C S dL_law_323 (by omega) (by omega) ?_
  refine w_callVI C [pI (sc xs (i + 1)), pI (sc xs (i + 2))] [pI z] rfl dL_law_324 (c_X5_put C.gi (xL X) (sc xs (i + 1)) (sc xs (i + 2)) (sg σ s) ⟨hrp, sc_in xs (i + 1), sc_in xs (i + 2)⟩) oc_37 mw_X5_put ml_L_45 im_X5_put se_X5_put (by decide) (Nat.le_of_ble_eq_true rfl) (fun z2 s2 hz2 => ?_)
  obtain ⟨hfm, a2, hr2, hrm⟩ := hz2
  rw [sg_gh hs] at hr2
  have hd := (R_put_det hr1 hr2)
  have ez := hd.1
  have hI2 : LI (gM G) s2 := mod_fin hd.2 hse hci hfm hrm
  refine w_eqJ C 701 dL_law_327 (by decide) ez ?_
  exact K s2 hI2
set_option maxRecDepth 20000 in
set_option maxHeartbeats 4000000 in
theorem case_take {G : GG} {X : XX} {Q : State → Prop} {L : Nat} {xs : Nat → Int32} (C : CX G X cL_law RL 8 ret 8) (S : SX G X L xs) {σ : Mem} (hI : LI (gM G) σ) (hs : Sy σ) {i : Int} (i1 : 1 ≤ i) (i5 : i + 5 ≤ L) (K : ∀ τ, LI (gM G) τ → RW G X 8 Q 701 (lvL i) [] τ) : RW G X 8 Q 332 (lvL i) [] σ := by
  refine w_aload_n C 1 dL_law_332 rfl ?_
  refine w_aload_n C 0 dL_law_333 rfl ?_
  refine w_iload C 4 dL_law_334 rfl ?_
  refine w_iconst C dL_law_336 ?_
  refine w_iadd C dL_law_337 ?_
  refine w_sld C S dL_law_338 (by omega) (by omega) ?_
  refine w_callVI C [pI (sc xs (i + 1))] [] rfl dL_law_339 (c_X4_take C.gi (xL X) (sc xs (i + 1)) σ ⟨hI.1, sc_in xs (i + 1)⟩) oc_0 mw_X4_take ml_L_46 im_X4_take se_X4_take (by decide) (Nat.le_of_ble_eq_true rfl) (fun z s hz => ?_)
  obtain ⟨a1, hr1, hse, hci, hfc⟩ := hz
  have hf : ∀ c : Int, 37 ≤ c → c ≤ 47 → s c = σ c := fun c c1 c2 => hfc c c1 (by omega)
  have hrp := ref_pre hI hs hf
  refine w_gh (sg σ s) (sg_nat σ s) ?_
  refine w_aload_n C 2 dL_law_342 rfl ?_
  refine w_aload_n C 0 dL_law_343 rfl ?_
  refine w_iload C 4 dL_law_344 rfl ?_
  refine w_iconst C dL_law_346 ?_
  refine w_iadd C dL_law_347 ?_
  refine w_sld C S dL_law_348 (by omega) (by omega) ?_
  refine w_callVI C [pI (sc xs (i + 1))] [pI z] rfl dL_law_349 (c_X5_take C.gi (xL X) (sc xs (i + 1)) (sg σ s) ⟨hrp, sc_in xs (i + 1)⟩) oc_37 mw_X5_take ml_L_50 im_X5_take se_X5_take (by decide) (Nat.le_of_ble_eq_true rfl) (fun z2 s2 hz2 => ?_)
  obtain ⟨hfm, a2, hr2, hrm⟩ := hz2
  rw [sg_gh hs] at hr2
  have hd := (R_take_det hI.1.1 hr1 hr2)
  have ez := hd.1
  have hI2 : LI (gM G) s2 := mod_fin hd.2 hse hci hfm hrm
  refine w_eqJ C 701 dL_law_352 (by decide) ez ?_
  exact K s2 hI2
set_option maxRecDepth 20000 in
set_option maxHeartbeats 4000000 in
theorem case_swap {G : GG} {X : XX} {Q : State → Prop} {L : Nat} {xs : Nat → Int32} (C : CX G X cL_law RL 8 ret 8) (S : SX G X L xs) {σ : Mem} (hI : LI (gM G) σ) (hs : Sy σ) {i : Int} (i1 : 1 ≤ i) (i5 : i + 5 ≤ L) (K : ∀ τ, LI (gM G) τ → RW G X 8 Q 701 (lvL i) [] τ) : RW G X 8 Q 357 (lvL i) [] σ := by
  refine w_aload_n C 1 dL_law_357 rfl ?_
  refine w_aload_n C 0 dL_law_358 rfl ?_
  refine w_iload C 4 dL_law_359 rfl ?_
  refine w_iconst C dL_law_361 ?_
  refine w_iadd C dL_law_362 ?_
  refine w_sld C S dL_law_363 (by omega) (by omega) ?_
  refine w_aload_n C 0 dL_law_364 rfl ?_
  refine w_iload C 4 dL_law_365 rfl ?_
  refine w_iconst C dL_law_367 ?_
  refine w_iadd C dL_law_368 ?_
  refine w_sld C S dL_law_369 (by omega) (by omega) ?_
  refine w_callVI C [pI (sc xs (i + 1)), pI (sc xs (i + 2))] [] rfl dL_law_370 (c_X4_swap C.gi (xL X) (sc xs (i + 1)) (sc xs (i + 2)) σ ⟨hI.1, sc_in xs (i + 1), sc_in xs (i + 2)⟩) oc_0 mw_X4_swap ml_L_51 im_X4_swap se_X4_swap (by decide) (Nat.le_of_ble_eq_true rfl) (fun z s hz => ?_)
  obtain ⟨a1, hr1, hse, hci, hfc⟩ := hz
  have hf : ∀ c : Int, 37 ≤ c → c ≤ 47 → s c = σ c := fun c c1 c2 => hfc c c1 (by omega)
  have hrp := ref_pre hI hs hf
  refine w_gh (sg σ s) (sg_nat σ s) ?_
  refine w_aload_n C 2 dL_law_373 rfl ?_
  refine w_aload_n C 0 dL_law_374 rfl ?_
  refine w_iload C 4 dL_law_375 rfl ?_
  refine w_iconst C dL_law_377 ?_
  refine w_iadd C dL_law_378 ?_
  refine w_sld C S dL_law_379 (by omega) (by omega) ?_
  refine w_aload_n C 0 dL_law_380 rfl ?_
  refine w_iload C 4 dL_law_381 rfl ?_
  refine w_iconst C dL_law_383 ?_
  refine w_iadd C dL_law_384 ?_
  refine w_sld C S dL_law_385 (by omega) (by omega) ?_
  refine w_callVI C [pI (sc xs (i + 1)), pI (sc xs (i + 2))] [pI z] rfl dL_law_386 (c_X5_swap C.gi (xL X) (sc xs (i + 1)) (sc xs (i + 2)) (sg σ s) ⟨hrp, sc_in xs (i + 1), sc_in xs (i + 2)⟩) oc_37 mw_X5_swap ml_L_54 im_X5_swap se_X5_swap (by decide) (Nat.le_of_ble_eq_true rfl) (fun z2 s2 hz2 => ?_)
  obtain ⟨hfm, a2, hr2, hrm⟩ := hz2
  rw [sg_gh hs] at hr2
  have hd := (R_swap_det hr1 hr2)
  have ez := hd.1
  have hI2 : LI (gM G) s2 := mod_fin hd.2 hse hci hfm hrm
  refine w_eqJ C 701 dL_law_389 (by decide) ez ?_
  exact K s2 hI2
set_option maxRecDepth 20000 in
set_option maxHeartbeats 4000000 in
theorem case_at {G : GG} {X : XX} {Q : State → Prop} {L : Nat} {xs : Nat → Int32} (C : CX G X cL_law RL 8 ret 8) (S : SX G X L xs) {σ : Mem} (hI : LI (gM G) σ) (hs : Sy σ) {i : Int} (i1 : 1 ≤ i) (i5 : i + 5 ≤ L) (K : ∀ τ, LI (gM G) τ → RW G X 8 Q 701 (lvL i) [] τ) : RW G X 8 Q 394 (lvL i) [] σ := by
  refine w_aload_n C 1 dL_law_394 rfl ?_
  refine w_aload_n C 0 dL_law_395 rfl ?_
  refine w_iload C 4 dL_law_396 rfl ?_
  refine w_iconst C dL_law_398 ?_
  refine w_iadd C dL_law_399 ?_
  refine w_sld C S dL_law_400 (by omega) (by omega) ?_
  refine w_aload_n C 0 dL_law_401 rfl ?_
  refine w_iload C 4 dL_law_402 rfl ?_
  refine w_iconst C dL_law_404 ?_
  refine w_iadd C dL_law_405 ?_
  refine w_sld C S dL_law_406 (by omega) (by omega) ?_
  refine w_callVI C [pI (sc xs (i + 1)), pI (sc xs (i + 2))] [] rfl dL_law_407 (c_X4_at C.gi (xL X) (sc xs (i + 1)) (sc xs (i + 2)) σ ⟨hI.1.1, sc_in xs (i + 1), sc_in xs (i + 2)⟩) oc_0 mw_X4_at ml_L_55 im_X4_at se_X4_at (by decide) (Nat.le_of_ble_eq_true rfl) (fun z s hz => ?_)
  obtain ⟨hr1, hss⟩ := hz
  subst hss
  have hse := SE.refl s
  have hci := hI.1
  have hfc := FC.refl s
  have hf : ∀ c : Int, 37 ≤ c → c ≤ 47 → s c = s c := fun c c1 c2 => hfc c c1 (by omega)
  have hrp := ref_pre hI hs hf
  refine w_gh (sg s s) (sg_nat s s) ?_
  refine w_aload_n C 2 dL_law_410 rfl ?_
  refine w_aload_n C 0 dL_law_411 rfl ?_
  refine w_iload C 4 dL_law_412 rfl ?_
  refine w_iconst C dL_law_414 ?_
  refine w_iadd C dL_law_415 ?_
  refine w_sld C S dL_law_416 (by omega) (by omega) ?_
  refine w_aload_n C 0 dL_law_417 rfl ?_
  refine w_iload C 4 dL_law_418 rfl ?_
  refine w_iconst C dL_law_420 ?_
  refine w_iadd C dL_law_421 ?_
  refine w_sld C S dL_law_422 (by omega) (by omega) ?_
  refine w_callVI C [pI (sc xs (i + 1)), pI (sc xs (i + 2))] [pI z] rfl dL_law_423 (c_X5_at C.gi (xL X) (sc xs (i + 1)) (sc xs (i + 2)) (sg s s) ⟨hrp, sc_in xs (i + 1), sc_in xs (i + 2)⟩) oc_37 mw_X5_at ml_L_58 im_X5_at se_X5_at (by decide) (Nat.le_of_ble_eq_true rfl) (fun z2 s2 hz2 => ?_)
  obtain ⟨hfr, hr2⟩ := hz2
  rw [sg_gh hs] at hr2
  have ez := (R_at_det hr1 hr2)
  have hI2 : LI (gM G) s2 := q_fin hI hse hci hf hfr
  refine w_eqJ C 701 dL_law_426 (by decide) ez ?_
  exact K s2 hI2
set_option maxRecDepth 20000 in
set_option maxHeartbeats 4000000 in
theorem case_fill {G : GG} {X : XX} {Q : State → Prop} {L : Nat} {xs : Nat → Int32} (C : CX G X cL_law RL 8 ret 8) (S : SX G X L xs) {σ : Mem} (hI : LI (gM G) σ) (hs : Sy σ) {i : Int} (i1 : 1 ≤ i) (i5 : i + 5 ≤ L) (K : ∀ τ, LI (gM G) τ → RW G X 8 Q 701 (lvL i) [] τ) : RW G X 8 Q 431 (lvL i) [] σ := by
  refine w_aload_n C 1 dL_law_431 rfl ?_
  refine w_aload_n C 0 dL_law_432 rfl ?_
  refine w_iload C 4 dL_law_433 rfl ?_
  refine w_iconst C dL_law_435 ?_
  refine w_iadd C dL_law_436 ?_
  refine w_sld C S dL_law_437 (by omega) (by omega) ?_
  refine w_callVI C [pI (sc xs (i + 1))] [] rfl dL_law_438 (c_X4_fill C.gi (xL X) (sc xs (i + 1)) σ ⟨hI.1, sc_in xs (i + 1)⟩) oc_0 mw_X4_fill ml_L_59 im_X4_fill se_X4_fill (by decide) (Nat.le_of_ble_eq_true rfl) (fun z s hz => ?_)
  obtain ⟨a1, hr1, hse, hci, hfc⟩ := hz
  have hf : ∀ c : Int, 37 ≤ c → c ≤ 47 → s c = σ c := fun c c1 c2 => hfc c c1 (by omega)
  have hrp := ref_pre hI hs hf
  refine w_gh (sg σ s) (sg_nat σ s) ?_
  refine w_aload_n C 2 dL_law_441 rfl ?_
  refine w_aload_n C 0 dL_law_442 rfl ?_
  refine w_iload C 4 dL_law_443 rfl ?_
  refine w_iconst C dL_law_445 ?_
  refine w_iadd C dL_law_446 ?_
  refine w_sld C S dL_law_447 (by omega) (by omega) ?_
  refine w_callVI C [pI (sc xs (i + 1))] [pI z] rfl dL_law_448 (c_X5_fill C.gi (xL X) (sc xs (i + 1)) (sg σ s) ⟨hrp, sc_in xs (i + 1)⟩) oc_37 mw_X5_fill ml_L_62 im_X5_fill se_X5_fill (by decide) (Nat.le_of_ble_eq_true rfl) (fun z2 s2 hz2 => ?_)
  obtain ⟨hfm, a2, hr2, hrm⟩ := hz2
  rw [sg_gh hs] at hr2
  have hd := (R_fill_det hr1 hr2)
  have ez := hd.1
  have hI2 : LI (gM G) s2 := mod_fin hd.2 hse hci hfm hrm
  refine w_eqJ C 701 dL_law_451 (by decide) ez ?_
  exact K s2 hI2
set_option maxRecDepth 20000 in
set_option maxHeartbeats 4000000 in
theorem case_state {G : GG} {X : XX} {Q : State → Prop} {L : Nat} {xs : Nat → Int32} (C : CX G X cL_law RL 8 ret 8) (S : SX G X L xs) {σ : Mem} (hI : LI (gM G) σ) (hs : Sy σ) {i : Int} (i1 : 1 ≤ i) (i5 : i + 5 ≤ L) (K : ∀ τ, LI (gM G) τ → RW G X 8 Q 701 (lvL i) [] τ) : RW G X 8 Q 456 (lvL i) [] σ := by
  refine w_aload_n C 1 dL_law_456 rfl ?_
  refine w_callVI C [] [] rfl dL_law_457 (c_X4_state C.gi (xL X)  σ hI.1) oc_0 mw_X4_state ml_L_63 im_X4_state se_X4_state (by decide) (Nat.le_of_ble_eq_true rfl) (fun z s hz => ?_)
  obtain ⟨hr1, hse, hci, hfc⟩ := hz
  have hf : ∀ c : Int, 37 ≤ c → c ≤ 47 → s c = σ c := fun c c1 c2 => hfc c c1 (by omega)
  have hrp := ref_pre hI hs hf
  refine w_gh (sg σ s) (sg_nat σ s) ?_
  refine w_aload_n C 2 dL_law_460 rfl ?_
  refine w_callVI C [] [pI z] rfl dL_law_461 (c_X5_state C.gi (xL X)  (sg σ s) hrp) oc_37 mw_X5_state ml_L_67 im_X5_state se_X5_state (by decide) (Nat.le_of_ble_eq_true rfl) (fun z2 s2 hz2 => ?_)
  obtain ⟨hfr, hr2⟩ := hz2
  rw [sg_gh hs] at hr2
  have ez := (R_state_det hr1 hr2)
  have hI2 : LI (gM G) s2 := q_fin hI hse hci hf hfr
  refine w_eqJ C 701 dL_law_464 (by decide) ez ?_
  exact K s2 hI2
set_option maxRecDepth 20000 in
set_option maxHeartbeats 4000000 in
theorem case_when {G : GG} {X : XX} {Q : State → Prop} {L : Nat} {xs : Nat → Int32} (C : CX G X cL_law RL 8 ret 8) (S : SX G X L xs) {σ : Mem} (hI : LI (gM G) σ) (hs : Sy σ) {i : Int} (i1 : 1 ≤ i) (i5 : i + 5 ≤ L) (K : ∀ τ, LI (gM G) τ → RW G X 8 Q 701 (lvL i) [] τ) : RW G X 8 Q 469 (lvL i) [] σ := by
  refine w_aload_n C 1 dL_law_469 rfl ?_
  refine w_aload_n C 0 dL_law_470 rfl ?_
  refine w_iload C 4 dL_law_471 rfl ?_
  refine w_iconst C dL_law_473 ?_
  refine w_iadd C dL_law_474 ?_
  refine w_sld C S dL_law_475 (by omega) (by omega) ?_
  refine w_aload_n C 0 dL_law_476 rfl ?_
  refine w_iload C 4 dL_law_477 rfl ?_
  refine w_iconst C dL_law_479 ?_
  refine w_iadd C dL_law_480 ?_
  refine w_sld C S dL_law_481 (by omega) (by omega) ?_
  refine w_callVI C [pI (sc xs (i + 1)), pI (sc xs (i + 2))] [] rfl dL_law_482 (c_X4_when C.gi (xL X) (sc xs (i + 1)) (sc xs (i + 2)) σ ⟨hI.1, sc_in xs (i + 1), sc_in xs (i + 2)⟩) oc_0 mw_X4_when ml_L_68 im_X4_when se_X4_when (by decide) (Nat.le_of_ble_eq_true rfl) (fun z s hz => ?_)
  obtain ⟨hr1, hse, hci, hfc⟩ := hz
  have hf : ∀ c : Int, 37 ≤ c → c ≤ 47 → s c = σ c := fun c c1 c2 => hfc c c1 (by omega)
  have hrp := ref_pre hI hs hf
  refine w_gh (sg σ s) (sg_nat σ s) ?_
  refine w_aload_n C 2 dL_law_485 rfl ?_
  refine w_aload_n C 0 dL_law_486 rfl ?_
  refine w_iload C 4 dL_law_487 rfl ?_
  refine w_iconst C dL_law_489 ?_
  refine w_iadd C dL_law_490 ?_
  refine w_sld C S dL_law_491 (by omega) (by omega) ?_
  refine w_aload_n C 0 dL_law_492 rfl ?_
  refine w_iload C 4 dL_law_493 rfl ?_
  refine w_iconst C dL_law_495 ?_
  refine w_iadd C dL_law_496 ?_
  refine w_sld C S dL_law_497 (by omega) (by omega) ?_
  refine w_callVI C [pI (sc xs (i + 1)), pI (sc xs (i + 2))] [pI z] rfl dL_law_498 (c_X5_when C.gi (xL X) (sc xs (i + 1)) (sc xs (i + 2)) (sg σ s) ⟨hrp, sc_in xs (i + 1), sc_in xs (i + 2)⟩) oc_37 mw_X5_when ml_L_71 im_X5_when se_X5_when (by decide) (Nat.le_of_ble_eq_true rfl) (fun z2 s2 hz2 => ?_)
  obtain ⟨hfr, hr2⟩ := hz2
  rw [sg_gh hs] at hr2
  have ez := (R_when_det hI.1.1 hr1 hr2)
  have hI2 : LI (gM G) s2 := q_fin hI hse hci hf hfr
  refine w_eqJ C 701 dL_law_501 (by decide) ez ?_
  exact K s2 hI2
set_option maxRecDepth 20000 in
set_option maxHeartbeats 4000000 in
theorem case_span {G : GG} {X : XX} {Q : State → Prop} {L : Nat} {xs : Nat → Int32} (C : CX G X cL_law RL 8 ret 8) (S : SX G X L xs) {σ : Mem} (hI : LI (gM G) σ) (hs : Sy σ) {i : Int} (i1 : 1 ≤ i) (i5 : i + 5 ≤ L) (K : ∀ τ, LI (gM G) τ → RW G X 8 Q 701 (lvL i) [] τ) : RW G X 8 Q 506 (lvL i) [] σ := by
  refine w_aload_n C 1 dL_law_506 rfl ?_
  refine w_callVI C [] [] rfl dL_law_507 (c_X4_span C.gi (xL X)  σ hI.1) oc_0 mw_X4_span ml_L_72 im_X4_span se_X4_span (by decide) (Nat.le_of_ble_eq_true rfl) (fun z s hz => ?_)
  obtain ⟨hr1, hse, hci, hfc⟩ := hz
  have hf : ∀ c : Int, 37 ≤ c → c ≤ 47 → s c = σ c := fun c c1 c2 => hfc c c1 (by omega)
  have hrp := ref_pre hI hs hf
  refine w_gh (sg σ s) (sg_nat σ s) ?_
  refine w_aload_n C 2 dL_law_510 rfl ?_
  refine w_callVI C [] [pI z] rfl dL_law_511 (c_X5_span C.gi (xL X)  (sg σ s) hrp) oc_37 mw_X5_span ml_L_75 im_X5_span se_X5_span (by decide) (Nat.le_of_ble_eq_true rfl) (fun z2 s2 hz2 => ?_)
  obtain ⟨hfr, hr2⟩ := hz2
  rw [sg_gh hs] at hr2
  have ez := (spanR_det hI.1.1 hr1 hr2)
  have hI2 : LI (gM G) s2 := q_fin hI hse hci hf hfr
  refine w_eqJ C 701 dL_law_514 (by decide) ez ?_
  exact K s2 hI2
set_option maxRecDepth 20000 in
set_option maxHeartbeats 4000000 in
theorem case_late {G : GG} {X : XX} {Q : State → Prop} {L : Nat} {xs : Nat → Int32} (C : CX G X cL_law RL 8 ret 8) (S : SX G X L xs) {σ : Mem} (hI : LI (gM G) σ) (hs : Sy σ) {i : Int} (i1 : 1 ≤ i) (i5 : i + 5 ≤ L) (K : ∀ τ, LI (gM G) τ → RW G X 8 Q 701 (lvL i) [] τ) : RW G X 8 Q 519 (lvL i) [] σ := by
  refine w_aload_n C 1 dL_law_519 rfl ?_
  refine w_callVL C [] [] rfl dL_law_520 (c_X4_late C.gi (xL X)  σ hI.1) oc_0 mw_X4_late ml_L_76 im_X4_late se_X4_late (by decide) (Nat.le_of_ble_eq_true rfl) (fun z s hz => ?_)
  obtain ⟨hr1, hse, hci, hfc⟩ := hz
  have hf : ∀ c : Int, 37 ≤ c → c ≤ 47 → s c = σ c := fun c c1 c2 => hfc c c1 (by omega)
  have hrp := ref_pre hI hs hf
  refine w_gh (sg σ s) (sg_nat σ s) ?_
  refine w_aload_n C 2 dL_law_523 rfl ?_
  refine w_callVL C [] [pL z] rfl dL_law_524 (c_X5_late C.gi (xL X)  (sg σ s) hrp) oc_37 mw_X5_late ml_L_79 im_X5_late se_X5_late (by decide) (Nat.le_of_ble_eq_true rfl) (fun z2 s2 hz2 => ?_)
  obtain ⟨hfr, hr2⟩ := hz2
  rw [sg_gh hs] at hr2
  have ez := (R_late_det hI.1.1 hr1 hr2)
  have hI2 : LI (gM G) s2 := q_fin hI hse hci hf hfr
  refine w_lcmpS C dL_law_527 ez ?_
  refine w_if_eq C 701 dL_law_528 (by decide) ⟨by omega, by omega⟩ (fun _ => ?_) (fun q => absurd rfl q)
  exact K s2 hI2
set_option maxRecDepth 20000 in
set_option maxHeartbeats 4000000 in
theorem case_swapped {G : GG} {X : XX} {Q : State → Prop} {L : Nat} {xs : Nat → Int32} (C : CX G X cL_law RL 8 ret 8) (S : SX G X L xs) {σ : Mem} (hI : LI (gM G) σ) (hs : Sy σ) {i : Int} (i1 : 1 ≤ i) (i5 : i + 5 ≤ L) (K : ∀ τ, LI (gM G) τ → RW G X 8 Q 701 (lvL i) [] τ) : RW G X 8 Q 533 (lvL i) [] σ := by
  refine w_aload_n C 1 dL_law_533 rfl ?_
  refine w_aload_n C 0 dL_law_534 rfl ?_
  refine w_iload C 4 dL_law_535 rfl ?_
  refine w_iconst C dL_law_537 ?_
  refine w_iadd C dL_law_538 ?_
  refine w_sld C S dL_law_539 (by omega) (by omega) ?_
  refine w_aload_n C 0 dL_law_540 rfl ?_
  refine w_iload C 4 dL_law_541 rfl ?_
  refine w_iconst C dL_law_543 ?_
  refine w_iadd C dL_law_544 ?_
  refine w_sld C S dL_law_545 (by omega) (by omega) ?_
  refine w_callVI C [pI (sc xs (i + 1)), pI (sc xs (i + 2))] [] rfl dL_law_546 (c_X4_swapped C.gi (xL X) (sc xs (i + 1)) (sc xs (i + 2)) σ ⟨hI.1, sc_in xs (i + 1), sc_in xs (i + 2)⟩) oc_0 mw_X4_swapped ml_L_80 im_X4_swapped se_X4_swapped (by decide) (Nat.le_of_ble_eq_true rfl) (fun z s hz => ?_)
  obtain ⟨hr1, hse, hci, hfc⟩ := hz
  have hf : ∀ c : Int, 37 ≤ c → c ≤ 47 → s c = σ c := fun c c1 c2 => hfc c c1 (by omega)
  have hrp := ref_pre hI hs hf
  refine w_gh (sg σ s) (sg_nat σ s) ?_
  refine w_aload_n C 2 dL_law_549 rfl ?_
  refine w_aload_n C 0 dL_law_550 rfl ?_
  refine w_iload C 4 dL_law_551 rfl ?_
  refine w_iconst C dL_law_553 ?_
  refine w_iadd C dL_law_554 ?_
  refine w_sld C S dL_law_555 (by omega) (by omega) ?_
  refine w_aload_n C 0 dL_law_556 rfl ?_
  refine w_iload C 4 dL_law_557 rfl ?_
  refine w_iconst C dL_law_559 ?_
  refine w_iadd C dL_law_560 ?_
  refine w_sld C S dL_law_561 (by omega) (by omega) ?_
  refine w_callVI C [pI (sc xs (i + 1)), pI (sc xs (i + 2))] [pI z] rfl dL_law_562 (c_X5_swapped C.gi (xL X) (sc xs (i + 1)) (sc xs (i + 2)) (sg σ s) ⟨hrp, sc_in xs (i + 1), sc_in xs (i + 2)⟩) oc_37 mw_X5_swapped ml_L_83 im_X5_swapped se_X5_swapped (by decide) (Nat.le_of_ble_eq_true rfl) (fun z2 s2 hz2 => ?_)
  obtain ⟨hfr, hr2⟩ := hz2
  rw [sg_gh hs] at hr2
  have ez := (R_swapped_det hI.1.1 hr1 hr2)
  have hI2 : LI (gM G) s2 := q_fin hI hse hci hf hfr
  refine w_eqJ C 701 dL_law_565 (by decide) ez ?_
  exact K s2 hI2
set_option maxRecDepth 20000 in
set_option maxHeartbeats 4000000 in
theorem case_better {G : GG} {X : XX} {Q : State → Prop} {L : Nat} {xs : Nat → Int32} (C : CX G X cL_law RL 8 ret 8) (S : SX G X L xs) {σ : Mem} (hI : LI (gM G) σ) (hs : Sy σ) {i : Int} (i1 : 1 ≤ i) (i5 : i + 5 ≤ L) (K : ∀ τ, LI (gM G) τ → RW G X 8 Q 701 (lvL i) [] τ) : RW G X 8 Q 570 (lvL i) [] σ := by
  refine w_aload_n C 1 dL_law_570 rfl ?_
  refine w_callVI C [] [] rfl dL_law_571 (c_X4_better C.gi (xL X)  σ hI.1) oc_0 mw_X4_better ml_L_84 im_X4_better se_X4_better (by decide) (Nat.le_of_ble_eq_true rfl) (fun z s hz => ?_)
  obtain ⟨hr1, hse, hci, hfc⟩ := hz
  have hf : ∀ c : Int, 37 ≤ c → c ≤ 47 → s c = σ c := fun c c1 c2 => hfc c c1 (by omega)
  have hrp := ref_pre hI hs hf
  refine w_gh (sg σ s) (sg_nat σ s) ?_
  refine w_aload_n C 2 dL_law_574 rfl ?_
  refine w_callVI C [] [pI z] rfl dL_law_575 (c_X5_better C.gi (xL X)  (sg σ s) hrp) oc_37 mw_X5_better ml_L_87 im_X5_better se_X5_better (by decide) (Nat.le_of_ble_eq_true rfl) (fun z2 s2 hz2 => ?_)
  obtain ⟨hfr, hr2⟩ := hz2
  rw [sg_gh hs] at hr2
  have ez := (R_better_det hI.1.1 hr1 hr2)
  have hI2 : LI (gM G) s2 := q_fin hI hse hci hf hfr
  refine w_eqJ C 701 dL_law_578 (by decide) ez ?_
  exact K s2 hI2
set_option maxRecDepth 20000 in
set_option maxHeartbeats 4000000 in
theorem case_part {G : GG} {X : XX} {Q : State → Prop} {L : Nat} {xs : Nat → Int32} (C : CX G X cL_law RL 8 ret 8) (S : SX G X L xs) {σ : Mem} (hI : LI (gM G) σ) (hs : Sy σ) {i : Int} (i1 : 1 ≤ i) (i5 : i + 5 ≤ L) (K : ∀ τ, LI (gM G) τ → RW G X 8 Q 701 (lvL i) [] τ) : RW G X 8 Q 583 (lvL i) [] σ := by
  refine w_aload_n C 1 dL_law_583 rfl ?_
  refine w_aload_n C 0 dL_law_584 rfl ?_
  refine w_iload C 4 dL_law_585 rfl ?_
  refine w_iconst C dL_law_587 ?_
  refine w_iadd C dL_law_588 ?_
  refine w_sld C S dL_law_589 (by omega) (by omega) ?_
  refine w_aload_n C 0 dL_law_590 rfl ?_
  refine w_iload C 4 dL_law_591 rfl ?_
  refine w_iconst C dL_law_593 ?_
  refine w_iadd C dL_law_594 ?_
  refine w_sld C S dL_law_595 (by omega) (by omega) ?_
  refine w_callVI C [pI (sc xs (i + 1)), pI (sc xs (i + 2))] [] rfl dL_law_596 (c_X4_part C.gi (xL X) (sc xs (i + 1)) (sc xs (i + 2)) σ ⟨hI.1.1, sc_in xs (i + 1), sc_in xs (i + 2)⟩) oc_0 mw_X4_part ml_L_88 im_X4_part se_X4_part (by decide) (Nat.le_of_ble_eq_true rfl) (fun z s hz => ?_)
  obtain ⟨hr1, hss⟩ := hz
  subst hss
  have hse := SE.refl s
  have hci := hI.1
  have hfc := FC.refl s
  have hf : ∀ c : Int, 37 ≤ c → c ≤ 47 → s c = s c := fun c c1 c2 => hfc c c1 (by omega)
  have hrp := ref_pre hI hs hf
  refine w_gh (sg s s) (sg_nat s s) ?_
  refine w_aload_n C 2 dL_law_599 rfl ?_
  refine w_aload_n C 0 dL_law_600 rfl ?_
  refine w_iload C 4 dL_law_601 rfl ?_
  refine w_iconst C dL_law_603 ?_
  refine w_iadd C dL_law_604 ?_
  refine w_sld C S dL_law_605 (by omega) (by omega) ?_
  refine w_aload_n C 0 dL_law_606 rfl ?_
  refine w_iload C 4 dL_law_607 rfl ?_
  refine w_iconst C dL_law_609 ?_
  refine w_iadd C dL_law_610 ?_
  refine w_sld C S dL_law_611 (by omega) (by omega) ?_
  refine w_callVI C [pI (sc xs (i + 1)), pI (sc xs (i + 2))] [pI z] rfl dL_law_612 (c_X5_part C.gi (xL X) (sc xs (i + 1)) (sc xs (i + 2)) (sg s s) ⟨hrp, sc_in xs (i + 1), sc_in xs (i + 2)⟩) oc_37 mw_X5_part ml_L_91 im_X5_part se_X5_part (by decide) (Nat.le_of_ble_eq_true rfl) (fun z2 s2 hz2 => ?_)
  obtain ⟨hfr, hr2⟩ := hz2
  rw [sg_gh hs] at hr2
  have ez := (R_part_det hr1 hr2)
  have hI2 : LI (gM G) s2 := q_fin hI hse hci hf hfr
  refine w_eqJ C 701 dL_law_615 (by decide) ez ?_
  exact K s2 hI2
set_option maxRecDepth 20000 in
set_option maxHeartbeats 4000000 in
theorem case_bound {G : GG} {X : XX} {Q : State → Prop} {L : Nat} {xs : Nat → Int32} (C : CX G X cL_law RL 8 ret 8) (S : SX G X L xs) {σ : Mem} (hI : LI (gM G) σ) (hs : Sy σ) {i : Int} (i1 : 1 ≤ i) (i5 : i + 5 ≤ L) (K : ∀ τ, LI (gM G) τ → RW G X 8 Q 701 (lvL i) [] τ) : RW G X 8 Q 620 (lvL i) [] σ := by
  refine w_aload_n C 1 dL_law_620 rfl ?_
  refine w_aload_n C 0 dL_law_621 rfl ?_
  refine w_iload C 4 dL_law_622 rfl ?_
  refine w_iconst C dL_law_624 ?_
  refine w_iadd C dL_law_625 ?_
  refine w_sld C S dL_law_626 (by omega) (by omega) ?_
  refine w_callVI C [pI (sc xs (i + 1))] [] rfl dL_law_627 (c_X4_bound C.gi (xL X) (sc xs (i + 1)) σ ⟨hI.1, sc_in xs (i + 1)⟩) oc_0 mw_X4_bound ml_L_92 im_X4_bound se_X4_bound (by decide) (Nat.le_of_ble_eq_true rfl) (fun z s hz => ?_)
  obtain ⟨hr1, hse, hci, hfc⟩ := hz
  have hf : ∀ c : Int, 37 ≤ c → c ≤ 47 → s c = σ c := fun c c1 c2 => hfc c c1 (by omega)
  have hrp := ref_pre hI hs hf
  refine w_gh (sg σ s) (sg_nat σ s) ?_
  refine w_aload_n C 2 dL_law_630 rfl ?_
  refine w_aload_n C 0 dL_law_631 rfl ?_
  refine w_iload C 4 dL_law_632 rfl ?_
  refine w_iconst C dL_law_634 ?_
  refine w_iadd C dL_law_635 ?_
  refine w_sld C S dL_law_636 (by omega) (by omega) ?_
  refine w_callVI C [pI (sc xs (i + 1))] [pI z] rfl dL_law_637 (c_X5_bound C.gi (xL X) (sc xs (i + 1)) (sg σ s) ⟨hrp, sc_in xs (i + 1)⟩) oc_37 mw_X5_bound ml_L_95 im_X5_bound se_X5_bound (by decide) (Nat.le_of_ble_eq_true rfl) (fun z2 s2 hz2 => ?_)
  obtain ⟨hfr, hr2⟩ := hz2
  rw [sg_gh hs] at hr2
  have ez := (R_bound_det hr1 hr2)
  have hI2 : LI (gM G) s2 := q_fin hI hse hci hf hfr
  refine w_eqJ C 701 dL_law_640 (by decide) ez ?_
  exact K s2 hI2
set_option maxRecDepth 20000 in
set_option maxHeartbeats 4000000 in
theorem case_low {G : GG} {X : XX} {Q : State → Prop} {L : Nat} {xs : Nat → Int32} (C : CX G X cL_law RL 8 ret 8) (S : SX G X L xs) {σ : Mem} (hI : LI (gM G) σ) (hs : Sy σ) {i : Int} (i1 : 1 ≤ i) (i5 : i + 5 ≤ L) (K : ∀ τ, LI (gM G) τ → RW G X 8 Q 701 (lvL i) [] τ) : RW G X 8 Q 645 (lvL i) [] σ := by
  refine w_aload_n C 1 dL_law_645 rfl ?_
  refine w_callVI C [] [] rfl dL_law_646 (c_X4_low C.gi (xL X)  σ hI.1) oc_0 mw_X4_low ml_L_96 im_X4_low se_X4_low (by decide) (Nat.le_of_ble_eq_true rfl) (fun z s hz => ?_)
  obtain ⟨hr1, hse, hci, hfc⟩ := hz
  have hf : ∀ c : Int, 37 ≤ c → c ≤ 47 → s c = σ c := fun c c1 c2 => hfc c c1 (by omega)
  have hrp := ref_pre hI hs hf
  refine w_gh (sg σ s) (sg_nat σ s) ?_
  refine w_aload_n C 2 dL_law_649 rfl ?_
  refine w_callVI C [] [pI z] rfl dL_law_650 (c_X5_low C.gi (xL X)  (sg σ s) hrp) oc_37 mw_X5_low ml_L_99 im_X5_low se_X5_low (by decide) (Nat.le_of_ble_eq_true rfl) (fun z2 s2 hz2 => ?_)
  obtain ⟨hfr, hr2⟩ := hz2
  rw [sg_gh hs] at hr2
  have ez := (LOW_uniq hr1 hr2)
  have hI2 : LI (gM G) s2 := q_fin hI hse hci hf hfr
  refine w_eqJ C 701 dL_law_653 (by decide) ez ?_
  exact K s2 hI2
