/-! ===== calls ===== -/
def zy (k : Nat) : MethodName := (zrow k).1
def zws (k : Nat) : List Cond := Cond.code (zy k) (zcode k) (zmaxL k) (zret k) :: zTs
def zsz (a : Int) : Nat := if (zsh a).1 < 10 then ((zsh a).2).toNat else zNf ((zsh a).1 - 10)
def zsum : Nat → Nat
  | 0 => 0
  | n + 1 => zsum n + zsz ((n : Int) + 3)
def zsl (M : ZM) : Nat := zsum (znx M - 3).toNat
theorem zsum_mono {a b : Nat} (h : a ≤ b) : zsum a ≤ zsum b := by
  induction b with
  | zero => rw [Nat.le_zero.mp h]; exact Nat.le_refl _
  | succ b ih =>
    by_cases q : a = b + 1
    · rw [q]; exact Nat.le_refl _
    · exact Nat.le_trans (ih (by omega)) (Nat.le_add_right _ _)
def zdc (M M' : ZM) : Nat := zix (znx M') - zix (znx M)
def zds (M M' : ZM) : Nat := zsl M' - zsl M
theorem zdc_self {M M' : ZM} (h : znx M' = znx M) : zdc M M' = 0 := by unfold zdc; rw [h]; exact Nat.sub_self _
theorem zds_self {M M' : ZM} (h : znx M' = znx M) : zds M M' = 0 := by unfold zds zsl; rw [h]; exact Nat.sub_self _
def zroom (d : Nat) (M M' : ZM) : Room := { frames := d, cells := zdc M M', slots := zds M M', locals := 46 * d }
def zPc (B : zBs) (D : va_G) (aD : Nat → ClassId) (L : Nat) (xs : Nat → Int32) (av : ZS) (M : ZM) : Array Value → State → Prop := fun v U => v = (av.map (zenc B)).toArray ∧ zU B D aD L xs U ∧ zH B D aD M U.heap ∧ zS L xs M ∧ ∀ x ∈ av, zokV (znx M) x
def zQc (B : zBs) (D : va_G) (aD : Nat → ClassId) (L : Nat) (xs : Nat → Int32) (r : Option ZV) (M' : ZM) : Array Value → State → Outcome → State → Prop := fun _ st o t => o = .returned (r.map (zenc B)) ∧ zH B D aD M' t.heap ∧ zS L xs M' ∧ (∀ v, r = some v → zokV (znx M') v) ∧ va_F (zAq B) st t
def zRet (B : zBs) (k pc : Nat) (r : Option ZV) (ST : List Value) : Prop := match r with
  | none => decode (zcode k) pc = .ok (.return_, 1) ∧ ST = [] ∧ zret k = none
  | some (.inl x) => decode (zcode k) pc = .ok (.ireturn, 1) ∧ ST = [.int (Int32.ofInt x)] ∧ (zret k = some .int ∨ (zret k = some .boolean ∧ 0 ≤ x ∧ x ≤ 1))
  | some (.inr (.inl x)) => decode (zcode k) pc = .ok (.lreturn, 1) ∧ ST = [.long (Int64.ofInt x)] ∧ zret k = some .long
  | some (.inr (.inr a)) => decode (zcode k) pc = .ok (.areturn, 1) ∧ ST = [zrv B a] ∧ 0 ≤ a ∧ ((∃ n, zret k = some (.object n)) ∨ ∃ t, zret k = some (.array t))
def zSnd (l : Launch) (B : zBs) (D : va_G) (aD : Nat → ClassId) (L : Nat) (xs : Nat → Int32) (n : Nat) : Prop :=
  ∀ (d k pc : Nat) (ls : ZL) (st : ZS) (M : ZM) (r : Option ZV) (M' : ZM), zbody n d k pc ls st M = some (r, M') →
    ∀ (p : Program) (e : Env) (R : Room) (s : State) (m : MethodId) (args : Array Value) (below : List Frame) (meth : Method) (c : Code), zCtx B D aD L xs k p s m args meth c → d ≤ R.frames → 46 * d ≤ R.locals →
    ∀ (H : Heap) (locs : List Loc) (LS : Array Slot) (cells slots : Nat) (Q : State → Prop), zSt B D aD L xs k s H locs ls LS st M → cells + zdc M M' ≤ R.cells → slots + zds M M' ≤ R.slots →
      (∀ (H1 : Heap) (locs1 : List Loc) (LS1 : Array Slot) (pc1 : Nat) (ST : List Value), zH B D aD M' H1 → zS L xs M' → va_S (zAq B) s.heap H1 locs1 → (∀ v, r = some v → zokV (znx M') v) → zRet B k pc1 r ST → W p l e R s m args below meth c H1 locs1 (cells + zdc M M') (slots + zds M M') Q (F0 m pc1 LS1 ST)) →
      W p l e R s m args below meth c H locs cells slots Q (F0 m pc LS (st.map (zenc B)))
theorem zNs_on : ∀ w ∈ zNs, w.onTables = true := by
  intro w hw
  have h : zNs.all (fun w => w.onTables) = true := by decide +kernel
  exact List.all_eq_true.mp h w hw
theorem zNs_warm {s U : State} (hW : s.WarmedH U.vm) : ∀ w ∈ zNs, va_Nw w s → va_Nw w U := by
  intro w hw h
  simp only [zNs, List.mem_cons, List.not_mem_nil, or_false] at hw
  rcases hw with rfl | rfl | rfl | rfl | rfl | rfl | rfl | rfl | rfl | rfl | rfl <;> first | exact va_Nw.warmM hW h | exact va_Nw.warmF hW h
theorem zU.moved {B : zBs} {D : va_G} {aD : Nat → ClassId} {L : Nat} {xs : Nat → Int32} {u U : State} (h : zU B D aD L xs u) (hvm : u.vm.Alike U.vm) (hN : ∀ w ∈ zNs, va_Nw w u → va_Nw w U) (hR : ∀ k tx a, vk_R "SkippingKeysLaw" k tx a u → vk_R "SkippingKeysLaw" k tx a U) (hs : u.heap.size ≤ U.heap.size) (hk : ∀ q : Nat, q < u.heap.size → ¬ zAq B q → U.heap[q]? = u.heap[q]?) : zU B D aD L xs U := by
  obtain ⟨h1, h2, h3, h4, h5, h6, h7, h8, h9, h10, h11, h12⟩ := h
  refine ⟨va_K.moved hvm h1, (h2.moved hvm).kept (hk _ (by omega) (show ¬ B.2.2.2 ≤ B.1 by omega)), h3, h4, by omega, (h6.moved hvm).kept hk, (h7.moved hvm).kept hk, (h8.moved hvm).kept hk, (h9.moved hvm).kept hk, fun w hw => hN w hw (h10 w hw), h11.moved hvm, h12.moved hvm hR hk⟩
/-- the rows of the method tables, read -/
theorem zmf {k : Nat} (hg : zgh (zrow k) = false) (h : zkind k ≤ 2) : Cond.code (zy k) (zcode k) (zmaxL k) (zret k) ∈ zTs ∧ (zkind k = 0 → Cond.static (zy k) ∈ zTs) ∧ (zkind k ≠ 0 → Cond.instanceMethod (zy k) ∈ zTs) ∧ Cond.initialized (zy k).cls ∈ zTs ∧ (zkind k = 1 → Cond.selects (zy k).cls (zy k) (zy k) ∈ zTs) ∧ (zkind k = 2 → (zy k).name = "<init>") ∧
    ((zy k).cls ≠ "java/lang/invoke/MethodHandle" ∧ (zy k).cls ≠ "java/lang/invoke/VarHandle" ∧ (parseMethodDescriptor (zy k).desc).map (fun d => d.parameters.length) = some (znp k)) ∧ plainName (zy k).cls = true ∧ zmaxL k ≤ 27 ∧ (zy k).cls = zcn (zcl k) ∧ zcl k ≤ 12 ∧ (zkind k = 2 → zret k = none) := by
  obtain ⟨h1, h2⟩ := (zm_ok k).resolve_left (fun e => by rw [e] at hg; cases hg)
  have h2 : (zpart (zrow k).2.2.2.2.2.2.2.1.1)[(zrow k).2.2.2.2.2.2.2.1.2]? = some (.code (zy k) (zcode k) (zmaxL k) (zret k)) := h2.resolve_left (by unfold zkind at h; omega)
  unfold zmOk at h1
  rw [Bool.or_eq_true] at h1
  rcases h1 with h1 | h1
  · have := Nat.le_of_ble_eq_true h1
    unfold zkind at h
    omega
  · simp only [Bool.and_eq_true] at h1
    obtain ⟨⟨⟨⟨⟨⟨⟨⟨⟨h3, h4⟩, h5⟩, h6⟩, h7⟩, h8⟩, h9⟩, h10⟩, h11⟩, h12⟩ := h1
    refine ⟨List.mem_filter.mpr ⟨zpart_in (List.mem_of_getElem? h2), rfl⟩, fun q => ?_, fun q => ?_, zhas_in h4, fun q => ?_, fun q => ?_, of_decide_eq_true h7, h8, Nat.le_of_ble_eq_true h9, of_decide_eq_true h10, Nat.le_of_ble_eq_true h11, fun q => ?_⟩
    · have e : Nat.beq (zrow k).2.2.2.2.1 0 = true := by rw [show (zrow k).2.2.2.2.1 = 0 from q]; rfl
      rw [e] at h3
      exact zhas_in h3
    · have e : Nat.beq (zrow k).2.2.2.2.1 0 = false := by
        cases z : (zrow k).2.2.2.2.1 with
        | zero => exact absurd z q
        | succ n => rfl
      rw [e] at h3
      exact zhas_in h3
    · have e : Nat.beq (zrow k).2.2.2.2.1 1 = true := by rw [show (zrow k).2.2.2.2.1 = 1 from q]; rfl
      rw [e] at h5
      simp only [Bool.not_true, Bool.false_or] at h5
      exact zhas_in h5
    · have e : Nat.beq (zrow k).2.2.2.2.1 2 = true := by rw [show (zrow k).2.2.2.2.1 = 2 from q]; rfl
      rw [e] at h6
      simp only [Bool.not_true, Bool.false_or] at h6
      exact of_decide_eq_true h6
    · have e : Nat.beq (zrow k).2.2.2.2.1 2 = true := by rw [show (zrow k).2.2.2.2.1 = 2 from q]; rfl
      rw [e] at h12
      simp only [Bool.not_true, Bool.false_or] at h12
      exact of_decide_eq_true h12
theorem zslots_at {B : zBs} : ∀ (av : ZS) (i : Nat) (v : ZV), (zslots av)[i]? = some (some v) → (lg_sl (av.map (zenc B)))[i]? = some (.val (zenc B v)) ∧ v ∈ av
  | [], i, v, h => by simp [zslots] at h
  | .inr (.inl x) :: r, i, v, h => by
    have e : lg_sl ((((.inr (.inl x) : ZV) :: r).map (zenc B))) = .val (.long (Int64.ofInt x)) :: .second :: lg_sl (r.map (zenc B)) := rfl
    rw [e]
    unfold zslots at h
    match i, h with
    | 0, h => cases h; exact ⟨rfl, List.mem_cons_self⟩
    | 1, h => cases h
    | i + 2, h =>
      have h2 := zslots_at (B := B) r i v h
      exact ⟨h2.1, List.mem_cons_of_mem _ h2.2⟩
  | .inl x :: r, i, v, h => by
    have e : lg_sl ((((.inl x : ZV) :: r).map (zenc B))) = .val (.int (Int32.ofInt x)) :: lg_sl (r.map (zenc B)) := rfl
    rw [e]
    unfold zslots at h
    match i, h with
    | 0, h => cases h; exact ⟨rfl, List.mem_cons_self⟩
    | i + 1, h =>
      have h2 := zslots_at (B := B) r i v h
      exact ⟨h2.1, List.mem_cons_of_mem _ h2.2⟩
  | .inr (.inr x) :: r, i, v, h => by
    have e : lg_sl ((((.inr (.inr x) : ZV) :: r).map (zenc B))) = .val (zrv B x) :: lg_sl (r.map (zenc B)) := by
      show lg_sl (zrv B x :: r.map (zenc B)) = _
      have : (zrv B x).category ≠ 2 := fun q => by have := (z2_cat (B := B) (.inr (.inr x))).mp q; cases this
      simp only [lg_sl, List.flatMap_cons, if_neg this, List.singleton_append]
    rw [e]
    unfold zslots at h
    match i, h with
    | 0, h => cases h; exact ⟨rfl, List.mem_cons_self⟩
    | i + 1, h =>
      have h2 := zslots_at (B := B) r i v h
      exact ⟨h2.1, List.mem_cons_of_mem _ h2.2⟩
theorem zslots_len {B : zBs} : ∀ (av : ZS), (lg_sl (av.map (zenc B))).length = (zslots av).length
  | [] => rfl
  | .inr (.inl x) :: r => by
    have e : lg_sl ((((.inr (.inl x) : ZV) :: r).map (zenc B))) = .val (.long (Int64.ofInt x)) :: .second :: lg_sl (r.map (zenc B)) := rfl
    rw [e]
    simp only [zslots, List.length_cons, zslots_len r]
  | .inl x :: r => by
    have e : lg_sl ((((.inl x : ZV) :: r).map (zenc B))) = .val (.int (Int32.ofInt x)) :: lg_sl (r.map (zenc B)) := rfl
    rw [e]
    simp only [zslots, List.length_cons, zslots_len r]
  | .inr (.inr x) :: r => by
    have e : lg_sl ((((.inr (.inr x) : ZV) :: r).map (zenc B))) = .val (zrv B x) :: lg_sl (r.map (zenc B)) := by
      show lg_sl (zrv B x :: r.map (zenc B)) = _
      have : (zrv B x).category ≠ 2 := fun q => by have := (z2_cat (B := B) (.inr (.inr x))).mp q; cases this
      simp only [lg_sl, List.flatMap_cons, if_neg this, List.singleton_append]
    rw [e]
    simp only [zslots, List.length_cons, zslots_len r]
theorem zentry_lr {B : zBs} {n : Int} {t : Nat} {av : ZS} (hl : (zslots av).length ≤ zmaxL t) (hv : ∀ x ∈ av, zokV n x) : zlr B n (zmaxL t) (zentry t av) ((lg_sl (av.map (zenc B)) ++ List.replicate (zmaxL t - (lg_sl (av.map (zenc B))).length) Slot.unset).toArray) := by
  have g := lv_entry (av.map (zenc B)) (n := zmaxL t) (by rw [zslots_len]; exact hl)
  refine ⟨by unfold zentry; simp; omega, g.1, g.2.1, fun i v h => ?_⟩
  have h1 := zget_some h
  unfold zentry at h1
  by_cases q : i < (zslots av).length
  · rw [List.getElem?_append_left q] at h1
    obtain ⟨h2, h3⟩ := zslots_at (B := B) av i v h1
    refine ⟨?_, hv v h3⟩
    rw [List.getElem?_toArray, List.getElem?_append_left (by rw [zslots_len]; exact q)]
    exact h2
  · rw [List.getElem?_append_right (by omega)] at h1
    have h2 := List.mem_of_getElem? h1
    have h3 := List.eq_of_mem_replicate h2
    cases h3
theorem zmet {l : Launch} {B : zBs} {D : va_G} {aD : Nat → ClassId} {L : Nat} {xs : Nat → Int32} {n : Nat} (hS : zSnd l B D aD L xs n) {d t : Nat} {av : ZS} {M M' : ZM} {r : Option ZV} (hrun : zbody n d t 0 (zentry t av) [] M = some (r, M')) (hgt : zgh (zrow t) = false) (hk : zkind t ≤ 2) (hlen : (zslots av).length ≤ zmaxL t) :
    Met l (zy t) (zws t) (zroom d M M') (zPc B D aD L xs av M) (zQc B D aD L xs r M') (zdc M M') (zds M M') (zAq B) := by
  obtain ⟨f1, f2, f3, f4, f5, f6, f7, f8, f9, f10, f11, f12⟩ := zmf hgt hk
  refine Met.ofW (cc := zcode t) (maxL := zmaxL t) (ret := zret t) f8 rfl ?_
  intro p e s m args below meth c s₁ Bd hml hv
  obtain ⟨rfl, hU, hH, hSS, hav⟩ := hv
  have hts0 := atoms_spec (ws := zws t) Bd.pre
  have hts : ∀ w ∈ zTs, w.before ((av.map (zenc B)).toArray) s = true := fun w hw => hts0 w (List.mem_cons_of_mem _ hw)
  have hown : s.vm.findClass (zcn (zcl t)) = some m.cls := by rw [← f10]; exact findClass_of_methodNamed Bd.named
  have hlocks := Bd.notSynchronized
  have hr := Bd.returns
  have hx := Bd.exec
  have hb := Bd.bytes
  have hin : zkind t = 2 → meth.name = "<init>" := fun q => by rw [(name_of_methodNamed Bd.named Bd.method).1, f6 q]
  rw [lg_entry_eq]
  refine hS d t 0 (zentry t av) [] M r M' hrun p e _ s m _ below meth c ⟨hx, hb, hml, hown, hts, ⟨hin, hgt⟩, hU⟩ (Nat.le_refl _) (Nat.le_refl _) s.heap [] _ 0 0 _ ⟨hH, hSS, va_S.rf, zentry_lr hlen hav, fun v hv => by cases hv⟩ (by rw [Nat.zero_add]; exact Nat.le_refl _) (by rw [Nat.zero_add]; exact Nat.le_refl _) ?_
  intro H1 locs1 LS1 pc1 ST hH1 hS1 hF hr1 hR
  rw [Nat.zero_add, Nat.zero_add]
  match r, hR, hr1 with
  | none, hR, hr1 =>
    obtain ⟨q1, rfl, q3⟩ := hR
    exact W.vret hx hb (hr.trans q3) (fun t ht hW => ⟨rfl, by rw [ht]; exact hH1, hS1, hr1, hF.F ht⟩) hF.2.2 q1
  | some (.inl x), hR, hr1 =>
    obtain ⟨q1, rfl, q3⟩ := hR
    rcases q3 with q3 | ⟨q3, q4⟩
    · exact W.iret hx hb (hr.trans q3) (fun t ht hW => ⟨rfl, by rw [ht]; exact hH1, hS1, hr1, hF.F ht⟩) hF.2.2 q1
    · exact W.zret hx hb (hr.trans q3) (znar_z q4) (fun t ht hW => ⟨rfl, by rw [ht]; exact hH1, hS1, hr1, hF.F ht⟩) hF.2.2 q1
  | some (.inr (.inl x)), hR, hr1 =>
    obtain ⟨q1, rfl, q3⟩ := hR
    exact W.lret hx hb (hr.trans q3) (fun t ht hW => ⟨rfl, by rw [ht]; exact hH1, hS1, hr1, hF.F ht⟩) hF.2.2 q1
  | some (.inr (.inr a)), hR, hr1 =>
    obtain ⟨q1, rfl, q3, q4⟩ := hR
    have hv : zrv B a = .null ∨ ∃ b, zrv B a = .ref b := Or.inr ⟨_, zrv_ref q3⟩
    rcases q4 with ⟨n, q4⟩ | ⟨ty, q4⟩
    · exact W.aret hx hb (hr.trans q4) (Or.inl ⟨_, rfl⟩) hv (fun t ht hW => ⟨rfl, by rw [ht]; exact hH1, hS1, hr1, hF.F ht⟩) hF.2.2 q1
    · exact W.aret hx hb (hr.trans q4) (Or.inr ⟨_, rfl⟩) hv (fun t ht hW => ⟨rfl, by rw [ht]; exact hH1, hS1, hr1, hF.F ht⟩) hF.2.2 q1
theorem zPc_blind {B : zBs} {D : va_G} {aD : Nat → ClassId} {L : Nat} {xs : Nat → Int32} {av : ZS} {M : ZM} : FrameBlind (zPc B D aD L xs av M) := by
  intro a U g mk h
  obtain ⟨h1, h2, h3⟩ := h
  exact ⟨h1, h2.moved (u := U) (U := U.calling g mk a) (Vm.Alike.refl U.vm) (fun w hw h => va_Nw.same (u := U) (U := U.calling g mk a) (zNs_on w hw) rfl h) (fun _ _ _ h => vk_R.same (u := U) (U := U.calling g mk a) rfl h) (Nat.le_refl _) (fun _ _ _ => rfl), h3⟩
theorem zready_at {kind t : Nat} {st args r : ZS} (h : zready kind t st = some (args, r)) : zkind t = kind ∧ kind ≤ 2 ∧ zcat r ≤ 8 ∧ (zslots args).length ≤ zmaxL t ∧ st = args.reverse ++ r ∧ args.length = znp t + (if kind = 0 then 0 else 1) ∧ (kind = 1 → ∃ a rest, args = .inr (.inr a) :: rest ∧ zsh a = (10 + zcl t, 0) ∧ zcl t < 10) ∧ (kind = 2 → ∃ a rest, args = .inr (.inr a) :: rest ∧ 0 ≤ a) := by
  unfold zready at h
  by_cases hk : zkind t = kind ∧ kind ≤ 2
  · rw [if_pos hk] at h
    dsimp only at h
    by_cases hc : znp t + (if kind = 0 then 0 else 1) ≤ st.length ∧ zcat (st.drop (znp t + (if kind = 0 then 0 else 1))) ≤ 8 ∧ (zslots (st.take (znp t + (if kind = 0 then 0 else 1))).reverse).length ≤ zmaxL t
    · rw [if_pos hc] at h
      obtain ⟨c1, c2, c3⟩ := hc
      obtain ⟨hk1, hk2⟩ := hk
      have key : ∀ args r : ZS, (st.take (znp t + (if kind = 0 then 0 else 1))).reverse = args → st.drop (znp t + (if kind = 0 then 0 else 1)) = r → zcat r ≤ 8 ∧ (zslots args).length ≤ zmaxL t ∧ st = args.reverse ++ r ∧ args.length = znp t + (if kind = 0 then 0 else 1) := by
        intro args r e1 e2
        subst e1
        subst e2
        refine ⟨c2, c3, ?_, ?_⟩
        · rw [List.reverse_reverse, List.take_append_drop]
        · rw [List.length_reverse, List.length_take]
          omega
      have h3 : kind = 0 ∨ kind = 1 ∨ kind = 2 := by omega
      rcases h3 with rfl | rfl | rfl
      · cases h
        obtain ⟨g1, g2, g3, g4⟩ := key _ _ rfl rfl
        exact ⟨hk1, hk2, g1, g2, g3, g4, fun q => absurd q (by decide), fun q => absurd q (by decide)⟩
      · generalize e : (st.take (znp t + (if 1 = 0 then 0 else 1))).reverse = ta at h key
        match ta, h with
        | .inr (.inr a) :: av, h =>
          have h : (if zsh a = (10 + zcl t, 0) ∧ zcl t < 10 then some (.inr (.inr a) :: av, st.drop (znp t + (if 1 = 0 then 0 else 1))) else none) = some (args, r) := h
          split at h
          · next hs =>
            cases h
            obtain ⟨g1, g2, g3, g4⟩ := key _ _ rfl rfl
            exact ⟨hk1, hk2, g1, g2, g3, g4, fun _ => ⟨a, av, rfl, hs⟩, fun q => absurd q (by decide)⟩
          · cases h
        | .inr (.inl a) :: av, h => cases h
        | .inl a :: av, h => cases h
        | [], h => cases h
      · generalize e : (st.take (znp t + (if 2 = 0 then 0 else 1))).reverse = ta at h key
        match ta, h with
        | .inr (.inr a) :: av, h =>
          have h : (if 0 ≤ a then some (.inr (.inr a) :: av, st.drop (znp t + (if 2 = 0 then 0 else 1))) else none) = some (args, r) := h
          split at h
          · next hs =>
            cases h
            obtain ⟨g1, g2, g3, g4⟩ := key _ _ rfl rfl
            exact ⟨hk1, hk2, g1, g2, g3, g4, fun q => absurd q (by decide), fun _ => ⟨a, av, rfl, hs⟩⟩
          · cases h
        | .inr (.inl a) :: av, h => cases h
        | .inl a :: av, h => cases h
        | [], h => cases h
    · rw [if_neg hc] at h
      cases h
  · rw [if_neg hk] at h
    cases h
