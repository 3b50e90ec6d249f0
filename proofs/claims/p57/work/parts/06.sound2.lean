/-! ===== one step of the small machine is one of the large one: what changes no cell ===== -/
def zCtx (B : zBs) (D : va_G) (aD : Nat → ClassId) (L : Nat) (xs : Nat → Int32) (k : Nat) (p : Program) (s : State) (m : MethodId) (args : Array Value) (meth : Method) (c : Code) : Prop :=
  p.tables.exec = Jvm.exec ∧ c.code = zcode k ∧ c.maxLocals = zmaxL k ∧ s.vm.findClass (zcn (zcl k)) = some m.cls ∧ (∀ w ∈ zTs, w.before args s = true) ∧ ((zkind k = 2 → meth.name = "<init>") ∧ zgh (zrow k) = false) ∧ zU B D aD L xs s
def zSt (B : zBs) (D : va_G) (aD : Nat → ClassId) (L : Nat) (xs : Nat → Int32) (k : Nat) (s : State) (H : Heap) (locs : List Loc) (ls : ZL) (LS : Array Slot) (st : ZS) (M : ZM) : Prop :=
  zH B D aD M H ∧ zS L xs M ∧ va_S (zAq B) s.heap H locs ∧ zlr B (znx M) (zmaxL k) ls LS ∧ ∀ v ∈ st, zokV (znx M) v
theorem zSt.to {B : zBs} {D : va_G} {aD : Nat → ClassId} {L : Nat} {xs : Nat → Int32} {k : Nat} {s : State} {H : Heap} {locs : List Loc} {ls : ZL} {LS : Array Slot} {st st' : ZS} {M : ZM} (S : zSt B D aD L xs k s H locs ls LS st M) (h : ∀ v ∈ st', zokV (znx M) v) : zSt B D aD L xs k s H locs ls LS st' M :=
  ⟨S.1, S.2.1, S.2.2.1, S.2.2.2.1, h⟩
theorem zget_some {ls : ZL} {i : Nat} {v : ZV} (h : zget ls i = some v) : ls[i]? = some (some v) := by
  unfold zget at h
  split at h
  · next w e => cases h; exact e
  · cases h
theorem zget_lt {ls : ZL} {i : Nat} {v : ZV} (h : zget ls i = some v) : i < ls.length := (List.getElem?_eq_some_iff.mp (zget_some h)).1
def zll (B : zBs) (ls : ZL) : List (Nat × Value) := (List.range ls.length).filterMap (fun i => (zget ls i).map (fun v => (i, zenc B v)))
theorem zll_mem {B : zBs} {ls : ZL} {q : Nat × Value} : q ∈ zll B ls ↔ ∃ v, zget ls q.1 = some v ∧ q.2 = zenc B v := by
  unfold zll
  rw [List.mem_filterMap]
  constructor
  · rintro ⟨i, -, h⟩
    cases hz : zget ls i with
    | none => rw [hz] at h; cases h
    | some v => rw [hz] at h; cases h; exact ⟨v, hz, rfl⟩
  · rintro ⟨v, h1, h2⟩
    refine ⟨q.1, List.mem_range.mpr (zget_lt h1), ?_⟩
    rw [h1]
    show some (q.1, zenc B v) = some q
    rw [← h2]
theorem zlr.has {B : zBs} {n : Int} {N : Nat} {ls : ZL} {LS : Array Slot} (h : zlr B n N ls LS) : lv_has LS N (zll B ls) := by
  refine ⟨h.2.1, h.2.2.1, fun q hq => ?_⟩
  obtain ⟨v, h1, h2⟩ := zll_mem.mp hq
  rw [h2]
  exact (h.2.2.2 q.1 v h1).1
theorem zget_set {ls : ZL} {i j : Nat} {x : Option ZV} {v : ZV} (h : zget (ls.set i x) j = some v) : (j = i ∧ x = some v) ∨ (j ≠ i ∧ zget ls j = some v) := by
  have h1 := zget_some h
  by_cases e : j = i
  · subst e
    have hl : j < (ls.set j x).length := zget_lt h
    rw [List.getElem?_set_self (by simpa using hl)] at h1
    exact Or.inl ⟨rfl, Option.some.inj h1⟩
  · rw [List.getElem?_set_ne (fun q => e q.symm)] at h1
    refine Or.inr ⟨e, ?_⟩
    unfold zget
    rw [h1]
theorem zget_clr {ls : ZL} {i j : Nat} {v : ZV} (h : zget (zclr ls i) j = some v) : zget ls j = some v ∧ ¬ (j + 1 = i ∧ z2 v = true) := by
  unfold zclr at h
  split at h
  · exact ⟨h, fun q => by omega⟩
  · next i2 =>
    split at h
    · next x e =>
      rcases zget_set h with ⟨h1, h2⟩ | ⟨h1, h2⟩
      · cases h2
      · exact ⟨h2, fun q => h1 (by omega)⟩
    · next hn =>
      refine ⟨h, fun q => ?_⟩
      have ej : j = i2 := by omega
      subst ej
      obtain ⟨-, q2⟩ := q
      match v, h, q2 with
      | .inr (.inl x), h, _ => exact hn x h
      | .inl x, _, q2 => cases q2
      | .inr (.inr x), _, q2 => cases q2
theorem zclr_len (ls : ZL) (i : Nat) : (zclr ls i).length = ls.length := by
  unfold zclr
  split
  · rfl
  · split
    · simp
    · rfl
theorem zput_len (ls : ZL) (i : Nat) (v : ZV) : (zput ls i v).length = ls.length := by
  unfold zput
  split <;> simp [zclr_len]
theorem z2_cat {B : zBs} (v : ZV) : (zenc B v).category = 2 ↔ z2 v = true := by
  match v with
  | .inl x => simp [zenc, Value.category, z2]
  | .inr (.inl x) => simp [zenc, Value.category, z2]
  | .inr (.inr x) =>
    simp only [zenc, zrv, z2]
    split
    · split
      · simp [Value.category]
      · split <;> simp [Value.category]
    · simp [Value.category]
/-- storing a value of one slot -/
theorem zlr.put1 {B : zBs} {n : Int} {N : Nat} {ls : ZL} {LS LS' : Array Slot} {i : Nat} {v : ZV} (h : zlr B n N ls LS) (hv : zokV n v) (h2 : z2 v = false)
    (g : lv_has LS' N ((i, zenc B v) :: (zll B ls).filter (fun q => !(q.1 == i) && !(q.1 + 1 == i && q.2.category == 2)))) : zlr B n N (zput ls i v) LS' := by
  have e : zput ls i v = (zclr ls i).set i (some v) := by
    match v, h2 with
    | .inl x, _ => rfl
    | .inr (.inr x), _ => rfl
  refine ⟨(zput_len ls i v).trans h.1, g.1, g.2.1, fun j w hw => ?_⟩
  rw [e] at hw
  rcases zget_set hw with ⟨h3, h4⟩ | ⟨h3, h4⟩
  · cases h4
    subst h3
    exact ⟨g.2.2 (j, zenc B v) List.mem_cons_self, hv⟩
  · obtain ⟨h5, h6⟩ := zget_clr h4
    refine ⟨g.2.2 (j, zenc B w) (List.mem_cons_of_mem _ (List.mem_filter.mpr ⟨zll_mem.mpr ⟨w, h5, rfl⟩, ?_⟩)), (h.2.2.2 j w h5).2⟩
    simp only [Bool.and_eq_true, Bool.not_eq_true', beq_eq_false_iff_ne, ne_eq, Bool.and_eq_false_iff]
    refine ⟨h3, ?_⟩
    by_cases q : j + 1 = i
    · right
      intro q2
      exact h6 ⟨q, z2_cat w |>.mp q2⟩
    · exact Or.inl q
theorem zlr.put2 {B : zBs} {n : Int} {N : Nat} {ls : ZL} {LS LS' : Array Slot} {i : Nat} {x : Int} (h : zlr B n N ls LS) (hv : zi64 x)
    (g : lv_has LS' N ((i, Value.long (Int64.ofInt x)) :: (zll B ls).filter (fun q => !(q.1 == i) && (!(q.1 == i + 1) && !(q.1 + 1 == i && q.2.category == 2))))) : zlr B n N (zput ls i (zJ x)) LS' := by
  have e : zput ls i (zJ x) = ((zclr ls i).set i (some (zJ x))).set (i + 1) none := rfl
  refine ⟨(zput_len ls i _).trans h.1, g.1, g.2.1, fun j w hw => ?_⟩
  rw [e] at hw
  rcases zget_set hw with ⟨-, h4⟩ | ⟨h0, hw⟩
  · cases h4
  rcases zget_set hw with ⟨h3, h4⟩ | ⟨h3, h4⟩
  · cases h4
    subst h3
    exact ⟨g.2.2 (j, zenc B (zJ x)) List.mem_cons_self, hv⟩
  · obtain ⟨h5, h6⟩ := zget_clr h4
    refine ⟨g.2.2 (j, zenc B w) (List.mem_cons_of_mem _ (List.mem_filter.mpr ⟨zll_mem.mpr ⟨w, h5, rfl⟩, ?_⟩)), (h.2.2.2 j w h5).2⟩
    simp only [Bool.and_eq_true, Bool.not_eq_true', beq_eq_false_iff_ne, ne_eq, Bool.and_eq_false_iff]
    refine ⟨h3, h0, ?_⟩
    by_cases q : j + 1 = i
    · right
      intro q2
      exact h6 ⟨q, z2_cat w |>.mp q2⟩
    · exact Or.inl q
theorem zsome {α β γ δ : Type} {a a' : α} {b b' : β} {c c' : γ} {d d' : δ} (h : some (a, b, c, d) = some (a', b', c', d')) : a = a' ∧ b = b' ∧ c = c' ∧ d = d' := by
  cases h
  exact ⟨rfl, rfl, rfl, rfl⟩
section ZSTEP
variable {p : Program} {l : Launch} {e : Env} {R : Room} {s : State} {m : MethodId} {args : Array Value} {below : List Frame} {meth : Method} {c : Code} {H : Heap} {locs : List Loc} {cells slots : Nat} {Q : State → Prop}
variable {B : zBs} {D : va_G} {aD : Nat → ClassId} {L : Nat} {xs : Nat → Int32} {k : Nat} {pc pc' : Nat} {ls ls' : ZL} {st st' : ZS} {M M' : ZM} {LS : Array Slot}
theorem zs_kon (S : zSt B D aD L xs k s H locs ls LS st M) {v : ZV} {n : Nat} (hv : zokV (znx M) v) (h : some (pc + n, ls, v :: st, M) = some (pc', ls', st', M'))
    (row : W p l e R s m args below meth c H locs cells slots Q (F0 m (pc + n) LS (zenc B v :: st.map (zenc B))) → W p l e R s m args below meth c H locs cells slots Q (F0 m pc LS (st.map (zenc B))))
    (kk : ∀ LS', zSt B D aD L xs k s H locs ls' LS' st' M' → M' = M → W p l e R s m args below meth c H locs cells slots Q (F0 m pc' LS' (st'.map (zenc B)))) : W p l e R s m args below meth c H locs cells slots Q (F0 m pc LS (st.map (zenc B))) := by
  obtain ⟨rfl, rfl, rfl, rfl⟩ := zsome h
  exact row (kk LS (S.to fun w hw => (List.mem_cons.mp hw).elim (fun e => e ▸ hv) (S.2.2.2.2 w)) rfl)
theorem zs_bin (S : zSt B D aD L xs k s H locs ls LS st M) {f : Int → Int → Int} {g : Int32 → Int32 → Int32} (hfg : ∀ x y : Int, zi32 x → zi32 y → Int32.ofInt (f x y) = g (Int32.ofInt x) (Int32.ofInt y) ∧ zi32 (f x y)) (h : zbin f (pc + 1) ls st M = some (pc', ls', st', M'))
    (row : ∀ (x y : Int32) (rest : List Value), W p l e R s m args below meth c H locs cells slots Q (F0 m (pc + 1) LS (.int (g x y) :: rest)) → W p l e R s m args below meth c H locs cells slots Q (F0 m pc LS (.int y :: .int x :: rest)))
    (kk : ∀ LS', zSt B D aD L xs k s H locs ls' LS' st' M' → M' = M → W p l e R s m args below meth c H locs cells slots Q (F0 m pc' LS' (st'.map (zenc B)))) : W p l e R s m args below meth c H locs cells slots Q (F0 m pc LS (st.map (zenc B))) := by
  unfold zbin at h
  split at h
  · next y x r =>
    obtain ⟨rfl, rfl, rfl, rfl⟩ := zsome h
    have hx : zi32 x := S.2.2.2.2 (.inl x) (List.mem_cons_of_mem _ List.mem_cons_self)
    have hy : zi32 y := S.2.2.2.2 (.inl y) List.mem_cons_self
    obtain ⟨e1, e2⟩ := hfg x y hx hy
    refine row (Int32.ofInt x) (Int32.ofInt y) (r.map (zenc B)) ?_
    rw [← e1]
    exact kk LS (S.to fun w hw => (List.mem_cons.mp hw).elim (fun e => e ▸ e2) (fun h => S.2.2.2.2 w (List.mem_cons_of_mem _ (List.mem_cons_of_mem _ h)))) rfl
  · cases h
theorem zs_un (S : zSt B D aD L xs k s H locs ls LS st M) {v w : ZV} {r : ZS} (hst : st = v :: r) (hw : zokV (znx M) v → zokV (znx M) w) {n : Nat} (h : some (pc + n, ls, w :: r, M) = some (pc', ls', st', M'))
    (row : zokV (znx M) v → W p l e R s m args below meth c H locs cells slots Q (F0 m (pc + n) LS (zenc B w :: r.map (zenc B))) → W p l e R s m args below meth c H locs cells slots Q (F0 m pc LS (zenc B v :: r.map (zenc B))))
    (kk : ∀ LS', zSt B D aD L xs k s H locs ls' LS' st' M' → M' = M → W p l e R s m args below meth c H locs cells slots Q (F0 m pc' LS' (st'.map (zenc B)))) : W p l e R s m args below meth c H locs cells slots Q (F0 m pc LS (st.map (zenc B))) := by
  subst hst
  obtain ⟨rfl, rfl, rfl, rfl⟩ := zsome h
  have hv : zokV (znx M) v := S.2.2.2.2 v List.mem_cons_self
  exact row hv (kk LS (S.to fun u hu => (List.mem_cons.mp hu).elim (fun e => e ▸ hw hv) (fun h => S.2.2.2.2 u (List.mem_cons_of_mem _ h))) rfl)
theorem zs_bi (S : zSt B D aD L xs k s H locs ls LS st M) {v1 v2 w : ZV} {r : ZS} (hst : st = v1 :: v2 :: r) (hw : zokV (znx M) v1 → zokV (znx M) v2 → zokV (znx M) w) {n : Nat} (h : some (pc + n, ls, w :: r, M) = some (pc', ls', st', M'))
    (row : zokV (znx M) v1 → zokV (znx M) v2 → W p l e R s m args below meth c H locs cells slots Q (F0 m (pc + n) LS (zenc B w :: r.map (zenc B))) → W p l e R s m args below meth c H locs cells slots Q (F0 m pc LS (zenc B v1 :: zenc B v2 :: r.map (zenc B))))
    (kk : ∀ LS', zSt B D aD L xs k s H locs ls' LS' st' M' → M' = M → W p l e R s m args below meth c H locs cells slots Q (F0 m pc' LS' (st'.map (zenc B)))) : W p l e R s m args below meth c H locs cells slots Q (F0 m pc LS (st.map (zenc B))) := by
  subst hst
  obtain ⟨rfl, rfl, rfl, rfl⟩ := zsome h
  have hv1 : zokV (znx M) v1 := S.2.2.2.2 v1 List.mem_cons_self
  have hv2 : zokV (znx M) v2 := S.2.2.2.2 v2 (List.mem_cons_of_mem _ List.mem_cons_self)
  exact row hv1 hv2 (kk LS (S.to fun u hu => (List.mem_cons.mp hu).elim (fun e => e ▸ hw hv1 hv2) (fun h => S.2.2.2.2 u (List.mem_cons_of_mem _ (List.mem_cons_of_mem _ h)))) rfl)
theorem zjump_at {off : Int} (h : zjump pc off ls st M = some (pc', ls', st', M')) : (pc : Int) + off = (pc' : Int) ∧ ls' = ls ∧ st' = st ∧ M' = M := by
  unfold zjump at h
  split at h
  · next h0 =>
    obtain ⟨rfl, rfl, rfl, rfl⟩ := zsome h
    exact ⟨(Int.toNat_of_nonneg h0).symm, rfl, rfl, rfl⟩
  · cases h
theorem zbr_at {b : Bool} {off : Int} (h : zbr b pc off ls st M = some (pc', ls', st', M')) : ∃ tgt : Nat, (pc : Int) + off = (tgt : Int) ∧ pc' = (if b = true then tgt else pc + 3) ∧ ls' = ls ∧ st' = st ∧ M' = M := by
  unfold zbr at h
  split at h
  · next h0 =>
    refine ⟨((pc : Int) + off).toNat, (Int.toNat_of_nonneg h0).symm, ?_⟩
    split at h
    · next hb =>
      obtain ⟨rfl, rfl, rfl, rfl⟩ := zsome h
      exact ⟨by rw [if_pos hb], rfl, rfl, rfl⟩
    · next hb =>
      obtain ⟨rfl, rfl, rfl, rfl⟩ := zsome h
      exact ⟨by rw [if_neg hb], rfl, rfl, rfl⟩
  · cases h
theorem zs_if2 (S : zSt B D aD L xs k s H locs ls LS st M) (hx : p.tables.exec = Jvm.exec) (hb : c.code = zcode k) {cm : ClassFile.Cond} {off : Int} (hd : decode (zcode k) pc = .ok (.if_icmp cm off, 3)) {x y : Int} {r : ZS} (hst : st = .inl y :: .inl x :: r)
    (h : zbr (zcmp cm x y) pc off ls r M = some (pc', ls', st', M'))
    (kk : ∀ LS', zSt B D aD L xs k s H locs ls' LS' st' M' → M' = M → W p l e R s m args below meth c H locs cells slots Q (F0 m pc' LS' (st'.map (zenc B)))) : W p l e R s m args below meth c H locs cells slots Q (F0 m pc LS (st.map (zenc B))) := by
  subst hst
  have hx2 : zi32 x := S.2.2.2.2 (.inl x) (List.mem_cons_of_mem _ List.mem_cons_self)
  have hy : zi32 y := S.2.2.2.2 (.inl y) List.mem_cons_self
  obtain ⟨tgt, ht, rfl, rfl, rfl, rfl⟩ := zbr_at h
  have w := kk LS (S.to fun u hu => S.2.2.2.2 u (List.mem_cons_of_mem _ (List.mem_cons_of_mem _ hu))) rfl
  show W p l e R s m args below meth c H locs cells slots Q (F0 m pc LS (.int (Int32.ofInt y) :: .int (Int32.ofInt x) :: st'.map (zenc B)))
  cases cm <;> simp only [zcmp, decide_eq_true_eq, Bool.not_eq_true', decide_eq_false_iff_not] at w
  · refine lv_icmp_eq hx hb hd ht (fun z => ?_) (fun z => ?_)
    · rw [if_pos ((zeq32 hx2 hy).mp z)] at w; exact w
    · rw [if_neg (fun u => z ((zeq32 hx2 hy).mpr u))] at w; exact w
  · refine lv_icmp_ne hx hb hd ht (fun z => ?_) (fun z => ?_)
    · rw [if_pos ((not_congr (zeq32 hx2 hy)).mp z)] at w; exact w
    · rw [if_neg (fun u => u ((zeq32 hx2 hy).mp z))] at w; exact w
  · refine lv_icmp_lt hx hb hd ht (fun z => ?_) (fun z => ?_)
    · rw [if_pos ((zlt32 hx2 hy).mp z)] at w; exact w
    · rw [if_neg (fun u => z ((zlt32 hx2 hy).mpr u))] at w; exact w
  · refine lv_icmp_ge hx hb hd ht (fun z => ?_) (fun z => ?_)
    · rw [if_pos (((zle32 hy hx2).trans (Int.not_lt).symm).mp z)] at w; exact w
    · rw [if_neg (fun u => z (((zle32 hy hx2).trans (Int.not_lt).symm).mpr u))] at w; exact w
  · refine lv_icmp_gt hx hb hd ht (fun z => ?_) (fun z => ?_)
    · rw [if_pos ((zlt32 hy hx2).mp z)] at w; exact w
    · rw [if_neg (fun u => z ((zlt32 hy hx2).mpr u))] at w; exact w
  · refine lv_icmp_le hx hb hd ht (fun z => ?_) (fun z => ?_)
    · rw [if_pos ((zle32 hx2 hy).mp z)] at w; exact w
    · rw [if_neg (fun u => z ((zle32 hx2 hy).mpr u))] at w; exact w
theorem zs_if1 (S : zSt B D aD L xs k s H locs ls LS st M) (hx : p.tables.exec = Jvm.exec) (hb : c.code = zcode k) {cm : ClassFile.Cond} {off : Int} (hd : decode (zcode k) pc = .ok (.ifCond cm off, 3)) {x : Int} {r : ZS} (hst : st = .inl x :: r)
    (h : zbr (zcmp cm x 0) pc off ls r M = some (pc', ls', st', M'))
    (kk : ∀ LS', zSt B D aD L xs k s H locs ls' LS' st' M' → M' = M → W p l e R s m args below meth c H locs cells slots Q (F0 m pc' LS' (st'.map (zenc B)))) : W p l e R s m args below meth c H locs cells slots Q (F0 m pc LS (st.map (zenc B))) := by
  subst hst
  have hx2 : zi32 x := S.2.2.2.2 (.inl x) List.mem_cons_self
  obtain ⟨tgt, ht, rfl, rfl, rfl, rfl⟩ := zbr_at h
  have w := kk LS (S.to fun u hu => S.2.2.2.2 u (List.mem_cons_of_mem _ hu)) rfl
  show W p l e R s m args below meth c H locs cells slots Q (F0 m pc LS (.int (Int32.ofInt x) :: st'.map (zenc B)))
  cases cm <;> simp only [zcmp, decide_eq_true_eq, Bool.not_eq_true', decide_eq_false_iff_not] at w
  · refine lv_if_eq hx hb hd ht (fun z => ?_) (fun z => ?_)
    · rw [if_pos ((zeq32 hx2 z032).mp z)] at w; exact w
    · rw [if_neg (fun u => z ((zeq32 hx2 z032).mpr u))] at w; exact w
  · refine lv_if_ne hx hb hd ht (fun z => ?_) (fun z => ?_)
    · rw [if_pos ((not_congr (zeq32 hx2 z032)).mp z)] at w; exact w
    · rw [if_neg (fun u => u ((zeq32 hx2 z032).mp z))] at w; exact w
  · refine lv_if_lt hx hb hd ht (fun z => ?_) (fun z => ?_)
    · rw [if_pos ((zlt32 hx2 z032).mp z)] at w; exact w
    · rw [if_neg (fun u => z ((zlt32 hx2 z032).mpr u))] at w; exact w
  · refine lv_if_ge hx hb hd ht (fun z => ?_) (fun z => ?_)
    · rw [if_pos (((zle32 z032 hx2).trans (Int.not_lt).symm).mp z)] at w; exact w
    · rw [if_neg (fun u => z (((zle32 z032 hx2).trans (Int.not_lt).symm).mpr u))] at w; exact w
  · refine lv_if_gt hx hb hd ht (fun z => ?_) (fun z => ?_)
    · rw [if_pos ((zlt32 z032 hx2).mp z)] at w; exact w
    · rw [if_neg (fun u => z ((zlt32 z032 hx2).mpr u))] at w; exact w
  · refine lv_if_le hx hb hd ht (fun z => ?_) (fun z => ?_)
    · rw [if_pos ((zle32 hx2 z032).mp z)] at w; exact w
    · rw [if_neg (fun u => z ((zle32 hx2 z032).mpr u))] at w; exact w
end ZSTEP
