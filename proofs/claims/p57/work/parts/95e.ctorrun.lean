/-! ===== the constructors' run and the small machine's ===== -/
section ZQ
variable {B : ZM}
theorem zqp_ok {k pc pc' : Nat} {i : Instr} {ls ls' : ZL} {st st' : ZS} {M M0 M1 : ZM} (hp : zqp i = true) (h : zstep k i pc ls st M0 = some (pc', ls', st', M1)) : zstep k i pc ls st M = some (pc', ls', st', M) := by
  cases i
  case iconst v =>
    simp only [zstep] at h ⊢
    split at h
    · next q => rw [if_pos q]; cases h; rfl
    · cases h
  case bipush v =>
    simp only [zstep] at h ⊢
    split at h
    · next q => rw [if_pos q]; cases h; rfl
    · cases h
  case sipush v =>
    simp only [zstep] at h ⊢
    split at h
    · next q => rw [if_pos q]; cases h; rfl
    · cases h
  case iload_n n =>
    simp only [zstep, zldI] at h ⊢
    split at h
    · cases h; rfl
    · cases h
  case istore_n n =>
    simp only [zstep, zstI] at h ⊢
    split at h
    · split at h
      · next q => rw [if_pos q]; cases h; rfl
      · cases h
    · cases h
  case aload_n n =>
    simp only [zstep, zldA] at h ⊢
    split at h
    · split at h
      · next q => rw [if_pos q]; cases h; rfl
      · cases h
    · cases h
  case astore_n n =>
    simp only [zstep, zstA] at h ⊢
    split at h
    · split at h
      · next q => rw [if_pos q]; cases h; rfl
      · cases h
    · cases h
  case iinc n v =>
    simp only [zstep] at h ⊢
    split at h
    · split at h
      · next q => rw [if_pos q]; cases h; rfl
      · cases h
    · cases h
  case dup =>
    simp only [zstep] at h ⊢
    split at h
    · split at h
      · cases h
      · next q => rw [if_neg q]; cases h; rfl
    · cases h
  case goto off =>
    simp only [zstep, zjump] at h ⊢
    split at h
    · next q => rw [if_pos q]; cases h; rfl
    · cases h
  case if_icmp cc off =>
    simp only [zstep, zbr] at h ⊢
    split at h
    · split at h
      · next q =>
        rw [if_pos q]
        split at h
        · next q2 => rw [if_pos q2]; cases h; rfl
        · next q2 => rw [if_neg q2]; cases h; rfl
      · cases h
    · cases h
  all_goals cases hp
theorem zqs_ok {k pc pc' : Nat} {i : Instr} {ls ls' : ZL} {st st' : ZS} {c c' : Int} {E E' : zqE} {M : ZM} (h : zqs k i pc ls st c E = some (pc', ls', st', c', E')) (H : zBu B c E M) : ∃ M', zstep k i pc ls st M = some (pc', ls', st', M') ∧ zBu B c' E' M' := by
  have dflt : zqp i = true → (match zstep k i pc ls st (fun _ _ => 0) with | some (pc', ls', st', _) => some (pc', ls', st', c, E) | none => none) = some (pc', ls', st', c', E') → ∃ M', zstep k i pc ls st M = some (pc', ls', st', M') ∧ zBu B c' E' M' := fun hp h => by
    split at h
    · next a b d e eq =>
      cases h
      exact ⟨M, zqp_ok hp eq, H⟩
    · cases h
  have nx : znx M = c := H.1.1
  have nk : znx (zskip M) = zqk c := H.skip.1.1
  have hk : zqk c ≠ 223 := by
    unfold zqk
    split <;> omega
  cases i
  case new n =>
    simp only [zqs] at h
    split at h
    · next ci q elk =>
      split at h
      · next hc =>
        cases h
        refine ⟨zmake (zskip M), ?_, H.skip.new hk⟩
        simp only [zstep, znew, elk]
        rw [nk, ← zshF_eq, if_pos hc]
      · cases h
    · cases h
  case newarray t =>
    simp only [zqs] at h
    split at h
    · next n r =>
      split at h
      · next hc =>
        cases h
        refine ⟨zmake (zskip M), ?_, H.skip.new hk⟩
        simp only [zstep, znewa]
        rw [nk, ← zshF_eq, if_pos hc.1, if_pos ⟨by omega, hc.2.1, hc.2.2⟩]
      · cases h
    · cases h
  case anewarray n =>
    simp only [zqs] at h
    split at h
    · next q x r elk =>
      split at h
      · next hc =>
        cases h
        refine ⟨zmake (zskip M), ?_, H.skip.new hk⟩
        simp only [zstep, znewa, elk]
        rw [nk, ← zshF_eq, if_pos ⟨by omega, hc.1, hc.2⟩]
      · cases h
    · cases h
  case putfield n =>
    simp only [zqs] at h
    split at h
    · next ci j q v a r elk =>
      split at h
      · next hc =>
        obtain ⟨⟨a0, a1⟩, hs, hf, hv⟩ := hc
        cases h
        refine ⟨zset M a j (yini a j), ?_, H.set a0 a1 rfl⟩
        simp only [zstep, zputf, elk]
        rw [← zshF_eq, if_pos ⟨hs, hf⟩, hv]
      · cases h
    · cases h
  case getfield n =>
    simp only [zqs] at h
    split at h
    · next ci j q a r elk =>
      split at h
      · next hc =>
        obtain ⟨⟨a0, a1⟩, ⟨hs, hg⟩, hE⟩ := hc
        split at h
        · next v hv =>
          cases h
          refine ⟨M, ?_, H⟩
          simp only [zstep, zgetf, elk]
          rw [← zshF_eq, if_pos hs, H.2.2.1 a j a0 a1 hg hE, hv]
        · cases h
      · cases h
    · cases h
  case aastore =>
    simp only [zqs] at h
    split at h
    · next x i a r =>
      split at h
      · next hc =>
        obtain ⟨⟨a0, a1⟩, h4, hx, hi, hy⟩ := hc
        cases h
        refine ⟨zset M a i x, ?_, H.set a0 a1 hy⟩
        have el : zlen M a = (zshF a).2 := by unfold zlen; rw [if_neg (show ¬ a = 0 by omega), zshF_eq]
        simp only [zstep, zastA]
        rw [if_pos ⟨by rw [← zshF_eq]; exact h4, by rw [← zshF_eq]; exact hx, hi.1, by rw [el]; exact hi.2⟩]
      · cases h
    · cases h
  case iastore =>
    simp only [zqs] at h
    split at h
    · next x i a r =>
      split at h
      · next hc =>
        obtain ⟨⟨a0, a1⟩, h4, hi, hy⟩ := hc
        cases h
        refine ⟨zset M a i x, ?_, H.set a0 a1 hy⟩
        have el : zlen M a = (zshF a).2 := by unfold zlen; rw [if_neg (show ¬ a = 0 by omega), zshF_eq]
        simp only [zstep, zastI]
        rw [if_pos ⟨by rw [← zshF_eq]; exact h4, hi.1, by rw [el]; exact hi.2⟩]
      · cases h
    · cases h
  all_goals
    simp only [zqs] at h
    split at h
    · next hp => exact dflt hp h
    · cases h
theorem zq_ok : ∀ (n d k pc : Nat) (ls : ZL) (st : ZS) (c : Int) (E : zqE) (c' : Int) (E' : zqE) (M : ZM), zq n d k pc ls st c E = some (c', E') → zBu B c E M → ∃ M', zbody n d k pc ls st M = some (none, M') ∧ zBu B c' E' M' := by
  intro n
  induction n with
  | zero => intro d k pc ls st c E c' E' M h; cases h
  | succ n ih =>
    intro d k pc ls st c E c' E' M h H
    rw [zbody_eq]
    unfold zq at h
    split at h
    · cases h
    · next i m ez =>
      rw [ez]
      dsimp only
      split at h
      · next hl =>
        rw [if_pos hl]
        have dflt : ∀ i, (match zqs k i pc ls st c E with | some (pc', ls', st', c', E') => zq n d k pc' ls' st' c' E' | none => none) = some (c', E') → ∃ M', (match zstep k i pc ls st M with | some (pc', ls', st', M') => zbody n d k pc' ls' st' M' | none => none) = some (none, M') ∧ zBu B c' E' M' := fun i h => by
          split at h
          · next pc1 ls1 st1 c1 E1 e1 =>
            obtain ⟨M1, e2, H1⟩ := zqs_ok e1 H
            rw [e2]
            exact ih _ _ _ _ _ _ _ _ _ M1 h H1
          · cases h
        cases i
        case return_ =>
          dsimp only at h ⊢
          split at h
          · split at h
            · next hr => cases h; exact ⟨M, by rw [if_pos hr], H⟩
            · cases h
          · cases h
        case invokespecial j =>
          dsimp only at h ⊢
          split at h
          · next t nest q e1 =>
            (try rw [e1])
            (try dsimp only)
            split at h
            · next ht =>
              rw [if_pos ht]
              split at h
              · next a r1 d1 =>
                split at h
                · next hc => dsimp only; rw [if_pos hc]; exact ih _ _ _ _ _ _ _ _ _ M h H
                · cases h
              · cases h
            · next ht =>
              rw [if_neg ht]
              split at h
              · next av r1 d1 e2 =>
                (try rw [e2])
                (try dsimp only)
                split at h
                · next c1 E1 e3 =>
                  obtain ⟨M1, e4, H1⟩ := ih _ _ _ _ _ _ _ _ _ M e3 H
                  rw [e4]
                  exact ih _ _ _ _ _ _ _ _ _ M1 h H1
                · cases h
              · cases h
          · cases h
        all_goals first | exact dflt _ h | (simp [zqs, zqp] at h; done)
      · cases h
end ZQ
