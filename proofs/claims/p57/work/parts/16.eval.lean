/-! ===== the small machine's runs, as statements about what comes of them ===== -/
theorem zbody_mono1 : ∀ (n d k pc : Nat) (ls : ZL) (st : ZS) (M : ZM) (x : Option ZV × ZM), zbody n d k pc ls st M = some x → zbody (n + 1) d k pc ls st M = some x
  | 0, _, _, _, _, _, _, _, h => by cases h
  | n + 1, d, k, pc, ls, st, M, x, h => by
    rw [zbody_eq] at h ⊢
    split at h
    · cases h
    · next i m eq =>
      (try rw [eq])
      (try dsimp only)
      split at h
      · next hl =>
        rw [if_pos hl]
        cases i
        case ireturn => exact h
        case lreturn => exact h
        case areturn => exact h
        case return_ => exact h
        case invokespecial j =>
          dsimp only at h ⊢
          split at h
          · next t nest q e1 =>
            (try rw [e1])
            (try dsimp only)
            split at h
            · next ht =>
              rw [if_pos ht]
              split at h
              · next a r1 d1 =>
                split at h
                · next hc => rw [if_pos hc]; exact zbody_mono1 n _ _ _ _ _ _ _ h
                · cases h
              · cases h
            · next ht =>
              rw [if_neg ht]
              split at h
              · next av r1 d1 e2 =>
                (try rw [e2])
                (try dsimp only)
                split at h
                · next v M1 e3 =>
                  rw [zbody_mono1 n _ _ _ _ _ _ _ e3]
                  exact zbody_mono1 n _ _ _ _ _ _ _ h
                · cases h
              · cases h
          · cases h
        case invokestatic j =>
          dsimp only at h ⊢
          split at h
          · next t nest q e1 =>
            (try rw [e1])
            (try dsimp only)
            split at h
            · next ht =>
              rw [if_pos ht]
              split at h
              · next d1 pc1 ls1 st1 M1 e2 =>
                (try rw [e2])
                exact zbody_mono1 n _ _ _ _ _ _ _ h
              · cases h
            · next ht =>
              rw [if_neg ht]
              split at h
              · next ht2 =>
                rw [if_pos ht2]
                split at h
                · next d1 pc1 ls1 st1 M1 e2 =>
                  (try rw [e2])
                  exact zbody_mono1 n _ _ _ _ _ _ _ h
                · cases h
              · next ht2 =>
                rw [if_neg ht2]
                split at h
                · next av r1 d1 e2 =>
                  (try rw [e2])
                  (try dsimp only)
                  split at h
                  · next v M1 e3 =>
                    rw [zbody_mono1 n _ _ _ _ _ _ _ e3]
                    exact zbody_mono1 n _ _ _ _ _ _ _ h
                  · cases h
                · cases h
          · cases h
        case invokevirtual j =>
          dsimp only at h ⊢
          split at h
          · next t nest q e1 =>
            (try rw [e1])
            (try dsimp only)
            split at h
            · next ht =>
              rw [if_pos ht]
              split at h
              · next pc1 ls1 st1 M1 e2 =>
                (try rw [e2])
                exact zbody_mono1 n _ _ _ _ _ _ _ h
              · cases h
            · next ht =>
              rw [if_neg ht]
              split at h
              · next av r1 d1 e2 =>
                (try rw [e2])
                (try dsimp only)
                split at h
                · next v M1 e3 =>
                  rw [zbody_mono1 n _ _ _ _ _ _ _ e3]
                  exact zbody_mono1 n _ _ _ _ _ _ _ h
                · cases h
              · cases h
          · cases h
        all_goals
          dsimp only at h ⊢
          split at h
          · next e1 =>
            (try rw [e1])
            exact zbody_mono1 n _ _ _ _ _ _ _ h
          · cases h
      · cases h
theorem zbody_mono {n m : Nat} (hnm : n ≤ m) {d k pc : Nat} {ls : ZL} {st : ZS} {M : ZM} {x : Option ZV × ZM} (h : zbody n d k pc ls st M = some x) : zbody m d k pc ls st M = some x := by
  induction m with
  | zero =>
    have : n = 0 := by omega
    subst this
    exact h
  | succ m ih =>
    by_cases q : n = m + 1
    · subst q; exact h
    · exact zbody_mono1 m _ _ _ _ _ _ _ (ih (by omega))
/-! ===== the cells' kinds, quick ===== -/
def zshN (n : Nat) : Nat × Int := bif Nat.blt n 269 then (bif Nat.blt n 134 then (bif Nat.blt n 67 then (bif Nat.blt n 33 then (bif Nat.blt n 16 then (bif Nat.blt n 8 then (bif Nat.blt n 4 then (bif Nat.blt n 2 then (bif Nat.blt n 1 then (21, 0) else (20, 18)) else (bif Nat.blt n 3 then (20, 3) else (18, 0))) else (bif Nat.blt n 6 then (bif Nat.blt n 5 then (12, 0) else (0, 180)) else (bif Nat.blt n 7 then (12, 0) else (0, 180)))) else (bif Nat.blt n 12 then (bif Nat.blt n 10 then (bif Nat.blt n 9 then (11, 0) else (4, 25)) else (bif Nat.blt n 11 then (10, 0) else (0, 63))) else (bif Nat.blt n 14 then (bif Nat.blt n 13 then (0, 3) else (0, 3)) else (bif Nat.blt n 15 then (10, 0) else (0, 63))))) else (bif Nat.blt n 24 then (bif Nat.blt n 20 then (bif Nat.blt n 18 then (bif Nat.blt n 17 then (0, 3) else (0, 3)) else (bif Nat.blt n 19 then (10, 0) else (0, 63))) else (bif Nat.blt n 22 then (bif Nat.blt n 21 then (0, 3) else (0, 3)) else (bif Nat.blt n 23 then (10, 0) else (0, 63)))) else (bif Nat.blt n 28 then (bif Nat.blt n 26 then (bif Nat.blt n 25 then (0, 3) else (0, 3)) else (bif Nat.blt n 27 then (10, 0) else (0, 63))) else (bif Nat.blt n 30 then (bif Nat.blt n 29 then (0, 3) else (0, 3)) else (bif Nat.blt n 31 then (10, 0) else (bif Nat.blt n 32 then (0, 63) else (0, 3))))))) else (bif Nat.blt n 50 then (bif Nat.blt n 41 then (bif Nat.blt n 37 then (bif Nat.blt n 35 then (bif Nat.blt n 34 then (0, 3) else (10, 0)) else (bif Nat.blt n 36 then (0, 63) else (0, 3))) else (bif Nat.blt n 39 then (bif Nat.blt n 38 then (0, 3) else (10, 0)) else (bif Nat.blt n 40 then (0, 63) else (0, 3)))) else (bif Nat.blt n 45 then (bif Nat.blt n 43 then (bif Nat.blt n 42 then (0, 3) else (10, 0)) else (bif Nat.blt n 44 then (0, 63) else (0, 3))) else (bif Nat.blt n 47 then (bif Nat.blt n 46 then (0, 3) else (10, 0)) else (bif Nat.blt n 48 then (0, 63) else (bif Nat.blt n 49 then (0, 3) else (0, 3)))))) else (bif Nat.blt n 58 then (bif Nat.blt n 54 then (bif Nat.blt n 52 then (bif Nat.blt n 51 then (10, 0) else (0, 63)) else (bif Nat.blt n 53 then (0, 3) else (0, 3))) else (bif Nat.blt n 56 then (bif Nat.blt n 55 then (10, 0) else (0, 63)) else (bif Nat.blt n 57 then (0, 3) else (0, 3)))) else (bif Nat.blt n 62 then (bif Nat.blt n 60 then (bif Nat.blt n 59 then (10, 0) else (0, 63)) else (bif Nat.blt n 61 then (0, 3) else (0, 3))) else (bif Nat.blt n 64 then (bif Nat.blt n 63 then (10, 0) else (0, 63)) else (bif Nat.blt n 65 then (0, 3) else (bif Nat.blt n 66 then (0, 3) else (10, 0)))))))) else (bif Nat.blt n 100 then (bif Nat.blt n 83 then (bif Nat.blt n 75 then (bif Nat.blt n 71 then (bif Nat.blt n 69 then (bif Nat.blt n 68 then (0, 63) else (0, 3)) else (bif Nat.blt n 70 then (0, 3) else (10, 0))) else (bif Nat.blt n 73 then (bif Nat.blt n 72 then (0, 63) else (0, 3)) else (bif Nat.blt n 74 then (0, 3) else (10, 0)))) else (bif Nat.blt n 79 then (bif Nat.blt n 77 then (bif Nat.blt n 76 then (0, 63) else (0, 3)) else (bif Nat.blt n 78 then (0, 3) else (10, 0))) else (bif Nat.blt n 81 then (bif Nat.blt n 80 then (0, 63) else (0, 3)) else (bif Nat.blt n 82 then (0, 3) else (10, 0))))) else (bif Nat.blt n 91 then (bif Nat.blt n 87 then (bif Nat.blt n 85 then (bif Nat.blt n 84 then (0, 63) else (0, 3)) else (bif Nat.blt n 86 then (0, 3) else (10, 0))) else (bif Nat.blt n 89 then (bif Nat.blt n 88 then (0, 63) else (0, 3)) else (bif Nat.blt n 90 then (0, 3) else (10, 0)))) else (bif Nat.blt n 95 then (bif Nat.blt n 93 then (bif Nat.blt n 92 then (0, 63) else (0, 3)) else (bif Nat.blt n 94 then (0, 3) else (10, 0))) else (bif Nat.blt n 97 then (bif Nat.blt n 96 then (0, 63) else (0, 3)) else (bif Nat.blt n 98 then (0, 3) else (bif Nat.blt n 99 then (10, 0) else (0, 63))))))) else (bif Nat.blt n 117 then (bif Nat.blt n 108 then (bif Nat.blt n 104 then (bif Nat.blt n 102 then (bif Nat.blt n 101 then (0, 3) else (0, 3)) else (bif Nat.blt n 103 then (10, 0) else (0, 63))) else (bif Nat.blt n 106 then (bif Nat.blt n 105 then (0, 3) else (0, 3)) else (bif Nat.blt n 107 then (10, 0) else (0, 63)))) else (bif Nat.blt n 112 then (bif Nat.blt n 110 then (bif Nat.blt n 109 then (0, 3) else (0, 3)) else (bif Nat.blt n 111 then (11, 0) else (4, 25))) else (bif Nat.blt n 114 then (bif Nat.blt n 113 then (10, 0) else (0, 63)) else (bif Nat.blt n 115 then (0, 3) else (bif Nat.blt n 116 then (0, 3) else (10, 0)))))) else (bif Nat.blt n 125 then (bif Nat.blt n 121 then (bif Nat.blt n 119 then (bif Nat.blt n 118 then (0, 63) else (0, 3)) else (bif Nat.blt n 120 then (0, 3) else (10, 0))) else (bif Nat.blt n 123 then (bif Nat.blt n 122 then (0, 63) else (0, 3)) else (bif Nat.blt n 124 then (0, 3) else (10, 0)))) else (bif Nat.blt n 129 then (bif Nat.blt n 127 then (bif Nat.blt n 126 then (0, 63) else (0, 3)) else (bif Nat.blt n 128 then (0, 3) else (10, 0))) else (bif Nat.blt n 131 then (bif Nat.blt n 130 then (0, 63) else (0, 3)) else (bif Nat.blt n 132 then (0, 3) else (bif Nat.blt n 133 then (10, 0) else (0, 63))))))))) else (bif Nat.blt n 201 then (bif Nat.blt n 167 then (bif Nat.blt n 150 then (bif Nat.blt n 142 then (bif Nat.blt n 138 then (bif Nat.blt n 136 then (bif Nat.blt n 135 then (0, 3) else (0, 3)) else (bif Nat.blt n 137 then (10, 0) else (0, 63))) else (bif Nat.blt n 140 then (bif Nat.blt n 139 then (0, 3) else (0, 3)) else (bif Nat.blt n 141 then (10, 0) else (0, 63)))) else (bif Nat.blt n 146 then (bif Nat.blt n 144 then (bif Nat.blt n 143 then (0, 3) else (0, 3)) else (bif Nat.blt n 145 then (10, 0) else (0, 63))) else (bif Nat.blt n 148 then (bif Nat.blt n 147 then (0, 3) else (0, 3)) else (bif Nat.blt n 149 then (10, 0) else (0, 63))))) else (bif Nat.blt n 158 then (bif Nat.blt n 154 then (bif Nat.blt n 152 then (bif Nat.blt n 151 then (0, 3) else (0, 3)) else (bif Nat.blt n 153 then (10, 0) else (0, 63))) else (bif Nat.blt n 156 then (bif Nat.blt n 155 then (0, 3) else (0, 3)) else (bif Nat.blt n 157 then (10, 0) else (0, 63)))) else (bif Nat.blt n 162 then (bif Nat.blt n 160 then (bif Nat.blt n 159 then (0, 3) else (0, 3)) else (bif Nat.blt n 161 then (10, 0) else (0, 63))) else (bif Nat.blt n 164 then (bif Nat.blt n 163 then (0, 3) else (0, 3)) else (bif Nat.blt n 165 then (10, 0) else (bif Nat.blt n 166 then (0, 63) else (0, 3))))))) else (bif Nat.blt n 184 then (bif Nat.blt n 175 then (bif Nat.blt n 171 then (bif Nat.blt n 169 then (bif Nat.blt n 168 then (0, 3) else (10, 0)) else (bif Nat.blt n 170 then (0, 63) else (0, 3))) else (bif Nat.blt n 173 then (bif Nat.blt n 172 then (0, 3) else (10, 0)) else (bif Nat.blt n 174 then (0, 63) else (0, 3)))) else (bif Nat.blt n 179 then (bif Nat.blt n 177 then (bif Nat.blt n 176 then (0, 3) else (10, 0)) else (bif Nat.blt n 178 then (0, 63) else (0, 3))) else (bif Nat.blt n 181 then (bif Nat.blt n 180 then (0, 3) else (10, 0)) else (bif Nat.blt n 182 then (0, 63) else (bif Nat.blt n 183 then (0, 3) else (0, 3)))))) else (bif Nat.blt n 192 then (bif Nat.blt n 188 then (bif Nat.blt n 186 then (bif Nat.blt n 185 then (10, 0) else (0, 63)) else (bif Nat.blt n 187 then (0, 3) else (0, 3))) else (bif Nat.blt n 190 then (bif Nat.blt n 189 then (10, 0) else (0, 63)) else (bif Nat.blt n 191 then (0, 3) else (0, 3)))) else (bif Nat.blt n 196 then (bif Nat.blt n 194 then (bif Nat.blt n 193 then (10, 0) else (0, 63)) else (bif Nat.blt n 195 then (0, 3) else (0, 3))) else (bif Nat.blt n 198 then (bif Nat.blt n 197 then (10, 0) else (0, 63)) else (bif Nat.blt n 199 then (0, 3) else (bif Nat.blt n 200 then (0, 3) else (10, 0)))))))) else (bif Nat.blt n 235 then (bif Nat.blt n 218 then (bif Nat.blt n 209 then (bif Nat.blt n 205 then (bif Nat.blt n 203 then (bif Nat.blt n 202 then (0, 63) else (0, 3)) else (bif Nat.blt n 204 then (0, 3) else (10, 0))) else (bif Nat.blt n 207 then (bif Nat.blt n 206 then (0, 63) else (0, 3)) else (bif Nat.blt n 208 then (0, 3) else (10, 0)))) else (bif Nat.blt n 213 then (bif Nat.blt n 211 then (bif Nat.blt n 210 then (0, 63) else (0, 3)) else (bif Nat.blt n 212 then (0, 3) else (15, 0))) else (bif Nat.blt n 215 then (bif Nat.blt n 214 then (0, 8) else (0, 8)) else (bif Nat.blt n 216 then (1, 320) else (bif Nat.blt n 217 then (17, 0) else (0, 250)))))) else (bif Nat.blt n 226 then (bif Nat.blt n 222 then (bif Nat.blt n 220 then (bif Nat.blt n 219 then (14, 0) else (0, 250)) else (bif Nat.blt n 221 then (0, 250) else (0, 250))) else (bif Nat.blt n 224 then (bif Nat.blt n 223 then (16, 0) else (99, 0)) else (bif Nat.blt n 225 then (0, 500) else (0, 500)))) else (bif Nat.blt n 230 then (bif Nat.blt n 228 then (bif Nat.blt n 227 then (0, 1000) else (0, 500)) else (bif Nat.blt n 229 then (0, 1000) else (0, 500))) else (bif Nat.blt n 232 then (bif Nat.blt n 231 then (3, 500) else (0, 500)) else (bif Nat.blt n 233 then (13, 0) else (bif Nat.blt n 234 then (0, 60) else (0, 5))))))) else (bif Nat.blt n 252 then (bif Nat.blt n 243 then (bif Nat.blt n 239 then (bif Nat.blt n 237 then (bif Nat.blt n 236 then (3, 1000) else (19, 0)) else (bif Nat.blt n 238 then (0, 8) else (0, 8))) else (bif Nat.blt n 241 then (bif Nat.blt n 240 then (0, 8) else (5, 8)) else (bif Nat.blt n 242 then (1, 40) else (1, 40)))) else (bif Nat.blt n 247 then (bif Nat.blt n 245 then (bif Nat.blt n 244 then (1, 40) else (1, 40)) else (bif Nat.blt n 246 then (1, 40) else (1, 40))) else (bif Nat.blt n 249 then (bif Nat.blt n 248 then (1, 40) else (1, 40)) else (bif Nat.blt n 250 then (1, 40) else (bif Nat.blt n 251 then (0, 8) else (0, 250)))))) else (bif Nat.blt n 260 then (bif Nat.blt n 256 then (bif Nat.blt n 254 then (bif Nat.blt n 253 then (0, 8) else (0, 180)) else (bif Nat.blt n 255 then (0, 24) else (0, 24))) else (bif Nat.blt n 258 then (bif Nat.blt n 257 then (0, 192) else (0, 180)) else (bif Nat.blt n 259 then (0, 24) else (0, 24)))) else (bif Nat.blt n 264 then (bif Nat.blt n 262 then (bif Nat.blt n 261 then (0, 192) else (2, 24000)) else (bif Nat.blt n 263 then (0, 24) else (0, 24))) else (bif Nat.blt n 266 then (bif Nat.blt n 265 then (0, 24) else (0, 1000)) else (bif Nat.blt n 267 then (0, 1000) else (bif Nat.blt n 268 then (0, 60) else (0, 8)))))))))) else (99, 0)
def zshF (a : Int) : Nat × Int := match a with
  | .ofNat n => zshN n
  | .negSucc _ => (99, 0)
theorem zshN_ok : ∀ n : Nat, n < 269 → zshN n = zsh (n : Int) := by decide +kernel
theorem zshL_len : zshL.length = 266 := by decide +kernel
theorem zshF_eq (a : Int) : zshF a = zsh a := by
  cases a with
  | ofNat n =>
    show zshN n = zsh (n : Int)
    by_cases h : n < 269
    · exact zshN_ok n h
    · unfold zshN zsh
      rw [show Nat.blt n 269 = false from by
        cases e : Nat.blt n 269 with
        | true => exact absurd (Nat.le_of_ble_eq_true e) (by omega)
        | false => rfl]
      rw [if_neg (by omega), List.getElem?_eq_none (by rw [zshL_len]; omega)]
      rfl
  | negSucc n =>
    show (99, 0) = zsh (Int.negSucc n)
    unfold zsh
    rw [if_pos (by omega), if_neg (by omega), if_neg (by omega), if_neg (by omega)]
/-! ===== fixed pointers and constants ===== -/
def zpL (l : List (Nat × Nat)) (j : Int) : Option Int := match j with
  | .ofNat n => (match zlk l n with | some p => some (p : Int) | none => none)
  | .negSucc _ => none
def zpR (n b w : Int) (j : Int) : Option Int := if 0 ≤ j ∧ j < n then some (b + w * j) else none
def zpK (l : List Int) (j : Int) : Option Int := match j with
  | .ofNat n => l[n]?
  | .negSucc _ => none
def zpC (n : Nat) (j : Int) : Option Int := match j with
  | .ofNat 8 => some (n + 1 : Nat)
  | .ofNat 10 => some (n + 2 : Nat)
  | .ofNat 11 => some (n + 3 : Nat)
  | _ => none
def zpS (n : Nat) (j : Int) : Option Int :=
  bif Nat.beq n 3 then zpL [(0, 4), (1, 6), (2, 8), (3, 110), (4, 212), (5, 216), (6, 218), (7, 222), (8, 232), (9, 234), (10, 235)] j else bif Nat.beq n 4 then zpL [(0, 5)] j else bif Nat.beq n 6 then zpL [(0, 7)] j else bif Nat.beq n 8 then zpL [(0, 9)] j else bif Nat.beq n 110 then zpL [(0, 111)] j else bif Nat.beq n 212 then zpL [(0, 213), (1, 214), (2, 215)] j else bif Nat.beq n 216 then zpL [(0, 217)] j else bif Nat.beq n 218 then zpL [(0, 219), (2, 220), (4, 221)] j else bif Nat.beq n 222 then zpL [(0, 224), (1, 225), (2, 226), (3, 227), (4, 228), (5, 229), (6, 230), (7, 231)] j else bif Nat.beq n 232 then zpL [(0, 233)] j else bif Nat.beq n 236 then zpL [(0, 237), (1, 238), (2, 239), (3, 240), (4, 249), (5, 250), (6, 251), (8, 252), (13, 253), (14, 254), (15, 255), (16, 256), (22, 257), (23, 258), (24, 259), (25, 260), (26, 261), (27, 262), (28, 263), (29, 264), (30, 265), (31, 266), (33, 267), (38, 268)] j else bif Nat.beq n 9 then zpR 25 10 4 j else bif Nat.beq n 111 then zpR 25 112 4 j else bif Nat.beq n 240 then zpR 8 241 1 j else bif Nat.beq n 1 then zpK [0, 1, 2, 0, 2, 1, 1, 0, 2, 1, 2, 0, 2, 0, 1, 2, 1, 0] j else bif Nat.beq n 2 then zpK [100, 10, 1] j else none
def zpb (n : Nat) : Bool := Nat.ble 4 (zshN n).1 && Nat.blt (zshN n).1 21
def zpvN (n : Nat) (j : Int) : Option Int := bif zpb n then (bif Nat.beq (zshN n).1 10 then zpC n j else zpS n j) else none
def zpv (a j : Int) : Option Int := match a with
  | .ofNat n => zpvN n j
  | .negSucc n => bif Nat.beq n 0 then zpL [(0, 236)] j else none
def znp' (a j : Int) : Bool := (zpv a j).isNone
def zok (M : ZM) : Prop := ∀ a j p, zpv a j = some p → M a j = p
abbrev ZN : Type := {M : ZM // zok M}
def zr (m : ZN) (a j : Int) : Int := m.1 a j
def zrd (m : ZN) (a j : Int) : Int := match zpv a j with
  | some p => p
  | none => zr m a j
theorem zrd_eq (m : ZN) (a j : Int) : zrd m a j = m.1 a j := by
  unfold zrd
  split
  · next p e => exact (m.2 a j p e).symm
  · rfl
/-- one place written -/
def zsn (m : ZN) (a j v : Int) : ZN := ⟨fun a' j' => if (a' = a ∧ j' = j) ∧ zpv a j = none then v else m.1 a' j', fun a' j' p h => by
  show (if (a' = a ∧ j' = j) ∧ zpv a j = none then v else m.1 a' j') = p
  rw [if_neg (fun q => by obtain ⟨⟨rfl, rfl⟩, q⟩ := q; rw [q] at h; cases h)]
  exact m.2 a' j' p h⟩
theorem zsn_val {m : ZN} {a j v : Int} (h : znp' a j = true) : (zsn m a j v).1 = zset m.1 a j v := by
  have h : zpv a j = none := Option.isNone_iff_eq_none.mp h
  funext a' j'
  show (if (a' = a ∧ j' = j) ∧ zpv a j = none then v else m.1 a' j') = if a' = a ∧ j' = j then v else m.1 a' j'
  by_cases q : a' = a ∧ j' = j
  · rw [if_pos ⟨q, h⟩, if_pos q]
  · rw [if_neg (fun z => q z.1), if_neg q]
/-- a whole cell written (a cell without pointers) -/
def zcc (m : ZN) (a : Int) (F : Int → Int) : ZN := ⟨fun a' j' => if a' = a ∧ zpv a j' = none then F j' else m.1 a' j', fun a' j' p h => by
  show (if a' = a ∧ zpv a j' = none then F j' else m.1 a' j') = p
  rw [if_neg (fun q => by obtain ⟨rfl, q⟩ := q; rw [q] at h; cases h)]
  exact m.2 a' j' p h⟩
theorem zN_ext {m m' : ZN} (h : ∀ a j, zr m a j = zr m' a j) : m = m' := Subtype.ext (funext fun a => funext fun j => h a j)
theorem zr_zsn (m : ZN) (a j v a' j' : Int) : zr (zsn m a j v) a' j' = if (a' = a ∧ j' = j) ∧ zpv a j = none then v else zr m a' j' := rfl
theorem zr_zcc (m : ZN) (a : Int) (F : Int → Int) (a' j' : Int) : zr (zcc m a F) a' j' = if a' = a ∧ zpv a j' = none then F j' else zr m a' j' := rfl
/-! ===== runs over such a memory ===== -/
def zwpN (d k pc : Nat) (ls : ZL) (st : ZS) (m : ZN) (P : Option ZV → ZN → Prop) : Prop := ∃ (n : Nat) (r : Option ZV) (m' : ZN), zbody n d k pc ls st m.1 = some (r, m'.1) ∧ P r m'
def zcI (d t : Nat) (args : ZS) (m : ZN) (K : Int → ZN → Prop) : Prop := ∃ (n : Nat) (x : Int) (m' : ZN), zbody n d t 0 (zentry t args) [] m.1 = some (some (zI x), m'.1) ∧ K x m'
def zcJ (d t : Nat) (args : ZS) (m : ZN) (K : Int → ZN → Prop) : Prop := ∃ (n : Nat) (x : Int) (m' : ZN), zbody n d t 0 (zentry t args) [] m.1 = some (some (zJ x), m'.1) ∧ K x m'
def zcA (d t : Nat) (args : ZS) (m : ZN) (K : Int → ZN → Prop) : Prop := ∃ (n : Nat) (x : Int) (m' : ZN), zbody n d t 0 (zentry t args) [] m.1 = some (some (zA x), m'.1) ∧ K x m'
def zcV (d t : Nat) (args : ZS) (m : ZN) (K : ZN → Prop) : Prop := ∃ (n : Nat) (m' : ZN), zbody n d t 0 (zentry t args) [] m.1 = some (none, m'.1) ∧ K m'
def zPI (K : Int → ZN → Prop) : Option ZV → ZN → Prop := fun v m => match v with
  | some (.inl x) => K x m
  | _ => False
def zPJ (K : Int → ZN → Prop) : Option ZV → ZN → Prop := fun v m => match v with
  | some (.inr (.inl x)) => K x m
  | _ => False
def zPA (K : Int → ZN → Prop) : Option ZV → ZN → Prop := fun v m => match v with
  | some (.inr (.inr x)) => K x m
  | _ => False
def zPV (K : ZN → Prop) : Option ZV → ZN → Prop := fun v m => match v with
  | none => K m
  | _ => False
theorem zcI_in {d t : Nat} {args : ZS} {m : ZN} {K : Int → ZN → Prop} (h : zwpN d t 0 (zentry t args) [] m (zPI K)) : zcI d t args m K := by
  obtain ⟨n, r, m', h1, h2⟩ := h
  match r, h1, h2 with
  | some (.inl x), h1, h2 => exact ⟨n, x, m', h1, h2⟩
  | none, _, h2 => exact h2.elim
  | some (.inr (.inl _)), _, h2 => exact h2.elim
  | some (.inr (.inr _)), _, h2 => exact h2.elim
theorem zcJ_in {d t : Nat} {args : ZS} {m : ZN} {K : Int → ZN → Prop} (h : zwpN d t 0 (zentry t args) [] m (zPJ K)) : zcJ d t args m K := by
  obtain ⟨n, r, m', h1, h2⟩ := h
  match r, h1, h2 with
  | some (.inr (.inl x)), h1, h2 => exact ⟨n, x, m', h1, h2⟩
  | none, _, h2 => exact h2.elim
  | some (.inl _), _, h2 => exact h2.elim
  | some (.inr (.inr _)), _, h2 => exact h2.elim
theorem zcA_in {d t : Nat} {args : ZS} {m : ZN} {K : Int → ZN → Prop} (h : zwpN d t 0 (zentry t args) [] m (zPA K)) : zcA d t args m K := by
  obtain ⟨n, r, m', h1, h2⟩ := h
  match r, h1, h2 with
  | some (.inr (.inr x)), h1, h2 => exact ⟨n, x, m', h1, h2⟩
  | none, _, h2 => exact h2.elim
  | some (.inl _), _, h2 => exact h2.elim
  | some (.inr (.inl _)), _, h2 => exact h2.elim
theorem zcV_in {d t : Nat} {args : ZS} {m : ZN} {K : ZN → Prop} (h : zwpN d t 0 (zentry t args) [] m (zPV K)) : zcV d t args m K := by
  obtain ⟨n, r, m', h1, h2⟩ := h
  match r, h1, h2 with
  | none, h1, h2 => exact ⟨n, m', h1, h2⟩
  | some (.inl _), _, h2 => exact h2.elim
  | some (.inr (.inl _)), _, h2 => exact h2.elim
  | some (.inr (.inr _)), _, h2 => exact h2.elim
theorem zbody_det {n1 n2 d k pc : Nat} {ls : ZL} {st : ZS} {M : ZM} {x y : Option ZV × ZM} (h1 : zbody n1 d k pc ls st M = some x) (h2 : zbody n2 d k pc ls st M = some y) : x = y := by
  have a := zbody_mono (Nat.le_max_left n1 n2) h1
  have b := zbody_mono (Nat.le_max_right n1 n2) h2
  exact Option.some.inj (a.symm.trans b)
theorem zcI_eq {d t : Nat} {args : ZS} {m m' : ZN} {r : Int} (h : zcI d t args m (fun v m1 => v = r ∧ m1 = m')) (K : Int → ZN → Prop) : zcI d t args m K = K r m' := by
  obtain ⟨n, x, m1, h1, rfl, rfl⟩ := h
  refine propext ⟨fun ⟨n2, y, m2, h3, h4⟩ => ?_, fun h4 => ⟨n, _, _, h1, h4⟩⟩
  have e := zbody_det h1 h3
  obtain ⟨e1, e2⟩ := Prod.mk.inj e
  cases e1
  rw [Subtype.ext e2]
  exact h4
theorem zcJ_eq {d t : Nat} {args : ZS} {m m' : ZN} {r : Int} (h : zcJ d t args m (fun v m1 => v = r ∧ m1 = m')) (K : Int → ZN → Prop) : zcJ d t args m K = K r m' := by
  obtain ⟨n, x, m1, h1, rfl, rfl⟩ := h
  refine propext ⟨fun ⟨n2, y, m2, h3, h4⟩ => ?_, fun h4 => ⟨n, _, _, h1, h4⟩⟩
  have e := zbody_det h1 h3
  obtain ⟨e1, e2⟩ := Prod.mk.inj e
  cases e1
  rw [Subtype.ext e2]
  exact h4
theorem zcA_eq {d t : Nat} {args : ZS} {m m' : ZN} {r : Int} (h : zcA d t args m (fun v m1 => v = r ∧ m1 = m')) (K : Int → ZN → Prop) : zcA d t args m K = K r m' := by
  obtain ⟨n, x, m1, h1, rfl, rfl⟩ := h
  refine propext ⟨fun ⟨n2, y, m2, h3, h4⟩ => ?_, fun h4 => ⟨n, _, _, h1, h4⟩⟩
  have e := zbody_det h1 h3
  obtain ⟨e1, e2⟩ := Prod.mk.inj e
  cases e1
  rw [Subtype.ext e2]
  exact h4
theorem zcV_eq {d t : Nat} {args : ZS} {m m' : ZN} (h : zcV d t args m (fun m1 => m1 = m')) (K : ZN → Prop) : zcV d t args m K = K m' := by
  obtain ⟨n, m1, h1, rfl⟩ := h
  refine propext ⟨fun ⟨n2, m2, h3, h4⟩ => ?_, fun h4 => ⟨n, _, h1, h4⟩⟩
  have e := zbody_det h1 h3
  obtain ⟨e1, e2⟩ := Prod.mk.inj e
  rw [Subtype.ext e2]
  exact h4
/-! ===== the evaluator: what must hold for a run from here to come to P ===== -/
def zck (c K : Prop) : Prop := c ∧ K
def zelem (l : List Nat) (n : Nat) : Bool := match l with
  | [] => false
  | x :: l => bif Nat.beq x n then true else zelem l n
def zpos (a : Int) : Bool := match a with
  | .ofNat _ => true
  | .negSucc _ => false
def zkO (a : Int) (c : Nat) : Bool := Nat.beq (zshF a).1 (10 + c) && decide ((zshF a).2 = 0)
def zkI (a : Int) : Bool := Nat.beq (zshF a).1 0 || Nat.beq (zshF a).1 20 || Nat.beq (zshF a).1 21
def zk0 (a : Int) : Bool := Nat.beq (zshF a).1 0
def zkJ (a : Int) : Bool := Nat.beq (zshF a).1 1
def zkB (a : Int) : Bool := Nat.beq (zshF a).1 2
def zkZ (a : Int) : Bool := Nat.beq (zshF a).1 3
def zkA (a : Int) : Bool := Nat.beq (zshF a).1 4 || Nat.beq (zshF a).1 5
def zkL (a : Int) : Bool := Nat.ble (zshF a).1 5 || Nat.beq (zshF a).1 21
def zln (m : ZN) (a : Int) : Int := match a with
  | .ofNat 0 => zr m 0 (-1)
  | _ => (zshF a).2
def zready1 (t : Nat) (st : ZS) : Option (Int × ZS × ZS) := bif Nat.beq (zkind t) 1 && Nat.ble (znp t + 1) st.length && Nat.ble (zcat (st.drop (znp t + 1))) 8 && Nat.ble (zslots (st.take (znp t + 1)).reverse).length (zmaxL t) && Nat.blt (zcl t) 10 then (match (st.take (znp t + 1)).reverse with
  | .inr (.inr a) :: args => some (a, args, st.drop (znp t + 1))
  | _ => none) else none
def zWret (d t : Nat) (args r : ZS) (m : ZN) (K : ZS → ZN → Prop) : Prop := match zret t with
  | none => zcV d t args m (fun m1 => K r m1)
  | some .int => zcI d t args m (fun x m1 => K (zI x :: r) m1)
  | some .boolean => zcI d t args m (fun x m1 => K (zI x :: r) m1)
  | some .long => zcJ d t args m (fun x m1 => K (zJ x :: r) m1)
  | some (.object _) => zcA d t args m (fun x m1 => K (zA x :: r) m1)
  | _ => False
def zjmp (pc : Nat) (off : Int) : Nat := ((pc : Int) + off).toNat
def zjok (pc : Nat) (off : Int) : Bool := zpos ((pc : Int) + off)
def zWbr (c : ClassFile.Cond) (x y : Int) (A B : Prop) : Prop := match c with
  | .eq => if x = y then A else B
  | .ne => if x = y then B else A
  | .lt => if x < y then A else B
  | .ge => if x < y then B else A
  | .gt => if y < x then A else B
  | .le => if y < x then B else A
def zWtab (x : Int) (D : Prop) (K : Int → Prop) : Int → List Int → Prop
  | _, [] => D
  | lo, o :: os => if x = lo then K o else zWtab x D K (lo + 1) os
def zWlk (x : Int) (D : Prop) (K : Int → Prop) : List (Int × Int) → Prop
  | [] => D
  | q :: l => if x = q.1 then K q.2 else zWlk x D K l
def zpure (i : Instr) : Bool := match i with
  | .iconst _ | .bipush _ | .sipush _ | .lconst _ | .ldc _ | .ldc_w _ | .ldc2_w _ | .iload _ | .iload_n _ | .lload _ | .lload_n _ | .istore _ | .istore_n _ | .lstore _ | .iinc .. | .iadd | .isub | .imul | .ineg | .iand | .ior | .ixor | .ishl | .ishr | .iushr | .lshl | .land | .lor | .lcmp | .i2l | .l2i | .i2b | .i2s | .dup | .pop | .dup_x1 | .dup2 => true
  | _ => false
def zWi (d k : Nat) (i : Instr) (pc : Nat) (ls : ZL) (st : ZS) (m : ZN) (P : Option ZV → ZN → Prop) (K : Nat → ZL → ZS → ZN → Prop) : Prop := match i with
  | .ireturn => (match st with
    | [.inl x] => (match zret k with
      | some .int => P (some (zI x)) m
      | some .boolean => zck (0 ≤ x ∧ x ≤ 1) (P (some (zI x)) m)
      | _ => False)
    | _ => False)
  | .lreturn => (match st with
    | [.inr (.inl x)] => (match zret k with
      | some .long => P (some (zJ x)) m
      | _ => False)
    | _ => False)
  | .areturn => (match st with
    | [.inr (.inr a)] => (bif zretA k && zpos a then P (some (zA a)) m else False)
    | _ => False)
  | .return_ => (match st with
    | [] => (match zret k with
      | none => P none m
      | _ => False)
    | _ => False)
  | .invokestatic j => (match zlk (zMl (zcl k)) j, d with
    | some (t, _, _), e + 1 => (bif Nat.beq t 1001 then (match st with
        | .inl n :: .inl q :: .inr (.inr a) :: .inl p :: .inr (.inr b) :: r => (bif Nat.ble (zshF a).1 2 && Nat.beq (zshF b).1 (zshF a).1 && Nat.ble (zcat r) 8 then zck ((0 ≤ n ∧ 0 ≤ q ∧ 0 ≤ p) ∧ p + n ≤ zln m b ∧ q + n ≤ zln m a) (K (pc + 3) ls r (zcc m a (fun j => if q ≤ j ∧ j < q + n then zr m b (p + (j - q)) else zr m a j))) else False)
        | _ => False)
      else bif Nat.beq t 1002 || Nat.beq t 1003 then (match st with
        | .inl y :: .inl x :: r => (bif Nat.ble (zcat r) 8 then (bif Nat.beq t 1002 then K (pc + 3) ls (zI (max x y) :: r) m else K (pc + 3) ls (zI (min x y) :: r) m) else False)
        | _ => False)
      else (match zready 0 t st with
        | some (args, r) => zWret e t args r m (K (pc + 3) ls)
        | none => False))
    | _, _ => False)
  | .invokevirtual j => (match zlk (zMl (zcl k)) j, d with
    | some (t, _, _), e + 1 => (bif Nat.beq t 1004 then (match st with
        | .inl i :: .inr (.inr a) :: r => (bif Nat.ble (zcat r) 8 then zck (4 ≤ e + 1 ∧ ((a = -2 ∧ 0 ≤ i ∧ i < 4) ∨ (a = -3 ∧ 0 ≤ i ∧ i < 2))) (K (pc + 3) ls (zI (zchr a i) :: r) m) else False)
        | _ => False) else match zready1 t st with
        | some (a, args, r) => (bif zkO a (zcl t) then zWret e t (zA a :: args) r m (K (pc + 3) ls) else False)
        | none => False)
    | _, _ => False)
  | .getfield j => (match zlk (zFl (zcl k)) j, st with
    | some (ci, f, _), .inr (.inr a) :: r => (bif zkO a ci then (match ztag (ztyX ci f) (zrd m a f) with
        | some v => K (pc + 3) ls (v :: r) m
        | none => False) else False)
    | _, _ => False)
  | .putfield j => (match zlk (zFl (zcl k)) j, st with
    | some (ci, f, _), .inl x :: .inr (.inr a) :: r => (bif zkO a ci && zfin k ci f && znp' a f then (match ztyX ci f with
        | .int => K (pc + 3) ls r (zsn m a f x)
        | .boolean => zck (0 ≤ x ∧ x ≤ 1) (K (pc + 3) ls r (zsn m a f x))
        | _ => False) else False)
    | _, _ => False)
  | .getstatic n => (match zlk (zSl (zcl k)) n with
    | some (w, _) => K (pc + 3) ls (zA (w : Int) :: st) m
    | none => False)
  | .iaload => (match st with
    | .inl i :: .inr (.inr a) :: r => (bif zkI a then zck (0 ≤ i ∧ i < zln m a) (K (pc + 1) ls (zI (zrd m a i) :: r) m) else False)
    | _ => False)
  | .baload => (match st with
    | .inl i :: .inr (.inr a) :: r => (bif zkB a || zkZ a then zck (0 ≤ i ∧ i < zln m a) (K (pc + 1) ls (zI (zrd m a i) :: r) m) else False)
    | _ => False)
  | .laload => (match st with
    | .inl i :: .inr (.inr a) :: r => (bif zkJ a then zck (0 ≤ i ∧ i < zln m a) (K (pc + 1) ls (zJ (zrd m a i) :: r) m) else False)
    | _ => False)
  | .aaload => (match st with
    | .inl i :: .inr (.inr a) :: r => (bif zkA a then zck (0 ≤ i ∧ i < zln m a) (K (pc + 1) ls (zA (zrd m a i) :: r) m) else False)
    | _ => False)
  | .iastore => (match st with
    | .inl x :: .inl i :: .inr (.inr a) :: r => (bif zk0 a then zck (0 ≤ i ∧ i < zln m a) (K (pc + 1) ls r (zsn m a i x)) else False)
    | _ => False)
  | .bastore => (match st with
    | .inl x :: .inl i :: .inr (.inr a) :: r => (bif zkB a then zck ((-128 ≤ x ∧ x ≤ 127) ∧ 0 ≤ i ∧ i < zln m a) (K (pc + 1) ls r (zsn m a i x)) else bif zkZ a then zck ((0 ≤ x ∧ x ≤ 1) ∧ 0 ≤ i ∧ i < zln m a) (K (pc + 1) ls r (zsn m a i x)) else False)
    | _ => False)
  | .lastore => (match st with
    | .inr (.inl x) :: .inl i :: .inr (.inr a) :: r => (bif zkJ a then zck (0 ≤ i ∧ i < zln m a) (K (pc + 1) ls r (zsn m a i x)) else False)
    | _ => False)
  | .arraylength => (match st with
    | .inr (.inr a) :: r => (bif zkL a then K (pc + 1) ls (zI (zln m a) :: r) m else False)
    | _ => False)
  | .idiv => (match st with
    | .inl y :: .inl x :: r => zck (¬ y = 0) (K (pc + 1) ls (zI (zb (Int.tdiv x y)) :: r) m)
    | _ => False)
  | .irem => (match st with
    | .inl y :: .inl x :: r => zck (¬ y = 0) (K (pc + 1) ls (zI (Int.tmod x y) :: r) m)
    | _ => False)
  | .aload n => (match zget ls n with
    | some (.inr (.inr x)) => (bif zpos x then K (pc + 2) ls (zA x :: st) m else False)
    | _ => False)
  | .aload_n n => (match zget ls n.val with
    | some (.inr (.inr x)) => (bif zpos x then K (pc + 1) ls (zA x :: st) m else False)
    | _ => False)
  | .astore n => (match st with
    | .inr (.inr x) :: r => (bif zpos x && Nat.blt n ls.length then K (pc + 2) (zput ls n (zA x)) r m else False)
    | _ => False)
  | .astore_n n => (match st with
    | .inr (.inr x) :: r => (bif zpos x && Nat.blt n.val ls.length then K (pc + 1) (zput ls n.val (zA x)) r m else False)
    | _ => False)
  | .goto off => (bif zjok pc off then K (zjmp pc off) ls st m else False)
  | .ifCond c off => (match st with
    | .inl x :: r => (bif zjok pc off then zWbr c x 0 (K (zjmp pc off) ls r m) (K (pc + 3) ls r m) else False)
    | _ => False)
  | .if_icmp c off => (match st with
    | .inl y :: .inl x :: r => (bif zjok pc off then zWbr c x y (K (zjmp pc off) ls r m) (K (pc + 3) ls r m) else False)
    | _ => False)
  | .tableswitch df lo hi offs => (match st with
    | .inl x :: r => (bif zjok pc df && offs.toList.all (zjok pc) && decide (hi - lo + 1 = (offs.toList.length : Int)) then zWtab x (K (zjmp pc df) ls r m) (fun o => K (zjmp pc o) ls r m) lo offs.toList else False)
    | _ => False)
  | .lookupswitch df ps => (match st with
    | .inl x :: r => (bif zjok pc df && ps.toList.all (fun q => zjok pc q.2) && (ps.toList.zip (ps.toList.drop 1)).all (fun (a, next) => a.1 < next.1) then zWlk x (K (zjmp pc df) ls r m) (fun o => K (zjmp pc o) ls r m) ps.toList else False)
    | _ => False)
  | i => (bif zpure i then (match zstep k i pc ls st m.1 with
    | some (pc', ls', st', _) => K pc' ls' st' m
    | none => False) else False)
def zX (cut : List Nat) : Nat → Nat → Nat → Nat → ZL → ZS → ZN → (Option ZV → ZN → Prop) → Prop
  | 0, d, k, pc, ls, st, m, P => zwpN d k pc ls st m P
  | n + 1, d, k, pc, ls, st, m, P => match zins k pc with
    | none => False
    | some (i, len) => (bif zlenOk i len then zWi d k i pc ls st m P (fun pc' ls' st' m' => bif zelem cut pc' then zwpN d k pc' ls' st' m' P else zX cut n d k pc' ls' st' m' P) else False)
