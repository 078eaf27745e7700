/-! THE MODEL'S TOKENS -/
def mt (r c : Nat) : Nat := if c < 3 then c else if c < 200 then 100 + c else if r = 2 then (if c = 217 then 7 else if c = 218 then 8 else if 219 ≤ c ∧ c ≤ 223 then c - 209 else 1) else if c = 205 then 3 else if c = 206 then 4 else if c = 207 then 5 else if c = 208 then 6 else if c = 203 then 48 else if 209 ≤ c ∧ c ≤ 215 then c - 168 else if c = 216 then 49 else if c = 200 ∧ r = 0 then 20 else if c = 201 ∧ r = 0 then 21 else if c = 202 ∧ r = 1 then 22 else if c = 204 ∧ r = 1 then 24 else 1
/-- a tape as the model has it, its place p -/
def TM (tp : Nat → Nat) (n : Nat) (h : pm_Hp) : Prop := h 169 18 = nI n ∧ ∀ i, i < n → h 177 i = nI (tp i)
theorem TM.to {tp : Nat → Nat} {n : Nat} {h h' : pm_Hp} (e : h' 169 18 = h 169 18) (e2 : h' 177 = h 177) (t : TM tp n h) : TM tp n h' := ⟨by rw [e]; exact t.1, fun i hi => by rw [e2]; exact t.2 i hi⟩
theorem is_gen {d n p e s : Nat} {tp : Nat → Nat} {h : pm_Hp} {bs : List Nat} (hlen : ∀ h, pm_ev d 299 [.ref s] h = some (nI bs.length, h)) (hchr : ∀ h k, k < bs.length → pm_ev d 300 [.ref s, .int (nI k)] h = some (nI (bs.getD k 0), h)) (hE : ∀ h, pm_ev (d + 1) 181 [.ref 169, .ref s] h = pm_bd (pm_ev d 299 [.ref s] h) fun r1 y1 => if (h 169 19) - (h 169 21) = r1 then (pm_rn d kX10_is 24 [.ref 169, .ref s, .int 1, .int 0] [] y1) else (pm_rn d kX10_is 24 [.ref 169, .ref s, .int 0, .int 0] [] y1)) (hB : ∀ h v2 v3, pm_rn d kX10_is 24 [.ref 169, .ref s, .int v2, .int v3] [] h = pm_bd (pm_ev d 299 [.ref s] h) fun r1 y1 => if v3 < r1 then (if v2 = 0 then (pm_bw v2 (some (v2, y1))) else (pm_at ((y1 169 21) + v3) 400 fun j1 => pm_bd (pm_ev d 300 [.ref s, .int v3] y1) fun r2 y2 => if y1 177 j1 = r2 then (pm_rn d kX10_is 24 [.ref 169, .ref s, .int 1, .int (v3 + 1)] [] y2) else (pm_rn d kX10_is 24 [.ref 169, .ref s, .int 0, .int (v3 + 1)] [] y2))) else (pm_bw v2 (some (v2, y1)))) (hbs : ∀ k, k < bs.length → bs.getD k 0 < 256) (hl : bs.length ≤ 10) (t : TM tp n h) (hb : ∀ i, tp i < 256) (e21 : h 169 21 = nI p) (e19 : h 169 19 = nI e) (hp : p ≤ e) (he : e ≤ n) (hn : n ≤ 400) : pm_ev (d + 1) 181 [.ref 169, .ref s] h = some (b2 (wbs tp p (e - p) = bs), h) := by
  have z : ∀ v3, pm_rn d kX10_is 24 [.ref 169, .ref s, .int 0, .int v3] [] h = some (0, h) := fun v3 => by
    rw [hB, hlen, pm_bd_s, pm_bw_0]
    by_cases g : v3 < nI bs.length
    · rw [if_pos g, if_pos rfl]
    · rw [if_neg g]
  have key : e - p = bs.length → ∀ (m k : Nat), k + m = bs.length → (∀ x, x < k → tp (p + x) = bs.getD x 0) → pm_rn d kX10_is 24 [.ref 169, .ref s, .int 1, .int (nI k)] [] h = some (b2 (wbs tp p (e - p) = bs), h) := by
    intro hlen' m
    induction m with
    | zero =>
      intro k hk hx
      rw [hB, hlen, pm_bd_s, if_neg (nI_nlt (by omega) (by omega)), pm_bw_1, b2_t (wbs_eq.mpr ⟨hlen', fun x h1 => hx x (by omega)⟩)]
    | succ m ih =>
      intro k hk hx
      have b1 := hb (p + k)
      have b2' := hbs k (by omega)
      rw [hB, hlen, pm_bd_s, if_pos (nI_lt (by omega) (by omega)), if_neg (by decide), e21, pm_at_n (j := p + k) (by rw [nI_add]) (by omega) (by omega), hchr h k (by omega), pm_bd_s, t.2 _ (by omega), nI_ite (by omega) (by omega), nI_1]
      by_cases g : tp (p + k) = bs.getD k 0
      · rw [if_pos g]
        refine ih (k + 1) (by omega) (fun x h1 => ?_)
        by_cases ex : x = k
        · rw [ex]; exact g
        · exact hx x (by omega)
      · rw [if_neg g, z, b2_f (fun q => g ((wbs_eq.mp q).2 k (by omega)))]
  rw [hE, hlen, pm_bd_s, e19, e21, pk_sub hp, nI_ite (by omega) (by omega)]
  by_cases g : e - p = bs.length
  · rw [if_pos g]
    exact key g bs.length 0 (by omega) (fun x hx => absurd hx (Nat.not_lt_zero x))
  · rw [if_neg g, z, b2_f (fun q => g (wbs_eq.mp q).1)]
theorem is_402 {d n p e : Nat} {tp : Nat → Nat} {h : pm_Hp} (hd : 3 ≤ d) (t : TM tp n h) (hb : ∀ i, tp i < 256) (e21 : h 169 21 = nI p) (e19 : h 169 19 = nI e) (hp : p ≤ e) (he : e ≤ n) (hn : n ≤ 400) : pm_ev d 181 [.ref 169, .ref 402] h = some (b2 (wbs tp p (e - p) = [115, 99, 101, 110, 101]), h) := by
  obtain ⟨d, rfl, -⟩ := dpos hd
  exact is_gen (fun h => len_402 (by omega)) (fun h k hk => by rw [chr_402 (by omega) hk, (by decide : ∀ k, k < 5 → (bytJS.getD 2 []).getD k 0 = nI (([115, 99, 101, 110, 101] : List Nat).getD k 0)) k hk]) (fun h => e_X10_is_402 d h) (fun h v2 v3 => b_X10_is_402_24 d h v2 v3) (by decide) (by decide) t hb e21 e19 hp he hn
theorem is_403 {d n p e : Nat} {tp : Nat → Nat} {h : pm_Hp} (hd : 3 ≤ d) (t : TM tp n h) (hb : ∀ i, tp i < 256) (e21 : h 169 21 = nI p) (e19 : h 169 19 = nI e) (hp : p ≤ e) (he : e ≤ n) (hn : n ≤ 400) : pm_ev d 181 [.ref 169, .ref 403] h = some (b2 (wbs tp p (e - p) = [119, 101, 97, 114]), h) := by
  obtain ⟨d, rfl, -⟩ := dpos hd
  exact is_gen (fun h => len_403 (by omega)) (fun h k hk => by rw [chr_403 (by omega) hk, (by decide : ∀ k, k < 4 → (bytJS.getD 3 []).getD k 0 = nI (([119, 101, 97, 114] : List Nat).getD k 0)) k hk]) (fun h => e_X10_is_403 d h) (fun h v2 v3 => b_X10_is_403_24 d h v2 v3) (by decide) (by decide) t hb e21 e19 hp he hn
theorem is_404 {d n p e : Nat} {tp : Nat → Nat} {h : pm_Hp} (hd : 3 ≤ d) (t : TM tp n h) (hb : ∀ i, tp i < 256) (e21 : h 169 21 = nI p) (e19 : h 169 19 = nI e) (hp : p ≤ e) (he : e ≤ n) (hn : n ≤ 400) : pm_ev d 181 [.ref 169, .ref 404] h = some (b2 (wbs tp p (e - p) = [100, 114, 101, 115, 115]), h) := by
  obtain ⟨d, rfl, -⟩ := dpos hd
  exact is_gen (fun h => len_404 (by omega)) (fun h k hk => by rw [chr_404 (by omega) hk, (by decide : ∀ k, k < 5 → (bytJS.getD 4 []).getD k 0 = nI (([100, 114, 101, 115, 115] : List Nat).getD k 0)) k hk]) (fun h => e_X10_is_404 d h) (fun h v2 v3 => b_X10_is_404_24 d h v2 v3) (by decide) (by decide) t hb e21 e19 hp he hn
theorem is_405 {d n p e : Nat} {tp : Nat → Nat} {h : pm_Hp} (hd : 3 ≤ d) (t : TM tp n h) (hb : ∀ i, tp i < 256) (e21 : h 169 21 = nI p) (e19 : h 169 19 = nI e) (hp : p ≤ e) (he : e ≤ n) (hn : n ≤ 400) : pm_ev d 181 [.ref 169, .ref 405] h = some (b2 (wbs tp p (e - p) = [99, 111, 97, 116]), h) := by
  obtain ⟨d, rfl, -⟩ := dpos hd
  exact is_gen (fun h => len_405 (by omega)) (fun h k hk => by rw [chr_405 (by omega) hk, (by decide : ∀ k, k < 4 → (bytJS.getD 5 []).getD k 0 = nI (([99, 111, 97, 116] : List Nat).getD k 0)) k hk]) (fun h => e_X10_is_405 d h) (fun h v2 v3 => b_X10_is_405_24 d h v2 v3) (by decide) (by decide) t hb e21 e19 hp he hn
theorem is_406 {d n p e : Nat} {tp : Nat → Nat} {h : pm_Hp} (hd : 3 ≤ d) (t : TM tp n h) (hb : ∀ i, tp i < 256) (e21 : h 169 21 = nI p) (e19 : h 169 19 = nI e) (hp : p ≤ e) (he : e ≤ n) (hn : n ≤ 400) : pm_ev d 181 [.ref 169, .ref 406] h = some (b2 (wbs tp p (e - p) = [117, 110, 105, 102, 111, 114, 109]), h) := by
  obtain ⟨d, rfl, -⟩ := dpos hd
  exact is_gen (fun h => len_406 (by omega)) (fun h k hk => by rw [chr_406 (by omega) hk, (by decide : ∀ k, k < 7 → (bytJS.getD 6 []).getD k 0 = nI (([117, 110, 105, 102, 111, 114, 109] : List Nat).getD k 0)) k hk]) (fun h => e_X10_is_406 d h) (fun h v2 v3 => b_X10_is_406_24 d h v2 v3) (by decide) (by decide) t hb e21 e19 hp he hn
theorem is_407 {d n p e : Nat} {tp : Nat → Nat} {h : pm_Hp} (hd : 3 ≤ d) (t : TM tp n h) (hb : ∀ i, tp i < 256) (e21 : h 169 21 = nI p) (e19 : h 169 19 = nI e) (hp : p ≤ e) (he : e ≤ n) (hn : n ≤ 400) : pm_ev d 181 [.ref 169, .ref 407] h = some (b2 (wbs tp p (e - p) = [109, 97, 115, 107]), h) := by
  obtain ⟨d, rfl, -⟩ := dpos hd
  exact is_gen (fun h => len_407 (by omega)) (fun h k hk => by rw [chr_407 (by omega) hk, (by decide : ∀ k, k < 4 → (bytJS.getD 7 []).getD k 0 = nI (([109, 97, 115, 107] : List Nat).getD k 0)) k hk]) (fun h => e_X10_is_407 d h) (fun h v2 v3 => b_X10_is_407_24 d h v2 v3) (by decide) (by decide) t hb e21 e19 hp he hn
theorem is_408 {d n p e : Nat} {tp : Nat → Nat} {h : pm_Hp} (hd : 3 ≤ d) (t : TM tp n h) (hb : ∀ i, tp i < 256) (e21 : h 169 21 = nI p) (e19 : h 169 19 = nI e) (hp : p ≤ e) (he : e ≤ n) (hn : n ≤ 400) : pm_ev d 181 [.ref 169, .ref 408] h = some (b2 (wbs tp p (e - p) = [115, 101, 116]), h) := by
  obtain ⟨d, rfl, -⟩ := dpos hd
  exact is_gen (fun h => len_408 (by omega)) (fun h k hk => by rw [chr_408 (by omega) hk, (by decide : ∀ k, k < 3 → (bytJS.getD 8 []).getD k 0 = nI (([115, 101, 116] : List Nat).getD k 0)) k hk]) (fun h => e_X10_is_408 d h) (fun h v2 v3 => b_X10_is_408_24 d h v2 v3) (by decide) (by decide) t hb e21 e19 hp he hn
theorem is_409 {d n p e : Nat} {tp : Nat → Nat} {h : pm_Hp} (hd : 3 ≤ d) (t : TM tp n h) (hb : ∀ i, tp i < 256) (e21 : h 169 21 = nI p) (e19 : h 169 19 = nI e) (hp : p ≤ e) (he : e ≤ n) (hn : n ≤ 400) : pm_ev d 181 [.ref 169, .ref 409] h = some (b2 (wbs tp p (e - p) = [119, 104, 101, 110]), h) := by
  obtain ⟨d, rfl, -⟩ := dpos hd
  exact is_gen (fun h => len_409 (by omega)) (fun h k hk => by rw [chr_409 (by omega) hk, (by decide : ∀ k, k < 4 → (bytJS.getD 9 []).getD k 0 = nI (([119, 104, 101, 110] : List Nat).getD k 0)) k hk]) (fun h => e_X10_is_409 d h) (fun h v2 v3 => b_X10_is_409_24 d h v2 v3) (by decide) (by decide) t hb e21 e19 hp he hn
theorem is_410 {d n p e : Nat} {tp : Nat → Nat} {h : pm_Hp} (hd : 3 ≤ d) (t : TM tp n h) (hb : ∀ i, tp i < 256) (e21 : h 169 21 = nI p) (e19 : h 169 19 = nI e) (hp : p ≤ e) (he : e ≤ n) (hn : n ≤ 400) : pm_ev d 181 [.ref 169, .ref 410] h = some (b2 (wbs tp p (e - p) = [111, 114]), h) := by
  obtain ⟨d, rfl, -⟩ := dpos hd
  exact is_gen (fun h => len_410 (by omega)) (fun h k hk => by rw [chr_410 (by omega) hk, (by decide : ∀ k, k < 2 → (bytJS.getD 10 []).getD k 0 = nI (([111, 114] : List Nat).getD k 0)) k hk]) (fun h => e_X10_is_410 d h) (fun h v2 v3 => b_X10_is_410_24 d h v2 v3) (by decide) (by decide) t hb e21 e19 hp he hn
theorem is_411 {d n p e : Nat} {tp : Nat → Nat} {h : pm_Hp} (hd : 3 ≤ d) (t : TM tp n h) (hb : ∀ i, tp i < 256) (e21 : h 169 21 = nI p) (e19 : h 169 19 = nI e) (hp : p ≤ e) (he : e ≤ n) (hn : n ≤ 400) : pm_ev d 181 [.ref 169, .ref 411] h = some (b2 (wbs tp p (e - p) = [97, 110, 100]), h) := by
  obtain ⟨d, rfl, -⟩ := dpos hd
  exact is_gen (fun h => len_411 (by omega)) (fun h k hk => by rw [chr_411 (by omega) hk, (by decide : ∀ k, k < 3 → (bytJS.getD 11 []).getD k 0 = nI (([97, 110, 100] : List Nat).getD k 0)) k hk]) (fun h => e_X10_is_411 d h) (fun h v2 v3 => b_X10_is_411_24 d h v2 v3) (by decide) (by decide) t hb e21 e19 hp he hn
theorem is_412 {d n p e : Nat} {tp : Nat → Nat} {h : pm_Hp} (hd : 3 ≤ d) (t : TM tp n h) (hb : ∀ i, tp i < 256) (e21 : h 169 21 = nI p) (e19 : h 169 19 = nI e) (hp : p ≤ e) (he : e ≤ n) (hn : n ≤ 400) : pm_ev d 181 [.ref 169, .ref 412] h = some (b2 (wbs tp p (e - p) = [110, 111, 116]), h) := by
  obtain ⟨d, rfl, -⟩ := dpos hd
  exact is_gen (fun h => len_412 (by omega)) (fun h k hk => by rw [chr_412 (by omega) hk, (by decide : ∀ k, k < 3 → (bytJS.getD 12 []).getD k 0 = nI (([110, 111, 116] : List Nat).getD k 0)) k hk]) (fun h => e_X10_is_412 d h) (fun h v2 v3 => b_X10_is_412_24 d h v2 v3) (by decide) (by decide) t hb e21 e19 hp he hn
theorem is_413 {d n p e : Nat} {tp : Nat → Nat} {h : pm_Hp} (hd : 3 ≤ d) (t : TM tp n h) (hb : ∀ i, tp i < 256) (e21 : h 169 21 = nI p) (e19 : h 169 19 = nI e) (hp : p ≤ e) (he : e ≤ n) (hn : n ≤ 400) : pm_ev d 181 [.ref 169, .ref 413] h = some (b2 (wbs tp p (e - p) = [99, 111, 115, 116]), h) := by
  obtain ⟨d, rfl, -⟩ := dpos hd
  exact is_gen (fun h => len_413 (by omega)) (fun h k hk => by rw [chr_413 (by omega) hk, (by decide : ∀ k, k < 4 → (bytJS.getD 13 []).getD k 0 = nI (([99, 111, 115, 116] : List Nat).getD k 0)) k hk]) (fun h => e_X10_is_413 d h) (fun h v2 v3 => b_X10_is_413_24 d h v2 v3) (by decide) (by decide) t hb e21 e19 hp he hn
theorem is_414 {d n p e : Nat} {tp : Nat → Nat} {h : pm_Hp} (hd : 3 ≤ d) (t : TM tp n h) (hb : ∀ i, tp i < 256) (e21 : h 169 21 = nI p) (e19 : h 169 19 = nI e) (hp : p ≤ e) (he : e ≤ n) (hn : n ≤ 400) : pm_ev d 181 [.ref 169, .ref 414] h = some (b2 (wbs tp p (e - p) = [109, 101, 110, 100]), h) := by
  obtain ⟨d, rfl, -⟩ := dpos hd
  exact is_gen (fun h => len_414 (by omega)) (fun h k hk => by rw [chr_414 (by omega) hk, (by decide : ∀ k, k < 4 → (bytJS.getD 14 []).getD k 0 = nI (([109, 101, 110, 100] : List Nat).getD k 0)) k hk]) (fun h => e_X10_is_414 d h) (fun h v2 v3 => b_X10_is_414_24 d h v2 v3) (by decide) (by decide) t hb e21 e19 hp he hn
theorem is_415 {d n p e : Nat} {tp : Nat → Nat} {h : pm_Hp} (hd : 3 ≤ d) (t : TM tp n h) (hb : ∀ i, tp i < 256) (e21 : h 169 21 = nI p) (e19 : h 169 19 = nI e) (hp : p ≤ e) (he : e ≤ n) (hn : n ≤ 400) : pm_ev d 181 [.ref 169, .ref 415] h = some (b2 (wbs tp p (e - p) = [116, 101, 97, 114]), h) := by
  obtain ⟨d, rfl, -⟩ := dpos hd
  exact is_gen (fun h => len_415 (by omega)) (fun h k hk => by rw [chr_415 (by omega) hk, (by decide : ∀ k, k < 4 → (bytJS.getD 15 []).getD k 0 = nI (([116, 101, 97, 114] : List Nat).getD k 0)) k hk]) (fun h => e_X10_is_415 d h) (fun h v2 v3 => b_X10_is_415_24 d h v2 v3) (by decide) (by decide) t hb e21 e19 hp he hn
theorem is_416 {d n p e : Nat} {tp : Nat → Nat} {h : pm_Hp} (hd : 3 ≤ d) (t : TM tp n h) (hb : ∀ i, tp i < 256) (e21 : h 169 21 = nI p) (e19 : h 169 19 = nI e) (hp : p ≤ e) (he : e ≤ n) (hn : n ≤ 400) : pm_ev d 181 [.ref 169, .ref 416] h = some (b2 (wbs tp p (e - p) = [99, 104, 97, 110, 103, 101]), h) := by
  obtain ⟨d, rfl, -⟩ := dpos hd
  exact is_gen (fun h => len_416 (by omega)) (fun h k hk => by rw [chr_416 (by omega) hk, (by decide : ∀ k, k < 6 → (bytJS.getD 16 []).getD k 0 = nI (([99, 104, 97, 110, 103, 101] : List Nat).getD k 0)) k hk]) (fun h => e_X10_is_416 d h) (fun h v2 v3 => b_X10_is_416_24 d h v2 v3) (by decide) (by decide) t hb e21 e19 hp he hn
theorem is_417 {d n p e : Nat} {tp : Nat → Nat} {h : pm_Hp} (hd : 3 ≤ d) (t : TM tp n h) (hb : ∀ i, tp i < 256) (e21 : h 169 21 = nI p) (e19 : h 169 19 = nI e) (hp : p ≤ e) (he : e ≤ n) (hn : n ≤ 400) : pm_ev d 181 [.ref 169, .ref 417] h = some (b2 (wbs tp p (e - p) = [98, 121]), h) := by
  obtain ⟨d, rfl, -⟩ := dpos hd
  exact is_gen (fun h => len_417 (by omega)) (fun h k hk => by rw [chr_417 (by omega) hk, (by decide : ∀ k, k < 2 → (bytJS.getD 17 []).getD k 0 = nI (([98, 121] : List Nat).getD k 0)) k hk]) (fun h => e_X10_is_417 d h) (fun h v2 v3 => b_X10_is_417_24 d h v2 v3) (by decide) (by decide) t hb e21 e19 hp he hn
theorem is_418 {d n p e : Nat} {tp : Nat → Nat} {h : pm_Hp} (hd : 3 ≤ d) (t : TM tp n h) (hb : ∀ i, tp i < 256) (e21 : h 169 21 = nI p) (e19 : h 169 19 = nI e) (hp : p ≤ e) (he : e ≤ n) (hn : n ≤ 400) : pm_ev d 181 [.ref 169, .ref 418] h = some (b2 (wbs tp p (e - p) = [111, 117, 116]), h) := by
  obtain ⟨d, rfl, -⟩ := dpos hd
  exact is_gen (fun h => len_418 (by omega)) (fun h k hk => by rw [chr_418 (by omega) hk, (by decide : ∀ k, k < 3 → (bytJS.getD 18 []).getD k 0 = nI (([111, 117, 116] : List Nat).getD k 0)) k hk]) (fun h => e_X10_is_418 d h) (fun h v2 v3 => b_X10_is_418_24 d h v2 v3) (by decide) (by decide) t hb e21 e19 hp he hn
theorem is_419 {d n p e : Nat} {tp : Nat → Nat} {h : pm_Hp} (hd : 3 ≤ d) (t : TM tp n h) (hb : ∀ i, tp i < 256) (e21 : h 169 21 = nI p) (e19 : h 169 19 = nI e) (hp : p ≤ e) (he : e ≤ n) (hn : n ≤ 400) : pm_ev d 181 [.ref 169, .ref 419] h = some (b2 (wbs tp p (e - p) = [109, 101, 97, 115, 117, 114, 101]), h) := by
  obtain ⟨d, rfl, -⟩ := dpos hd
  exact is_gen (fun h => len_419 (by omega)) (fun h k hk => by rw [chr_419 (by omega) hk, (by decide : ∀ k, k < 7 → (bytJS.getD 19 []).getD k 0 = nI (([109, 101, 97, 115, 117, 114, 101] : List Nat).getD k 0)) k hk]) (fun h => e_X10_is_419 d h) (fun h v2 v3 => b_X10_is_419_24 d h v2 v3) (by decide) (by decide) t hb e21 e19 hp he hn
theorem is_420 {d n p e : Nat} {tp : Nat → Nat} {h : pm_Hp} (hd : 3 ≤ d) (t : TM tp n h) (hb : ∀ i, tp i < 256) (e21 : h 169 21 = nI p) (e19 : h 169 19 = nI e) (hp : p ≤ e) (he : e ≤ n) (hn : n ≤ 400) : pm_ev d 181 [.ref 169, .ref 420] h = some (b2 (wbs tp p (e - p) = [107, 105, 110, 100]), h) := by
  obtain ⟨d, rfl, -⟩ := dpos hd
  exact is_gen (fun h => len_420 (by omega)) (fun h k hk => by rw [chr_420 (by omega) hk, (by decide : ∀ k, k < 4 → (bytJS.getD 20 []).getD k 0 = nI (([107, 105, 110, 100] : List Nat).getD k 0)) k hk]) (fun h => e_X10_is_420 d h) (fun h v2 v3 => b_X10_is_420_24 d h v2 v3) (by decide) (by decide) t hb e21 e19 hp he hn
theorem is_421 {d n p e : Nat} {tp : Nat → Nat} {h : pm_Hp} (hd : 3 ≤ d) (t : TM tp n h) (hb : ∀ i, tp i < 256) (e21 : h 169 21 = nI p) (e19 : h 169 19 = nI e) (hp : p ≤ e) (he : e ≤ n) (hn : n ≤ 400) : pm_ev d 181 [.ref 169, .ref 421] h = some (b2 (wbs tp p (e - p) = [108, 101, 116, 115]), h) := by
  obtain ⟨d, rfl, -⟩ := dpos hd
  exact is_gen (fun h => len_421 (by omega)) (fun h k hk => by rw [chr_421 (by omega) hk, (by decide : ∀ k, k < 4 → (bytJS.getD 21 []).getD k 0 = nI (([108, 101, 116, 115] : List Nat).getD k 0)) k hk]) (fun h => e_X10_is_421 d h) (fun h v2 v3 => b_X10_is_421_24 d h v2 v3) (by decide) (by decide) t hb e21 e19 hp he hn
theorem is_422 {d n p e : Nat} {tp : Nat → Nat} {h : pm_Hp} (hd : 3 ≤ d) (t : TM tp n h) (hb : ∀ i, tp i < 256) (e21 : h 169 21 = nI p) (e19 : h 169 19 = nI e) (hp : p ≤ e) (he : e ≤ n) (hn : n ≤ 400) : pm_ev d 181 [.ref 169, .ref 422] h = some (b2 (wbs tp p (e - p) = [116, 111, 114, 110]), h) := by
  obtain ⟨d, rfl, -⟩ := dpos hd
  exact is_gen (fun h => len_422 (by omega)) (fun h k hk => by rw [chr_422 (by omega) hk, (by decide : ∀ k, k < 4 → (bytJS.getD 22 []).getD k 0 = nI (([116, 111, 114, 110] : List Nat).getD k 0)) k hk]) (fun h => e_X10_is_422 d h) (fun h v2 v3 => b_X10_is_422_24 d h v2 v3) (by decide) (by decide) t hb e21 e19 hp he hn
theorem is_423 {d n p e : Nat} {tp : Nat → Nat} {h : pm_Hp} (hd : 3 ≤ d) (t : TM tp n h) (hb : ∀ i, tp i < 256) (e21 : h 169 21 = nI p) (e19 : h 169 19 = nI e) (hp : p ≤ e) (he : e ≤ n) (hn : n ≤ 400) : pm_ev d 181 [.ref 169, .ref 423] h = some (b2 (wbs tp p (e - p) = [119, 111, 114, 110]), h) := by
  obtain ⟨d, rfl, -⟩ := dpos hd
  exact is_gen (fun h => len_423 (by omega)) (fun h k hk => by rw [chr_423 (by omega) hk, (by decide : ∀ k, k < 4 → (bytJS.getD 23 []).getD k 0 = nI (([119, 111, 114, 110] : List Nat).getD k 0)) k hk]) (fun h => e_X10_is_423 d h) (fun h v2 v3 => b_X10_is_423_24 d h v2 v3) (by decide) (by decide) t hb e21 e19 hp he hn
theorem is_424 {d n p e : Nat} {tp : Nat → Nat} {h : pm_Hp} (hd : 3 ≤ d) (t : TM tp n h) (hb : ∀ i, tp i < 256) (e21 : h 169 21 = nI p) (e19 : h 169 19 = nI e) (hp : p ≤ e) (he : e ≤ n) (hn : n ≤ 400) : pm_ev d 181 [.ref 169, .ref 424] h = some (b2 (wbs tp p (e - p) = [100, 105, 114, 116]), h) := by
  obtain ⟨d, rfl, -⟩ := dpos hd
  exact is_gen (fun h => len_424 (by omega)) (fun h k hk => by rw [chr_424 (by omega) hk, (by decide : ∀ k, k < 4 → (bytJS.getD 24 []).getD k 0 = nI (([100, 105, 114, 116] : List Nat).getD k 0)) k hk]) (fun h => e_X10_is_424 d h) (fun h v2 v3 => b_X10_is_424_24 d h v2 v3) (by decide) (by decide) t hb e21 e19 hp he hn
theorem is_425 {d n p e : Nat} {tp : Nat → Nat} {h : pm_Hp} (hd : 3 ≤ d) (t : TM tp n h) (hb : ∀ i, tp i < 256) (e21 : h 169 21 = nI p) (e19 : h 169 19 = nI e) (hp : p ≤ e) (he : e ≤ n) (hn : n ≤ 400) : pm_ev d 181 [.ref 169, .ref 425] h = some (b2 (wbs tp p (e - p) = [110, 101, 120, 116]), h) := by
  obtain ⟨d, rfl, -⟩ := dpos hd
  exact is_gen (fun h => len_425 (by omega)) (fun h k hk => by rw [chr_425 (by omega) hk, (by decide : ∀ k, k < 4 → (bytJS.getD 25 []).getD k 0 = nI (([110, 101, 120, 116] : List Nat).getD k 0)) k hk]) (fun h => e_X10_is_425 d h) (fun h v2 v3 => b_X10_is_425_24 d h v2 v3) (by decide) (by decide) t hb e21 e19 hp he hn
theorem m_law0 {d n p e : Nat} {tp : Nat → Nat} {h : pm_Hp} (hd : 5 ≤ d) (t : TM tp n h) (hb : ∀ i, tp i < 256) (e21 : h 169 21 = nI p) (e19 : h 169 19 = nI e) (hp : p ≤ e) (he : e ≤ n) (hn : n ≤ 400) (e12 : h 169 12 = 0) : pm_ev d 183 [.ref 169] h = some (nI (mt 0 (kwi (wbs tp p (e - p)) kwl 200)), h) := by
  obtain ⟨d, rfl, -⟩ := dpos hd
  rw [e_X10_lawWord]
  rw [is_409 (by omega) t hb e21 e19 hp he hn, pm_bd_s, b2_if0]
  by_cases c409 : wbs tp p (e - p) = [119, 104, 101, 110]
  · rw [if_pos c409, c409]; rfl
  · rw [if_neg c409]
    rw [is_410 (by omega) t hb e21 e19 hp he hn, pm_bd_s, b2_if0]
    by_cases c410 : wbs tp p (e - p) = [111, 114]
    · rw [if_pos c410, c410]; rfl
    · rw [if_neg c410]
      rw [is_411 (by omega) t hb e21 e19 hp he hn, pm_bd_s, b2_if0]
      by_cases c411 : wbs tp p (e - p) = [97, 110, 100]
      · rw [if_pos c411, c411]; rfl
      · rw [if_neg c411]
        rw [is_412 (by omega) t hb e21 e19 hp he hn, pm_bd_s, b2_if0]
        by_cases c412 : wbs tp p (e - p) = [110, 111, 116]
        · rw [if_pos c412, c412]; rfl
        · rw [if_neg c412]
          rw [if_pos e12]
          rw [is_413 (by omega) t hb e21 e19 hp he hn, pm_bd_s, b2_if0]
          by_cases c413 : wbs tp p (e - p) = [99, 111, 115, 116]
          · rw [if_pos c413, c413]; rfl
          · rw [if_neg c413]
            rw [if_pos e12]
            rw [is_414 (by omega) t hb e21 e19 hp he hn, pm_bd_s, b2_if0]
            by_cases c414 : wbs tp p (e - p) = [109, 101, 110, 100]
            · rw [if_pos c414, c414]; rfl
            · rw [if_neg c414]
              rw [if_neg (by rw [e12]; decide)]
              rw [if_neg (by rw [e12]; decide)]
              obtain ⟨d, rfl, -⟩ := dpos (show 3 + 1 ≤ d by omega)
              rw [e_X10_asked]
              rw [is_417 (by omega) t hb e21 e19 hp he hn, pm_bd_s, b2_if0]
              by_cases c417 : wbs tp p (e - p) = [98, 121]
              · rw [if_pos c417, pm_bd_s, c417]; rfl
              · rw [if_neg c417]
                rw [is_418 (by omega) t hb e21 e19 hp he hn, pm_bd_s, b2_if0]
                by_cases c418 : wbs tp p (e - p) = [111, 117, 116]
                · rw [if_pos c418, pm_bd_s, c418]; rfl
                · rw [if_neg c418]
                  rw [is_419 (by omega) t hb e21 e19 hp he hn, pm_bd_s, b2_if0]
                  by_cases c419 : wbs tp p (e - p) = [109, 101, 97, 115, 117, 114, 101]
                  · rw [if_pos c419, pm_bd_s, c419]; rfl
                  · rw [if_neg c419]
                    rw [is_420 (by omega) t hb e21 e19 hp he hn, pm_bd_s, b2_if0]
                    by_cases c420 : wbs tp p (e - p) = [107, 105, 110, 100]
                    · rw [if_pos c420, pm_bd_s, c420]; rfl
                    · rw [if_neg c420]
                      rw [is_421 (by omega) t hb e21 e19 hp he hn, pm_bd_s, b2_if0]
                      by_cases c421 : wbs tp p (e - p) = [108, 101, 116, 115]
                      · rw [if_pos c421, pm_bd_s, c421]; rfl
                      · rw [if_neg c421]
                        rw [is_422 (by omega) t hb e21 e19 hp he hn, pm_bd_s, b2_if0]
                        by_cases c422 : wbs tp p (e - p) = [116, 111, 114, 110]
                        · rw [if_pos c422, pm_bd_s, c422]; rfl
                        · rw [if_neg c422]
                          rw [is_423 (by omega) t hb e21 e19 hp he hn, pm_bd_s, b2_if0]
                          by_cases c423 : wbs tp p (e - p) = [119, 111, 114, 110]
                          · rw [if_pos c423, pm_bd_s, c423]; rfl
                          · rw [if_neg c423]
                            rw [is_424 (by omega) t hb e21 e19 hp he hn, pm_bd_s, b2_if0]
                            by_cases c424 : wbs tp p (e - p) = [100, 105, 114, 116]
                            · rw [if_pos c424, pm_bd_s, c424]; rfl
                            · rw [if_neg c424]
                              rw [is_425 (by omega) t hb e21 e19 hp he hn, pm_bd_s, b2_if0]
                              by_cases c425 : wbs tp p (e - p) = [110, 101, 120, 116]
                              · rw [if_pos c425, pm_bd_s, c425]; rfl
                              · rw [if_neg c425]
                                rw [pm_bd_s]
                                by_cases c402 : wbs tp p (e - p) = [115, 99, 101, 110, 101]
                                · rw [c402]; rfl
                                · skip
                                  by_cases c403 : wbs tp p (e - p) = [119, 101, 97, 114]
                                  · rw [c403]; rfl
                                  · skip
                                    by_cases c404 : wbs tp p (e - p) = [100, 114, 101, 115, 115]
                                    · rw [c404]; rfl
                                    · skip
                                      by_cases c405 : wbs tp p (e - p) = [99, 111, 97, 116]
                                      · rw [c405]; rfl
                                      · skip
                                        by_cases c406 : wbs tp p (e - p) = [117, 110, 105, 102, 111, 114, 109]
                                        · rw [c406]; rfl
                                        · skip
                                          by_cases c407 : wbs tp p (e - p) = [109, 97, 115, 107]
                                          · rw [c407]; rfl
                                          · skip
                                            by_cases c408 : wbs tp p (e - p) = [115, 101, 116]
                                            · rw [c408]; rfl
                                            · skip
                                              by_cases c415 : wbs tp p (e - p) = [116, 101, 97, 114]
                                              · rw [c415]; rfl
                                              · skip
                                                by_cases c416 : wbs tp p (e - p) = [99, 104, 97, 110, 103, 101]
                                                · rw [c416]; rfl
                                                · skip
                                                  have k1 : kwi (wbs tp p (e - p)) kwl 200 = 1 := by
                                                    unfold kwl
                                                    rw [kwi, if_neg c413, kwi, if_neg c414, kwi, if_neg c415, kwi, if_neg c424, kwi, if_neg c416, kwi, if_neg c409, kwi, if_neg c410, kwi, if_neg c411, kwi, if_neg c412, kwi, if_neg c417, kwi, if_neg c418, kwi, if_neg c419, kwi, if_neg c420, kwi, if_neg c421, kwi, if_neg c422, kwi, if_neg c423, kwi, if_neg c425, kwi, if_neg c402, kwi, if_neg c403, kwi, if_neg c404, kwi, if_neg c405, kwi, if_neg c406, kwi, if_neg c407, kwi, if_neg c408]
                                                    rfl
                                                  rw [k1]; rfl
theorem m_law1 {d n p e : Nat} {tp : Nat → Nat} {h : pm_Hp} (hd : 5 ≤ d) (t : TM tp n h) (hb : ∀ i, tp i < 256) (e21 : h 169 21 = nI p) (e19 : h 169 19 = nI e) (hp : p ≤ e) (he : e ≤ n) (hn : n ≤ 400) (e12 : h 169 12 = 1) : pm_ev d 183 [.ref 169] h = some (nI (mt 1 (kwi (wbs tp p (e - p)) kwl 200)), h) := by
  obtain ⟨d, rfl, -⟩ := dpos hd
  rw [e_X10_lawWord]
  rw [is_409 (by omega) t hb e21 e19 hp he hn, pm_bd_s, b2_if0]
  by_cases c409 : wbs tp p (e - p) = [119, 104, 101, 110]
  · rw [if_pos c409, c409]; rfl
  · rw [if_neg c409]
    rw [is_410 (by omega) t hb e21 e19 hp he hn, pm_bd_s, b2_if0]
    by_cases c410 : wbs tp p (e - p) = [111, 114]
    · rw [if_pos c410, c410]; rfl
    · rw [if_neg c410]
      rw [is_411 (by omega) t hb e21 e19 hp he hn, pm_bd_s, b2_if0]
      by_cases c411 : wbs tp p (e - p) = [97, 110, 100]
      · rw [if_pos c411, c411]; rfl
      · rw [if_neg c411]
        rw [is_412 (by omega) t hb e21 e19 hp he hn, pm_bd_s, b2_if0]
        by_cases c412 : wbs tp p (e - p) = [110, 111, 116]
        · rw [if_pos c412, c412]; rfl
        · rw [if_neg c412]
          rw [if_neg (by rw [e12]; decide)]
          rw [if_neg (by rw [e12]; decide)]
          rw [if_pos e12]
          rw [is_415 (by omega) t hb e21 e19 hp he hn, pm_bd_s, b2_if0]
          by_cases c415 : wbs tp p (e - p) = [116, 101, 97, 114]
          · rw [if_pos c415, c415]; rfl
          · rw [if_neg c415]
            rw [if_pos e12]
            rw [is_416 (by omega) t hb e21 e19 hp he hn, pm_bd_s, b2_if0]
            by_cases c416 : wbs tp p (e - p) = [99, 104, 97, 110, 103, 101]
            · rw [if_pos c416, c416]; rfl
            · rw [if_neg c416]
              obtain ⟨d, rfl, -⟩ := dpos (show 3 + 1 ≤ d by omega)
              rw [e_X10_asked]
              rw [is_417 (by omega) t hb e21 e19 hp he hn, pm_bd_s, b2_if0]
              by_cases c417 : wbs tp p (e - p) = [98, 121]
              · rw [if_pos c417, pm_bd_s, c417]; rfl
              · rw [if_neg c417]
                rw [is_418 (by omega) t hb e21 e19 hp he hn, pm_bd_s, b2_if0]
                by_cases c418 : wbs tp p (e - p) = [111, 117, 116]
                · rw [if_pos c418, pm_bd_s, c418]; rfl
                · rw [if_neg c418]
                  rw [is_419 (by omega) t hb e21 e19 hp he hn, pm_bd_s, b2_if0]
                  by_cases c419 : wbs tp p (e - p) = [109, 101, 97, 115, 117, 114, 101]
                  · rw [if_pos c419, pm_bd_s, c419]; rfl
                  · rw [if_neg c419]
                    rw [is_420 (by omega) t hb e21 e19 hp he hn, pm_bd_s, b2_if0]
                    by_cases c420 : wbs tp p (e - p) = [107, 105, 110, 100]
                    · rw [if_pos c420, pm_bd_s, c420]; rfl
                    · rw [if_neg c420]
                      rw [is_421 (by omega) t hb e21 e19 hp he hn, pm_bd_s, b2_if0]
                      by_cases c421 : wbs tp p (e - p) = [108, 101, 116, 115]
                      · rw [if_pos c421, pm_bd_s, c421]; rfl
                      · rw [if_neg c421]
                        rw [is_422 (by omega) t hb e21 e19 hp he hn, pm_bd_s, b2_if0]
                        by_cases c422 : wbs tp p (e - p) = [116, 111, 114, 110]
                        · rw [if_pos c422, pm_bd_s, c422]; rfl
                        · rw [if_neg c422]
                          rw [is_423 (by omega) t hb e21 e19 hp he hn, pm_bd_s, b2_if0]
                          by_cases c423 : wbs tp p (e - p) = [119, 111, 114, 110]
                          · rw [if_pos c423, pm_bd_s, c423]; rfl
                          · rw [if_neg c423]
                            rw [is_424 (by omega) t hb e21 e19 hp he hn, pm_bd_s, b2_if0]
                            by_cases c424 : wbs tp p (e - p) = [100, 105, 114, 116]
                            · rw [if_pos c424, pm_bd_s, c424]; rfl
                            · rw [if_neg c424]
                              rw [is_425 (by omega) t hb e21 e19 hp he hn, pm_bd_s, b2_if0]
                              by_cases c425 : wbs tp p (e - p) = [110, 101, 120, 116]
                              · rw [if_pos c425, pm_bd_s, c425]; rfl
                              · rw [if_neg c425]
                                rw [pm_bd_s]
                                by_cases c402 : wbs tp p (e - p) = [115, 99, 101, 110, 101]
                                · rw [c402]; rfl
                                · skip
                                  by_cases c403 : wbs tp p (e - p) = [119, 101, 97, 114]
                                  · rw [c403]; rfl
                                  · skip
                                    by_cases c404 : wbs tp p (e - p) = [100, 114, 101, 115, 115]
                                    · rw [c404]; rfl
                                    · skip
                                      by_cases c405 : wbs tp p (e - p) = [99, 111, 97, 116]
                                      · rw [c405]; rfl
                                      · skip
                                        by_cases c406 : wbs tp p (e - p) = [117, 110, 105, 102, 111, 114, 109]
                                        · rw [c406]; rfl
                                        · skip
                                          by_cases c407 : wbs tp p (e - p) = [109, 97, 115, 107]
                                          · rw [c407]; rfl
                                          · skip
                                            by_cases c408 : wbs tp p (e - p) = [115, 101, 116]
                                            · rw [c408]; rfl
                                            · skip
                                              by_cases c413 : wbs tp p (e - p) = [99, 111, 115, 116]
                                              · rw [c413]; rfl
                                              · skip
                                                by_cases c414 : wbs tp p (e - p) = [109, 101, 110, 100]
                                                · rw [c414]; rfl
                                                · skip
                                                  have k1 : kwi (wbs tp p (e - p)) kwl 200 = 1 := by
                                                    unfold kwl
                                                    rw [kwi, if_neg c413, kwi, if_neg c414, kwi, if_neg c415, kwi, if_neg c424, kwi, if_neg c416, kwi, if_neg c409, kwi, if_neg c410, kwi, if_neg c411, kwi, if_neg c412, kwi, if_neg c417, kwi, if_neg c418, kwi, if_neg c419, kwi, if_neg c420, kwi, if_neg c421, kwi, if_neg c422, kwi, if_neg c423, kwi, if_neg c425, kwi, if_neg c402, kwi, if_neg c403, kwi, if_neg c404, kwi, if_neg c405, kwi, if_neg c406, kwi, if_neg c407, kwi, if_neg c408]
                                                    rfl
                                                  rw [k1]; rfl
theorem m_scene {d n p e : Nat} {tp : Nat → Nat} {h : pm_Hp} (hd : 4 ≤ d) (t : TM tp n h) (hb : ∀ i, tp i < 256) (e21 : h 169 21 = nI p) (e19 : h 169 19 = nI e) (hp : p ≤ e) (he : e ≤ n) (hn : n ≤ 400) (e12 : h 169 12 = nI 2) : pm_ev d 184 [.ref 169] h = some (nI (mt 2 (kwi (wbs tp p (e - p)) kwl 200)), h) := by
  obtain ⟨d, rfl, -⟩ := dpos hd
  rw [e_X10_sceneWord]
  rw [is_402 (by omega) t hb e21 e19 hp he hn, pm_bd_s, b2_if0]
  by_cases c402 : wbs tp p (e - p) = [115, 99, 101, 110, 101]
  · rw [if_pos c402, c402]; rfl
  · rw [if_neg c402]
    rw [is_403 (by omega) t hb e21 e19 hp he hn, pm_bd_s, b2_if0]
    by_cases c403 : wbs tp p (e - p) = [119, 101, 97, 114]
    · rw [if_pos c403, c403]; rfl
    · rw [if_neg c403]
      rw [is_404 (by omega) t hb e21 e19 hp he hn, pm_bd_s, b2_if0]
      by_cases c404 : wbs tp p (e - p) = [100, 114, 101, 115, 115]
      · rw [if_pos c404, c404]; rfl
      · rw [if_neg c404]
        rw [is_405 (by omega) t hb e21 e19 hp he hn, pm_bd_s, b2_if0]
        by_cases c405 : wbs tp p (e - p) = [99, 111, 97, 116]
        · rw [if_pos c405, c405]; rfl
        · rw [if_neg c405]
          rw [is_406 (by omega) t hb e21 e19 hp he hn, pm_bd_s, b2_if0]
          by_cases c406 : wbs tp p (e - p) = [117, 110, 105, 102, 111, 114, 109]
          · rw [if_pos c406, c406]; rfl
          · rw [if_neg c406]
            rw [is_407 (by omega) t hb e21 e19 hp he hn, pm_bd_s, b2_if0]
            by_cases c407 : wbs tp p (e - p) = [109, 97, 115, 107]
            · rw [if_pos c407, c407]; rfl
            · rw [if_neg c407]
              rw [is_408 (by omega) t hb e21 e19 hp he hn, pm_bd_s, b2_if0]
              by_cases c408 : wbs tp p (e - p) = [115, 101, 116]
              · rw [if_pos c408, c408]; rfl
              · rw [if_neg c408]
                by_cases c409 : wbs tp p (e - p) = [119, 104, 101, 110]
                · rw [c409]; rfl
                · skip
                  by_cases c410 : wbs tp p (e - p) = [111, 114]
                  · rw [c410]; rfl
                  · skip
                    by_cases c411 : wbs tp p (e - p) = [97, 110, 100]
                    · rw [c411]; rfl
                    · skip
                      by_cases c412 : wbs tp p (e - p) = [110, 111, 116]
                      · rw [c412]; rfl
                      · skip
                        by_cases c413 : wbs tp p (e - p) = [99, 111, 115, 116]
                        · rw [c413]; rfl
                        · skip
                          by_cases c414 : wbs tp p (e - p) = [109, 101, 110, 100]
                          · rw [c414]; rfl
                          · skip
                            by_cases c415 : wbs tp p (e - p) = [116, 101, 97, 114]
                            · rw [c415]; rfl
                            · skip
                              by_cases c416 : wbs tp p (e - p) = [99, 104, 97, 110, 103, 101]
                              · rw [c416]; rfl
                              · skip
                                by_cases c417 : wbs tp p (e - p) = [98, 121]
                                · rw [c417]; rfl
                                · skip
                                  by_cases c418 : wbs tp p (e - p) = [111, 117, 116]
                                  · rw [c418]; rfl
                                  · skip
                                    by_cases c419 : wbs tp p (e - p) = [109, 101, 97, 115, 117, 114, 101]
                                    · rw [c419]; rfl
                                    · skip
                                      by_cases c420 : wbs tp p (e - p) = [107, 105, 110, 100]
                                      · rw [c420]; rfl
                                      · skip
                                        by_cases c421 : wbs tp p (e - p) = [108, 101, 116, 115]
                                        · rw [c421]; rfl
                                        · skip
                                          by_cases c422 : wbs tp p (e - p) = [116, 111, 114, 110]
                                          · rw [c422]; rfl
                                          · skip
                                            by_cases c423 : wbs tp p (e - p) = [119, 111, 114, 110]
                                            · rw [c423]; rfl
                                            · skip
                                              by_cases c424 : wbs tp p (e - p) = [100, 105, 114, 116]
                                              · rw [c424]; rfl
                                              · skip
                                                by_cases c425 : wbs tp p (e - p) = [110, 101, 120, 116]
                                                · rw [c425]; rfl
                                                · skip
                                                  have k1 : kwi (wbs tp p (e - p)) kwl 200 = 1 := by
                                                    unfold kwl
                                                    rw [kwi, if_neg c413, kwi, if_neg c414, kwi, if_neg c415, kwi, if_neg c424, kwi, if_neg c416, kwi, if_neg c409, kwi, if_neg c410, kwi, if_neg c411, kwi, if_neg c412, kwi, if_neg c417, kwi, if_neg c418, kwi, if_neg c419, kwi, if_neg c420, kwi, if_neg c421, kwi, if_neg c422, kwi, if_neg c423, kwi, if_neg c425, kwi, if_neg c402, kwi, if_neg c403, kwi, if_neg c404, kwi, if_neg c405, kwi, if_neg c406, kwi, if_neg c407, kwi, if_neg c408]
                                                    rfl
                                                  rw [k1]; rfl
theorem m_word {d n p e r : Nat} {tp : Nat → Nat} {h : pm_Hp} (hd : 6 ≤ d) (t : TM tp n h) (hb : ∀ i, tp i < 256) (e21 : h 169 21 = nI p) (e19 : h 169 19 = nI e) (hp : p ≤ e) (he : e ≤ n) (hn : n ≤ 400) (hr : r < 3) (e12 : h 169 12 = nI r) : pm_ev d 185 [.ref 169] h = some (nI (mt r (kwi (wbs tp p (e - p)) kwl 200)), h) := by
  obtain ⟨d, rfl, -⟩ := dpos hd
  have : r = 0 ∨ r = 1 ∨ r = 2 := by omega
  rcases this with rfl | rfl | rfl
  · rw [e_X10_word, if_neg (by rw [e12]; decide), m_law0 (by omega) t hb e21 e19 hp he hn e12, pm_bd_s]
  · rw [e_X10_word, if_neg (by rw [e12]; decide), m_law1 (by omega) t hb e21 e19 hp he hn e12, pm_bd_s]
  · rw [e_X10_word, if_pos e12, m_scene (by omega) t hb e21 e19 hp he hn e12, pm_bd_s]
theorem m_see {d n k : Nat} {tp : Nat → Nat} {h : pm_Hp} (hd : 1 ≤ d) (t : TM tp n h) (hn : n ≤ 400) (hk : k ≤ 400) : pm_ev d 178 [.ref 169, .int (nI k)] h = some (if k < n then nI (tp k) else -1, h) := by
  obtain ⟨d, rfl, -⟩ := dpos hd
  rw [e_X10_see, t.1, ltn_ite (by omega) (by omega)]
  by_cases g : k < n
  · rw [if_pos g, if_pos g, pm_at_c (by omega) (by omega), t.2 k g]
  · rw [if_neg g, if_neg g]
