theorem sx1 (a : Nat) : nI a + 1 = nI (a + 1) := nI_1 a
theorem sx2 (a : Nat) : nI a + 2 = nI (a + 2) := by rw [← nI_add]; rfl
theorem sx3 (a : Nat) : nI a + 3 = nI (a + 3) := by rw [← nI_add]; rfl
theorem finW {L : List String} {R : (String × St) ⊕ (Int32 × St)} {r k : Int32} {M1 : St} {u : St × (Nat → Int64)} {o : Nat → Int64} (conv : Int32 → Int64) (hl : L.length ≤ 3) (hag : AgW L R r M1) (hp : (∃ (r : Int32) (S1 : St), R = Sum.inr (r, S1) ∧ k = 0 ∧ u = (S1, vp_updL o 0 (conv r))) ∨ (∃ v : String × St, R = Sum.inl v ∧ k = hcd L v.1 ∧ u = (v.2, o))) :
    (k = 0 ∧ M1 10 0 = 0 ∧ ∃ X1, u = (X1, vp_updL o 0 (conv r)) ∧ Rel X1 M1) ∨ (k ≠ 0 ∧ M1 10 0 = k ∧ ∃ X1, u = (X1, o) ∧ Rel X1 M1) := by
  rcases hag with ⟨X1, rfl, h1, h2⟩ | ⟨E, X1, rfl, hE, h1, h2⟩
  · rcases hp with ⟨r', S1, h3, h4, h5⟩ | ⟨v, h3, -⟩
    · cases h3
      exact Or.inl ⟨h4, h1, X1, h5, h2⟩
    · cases h3
  · rcases hp with ⟨r', S1, h3, -⟩ | ⟨v, h3, h4, h5⟩
    · cases h3
    · cases h3
      exact Or.inr ⟨by rw [h4]; exact hcd_ne L E hl hE, by rw [h1, h4], X1, h5, h2⟩
theorem finR {L : List String} {X : St} {R : String ⊕ Int32} {r k : Int32} {M1 : St} {u : St × (Nat → Int64)} {o : Nat → Int64} (conv : Int32 → Int64) (hl : L.length ≤ 3) (hag : AgR L X R r M1) (hp : (∃ r : Int32, R = Sum.inr r ∧ k = 0 ∧ u = (X, vp_updL o 0 (conv r))) ∨ (∃ e : String, R = Sum.inl e ∧ k = hcd L e ∧ u = (X, o))) :
    (k = 0 ∧ M1 10 0 = 0 ∧ ∃ X1, u = (X1, vp_updL o 0 (conv r)) ∧ Rel X1 M1) ∨ (k ≠ 0 ∧ M1 10 0 = k ∧ ∃ X1, u = (X1, o) ∧ Rel X1 M1) := by
  rcases hag with ⟨rfl, h1, h2⟩ | ⟨E, rfl, hE, h1, h2⟩
  · rcases hp with ⟨r', h3, h4, h5⟩ | ⟨v, h3, -⟩
    · cases h3
      exact Or.inl ⟨h4, h1, X, h5, h2⟩
    · cases h3
  · rcases hp with ⟨r', h3, -⟩ | ⟨v, h3, h4, h5⟩
    · cases h3
    · cases h3
      exact Or.inr ⟨by rw [h4]; exact hcd_ne L E hl hE, by rw [h1, h4], X, h5, h2⟩
theorem agW_E {L : List String} {R : (String × St) ⊕ (Int32 × St)} {r : Int32} {M1 : St} (h : AgW L R r M1) : ∀ (e : String) (S1 : St), R = Sum.inl (e, S1) → e ∈ L := by
  intro e S1 he
  rcases h with ⟨X1, rfl, -⟩ | ⟨E, X1, rfl, hE, -⟩
  · cases he
  · cases he
    exact hE
theorem agR_E {L : List String} {X : St} {R : String ⊕ Int32} {r : Int32} {M1 : St} (h : AgR L X R r M1) : ∀ (e : String), R = Sum.inl e → e ∈ L := by
  intro e he
  rcases h with ⟨rfl, -⟩ | ⟨E, rfl, hE, -⟩
  · cases he
  · cases he
    exact hE
section LCMP
variable {p : Program} {l : Launch} {e : Env} {R : Room} {s : State} {m : MethodId} {args : Array Value} {below : List Frame} {meth : Method} {c : Code} {H : Heap} {locs : List Loc} {cells slots : Nat} {Q : State → Prop} {cc : ByteArray} {nL : Nat} {own : String} {ret : Option FieldType} {pc : Nat} {ls : Array Slot} {rest : List Value}
theorem g_lcmp2 (C : Ctx p s m args meth c cc nL own ret) {x y : Int64} (h : x = y) (hdg : decode cc pc = .ok (.lcmp, 1)) (kk : W p l e R s m args below meth c H locs cells slots Q (F0 m (pc + 1) ls (.int 0 :: rest))) : W p l e R s m args below meth c H locs cells slots Q (F0 m pc ls (.long y :: .long x :: rest)) := by
  subst h
  exact g_lcmp C hdg kk
end LCMP
set_option maxHeartbeats 4000000 in
set_option maxRecDepth 100000 in
theorem law_0 {p : Program} {l : Launch} {e : Env} {s : State} {m : MethodId} {below : List Frame} {meth : Method} {c : Code} {b : Nat} (C : Ctx p s m #[Value.ref b] meth c cL_law 9 RL ret) {D : va_G} {cI cL : ClassId} {qx qm : Nat → Nat} {qo L : Nat} {xs : Nat → Int32} (E : gEL D cI cL s) (Z : gZ (va_A [] s.heap.size) s s.heap) (hT : l.stackTraces = false) (hX : va_X b L xs s s.heap) (hbl : b < s.heap.size) (hL : L ≤ 2048) (j : Nat) (hj : 4 * j + 4 ≤ L) {Q : State → Prop} {X M : St} {o : Nat → Int64} (h : Rel X M) (hn : ∀ (X M : St) (o : Nat → Int64), Rel X M → ∀ (H : Heap) (locs : List Loc) (ls : Array Slot), gW D [] (LW cI cL qx qm qo (X, o) M) s H locs → lv_has ls 9 [(0, .ref b), (1, .ref (qx 0)), (2, .ref (qm 0)), (3, .ref qo), (4, .int (nI (4 * j)))] → W p l e room_1 s m #[Value.ref b] below meth c H locs (30 + (j + 1) * 8) (500 + (j + 1) * 48) Q (F0 m 2491 ls [])) : ∀ (H : Heap) (locs : List Loc) (ls : Array Slot), gW D [] (LW cI cL qx qm qo (X, o) M) s H locs → lv_has ls 9 [(0, .ref b), (1, .ref (qx 0)), (2, .ref (qm 0)), (3, .ref qo), (4, .int (nI (4 * j)))] → W p l e room_1 s m #[Value.ref b] below meth c H locs (30 + j * 8) (500 + j * 48) Q (F0 m 220 ls []) := by
  have hj5 : j ≤ 511 := by omega
  obtain ⟨R, r, M1, hf1, hf2, hag⟩ := op_addTag h
  intro H locs ls hw hl
  refine lv_aload_n C.1 C.2.1 dL_law_220 rfl (lv_at hl 1 rfl) ?_
  refine lv_aload_n C.1 C.2.1 dL_law_221 rfl (lv_at hl 3 rfl) ?_
  refine g_lh (rest := []) (As := [.ref (qx 0), .ref qo]) (rm := ({ frames := 7, cells := 1, slots := 6, locals := 110 } : Room)) C E Z hw FH_addTag kz_L (ctL_addTag l hT (cI := cI) (cL := cL) (D := D) (q := qx) (qo := qo) X o _ hf1 (fun e S1 he => by simpa using agW_E hag e S1 he)) km_L_127 rfl hl.1 rfl (Nat.le_of_ble_eq_true rfl) ⟨(Nat.le_of_ble_eq_true rfl), (Nat.le_of_ble_eq_true rfl)⟩ ⟨by (try dsimp only [room_1]); omega, by (try dsimp only [room_1]); omega⟩ dL_law_222 (fun k u hp H locs hw => ?_)
  refine lv_istore (lv' := [(5, .int k), (0, .ref b), (1, .ref (qx 0)), (2, .ref (qm 0)), (3, .ref qo), (4, .int (nI (4 * j)))]) C.1 C.2.1 dL_law_225 hl (by decide) rfl (fun ls hl => ?_)
  refine lv_aload_n C.1 C.2.1 dL_law_227 rfl (lv_at hl 3 rfl) ?_
  refine g_lmi (rest := []) hw (g_runV (rm := ({ frames := 1, cells := 0, slots := 0, locals := 21 } : Room)) (As := []) (rest := []) C E.E (gW_sub1 (LW_m hw)) F_X4_addTag (ctX4_addTag l (cI := cI) (D := D) (q := qm) M _ hf2) km_L_132 0 rfl rfl rfl hl.1 rfl (Nat.le_of_ble_eq_true rfl) ⟨(Nat.le_of_ble_eq_true rfl), (Nat.le_of_ble_eq_true rfl)⟩ ⟨by (try dsimp only [room_1]); omega, by (try dsimp only [room_1]); omega⟩ dL_law_228) (fun H locs hw => ?_)
  refine lv_istore (lv' := [(6, .int r), (5, .int k), (0, .ref b), (1, .ref (qx 0)), (2, .ref (qm 0)), (3, .ref qo), (4, .int (nI (4 * j)))]) C.1 C.2.1 dL_law_231 hl (by decide) rfl (fun ls hl => ?_)
  refine lv_aload_n C.1 C.2.1 dL_law_233 rfl (lv_at hl 4 rfl) ?_
  refine g_lmi (rest := []) hw (g_runV (rm := ({ frames := 0, cells := 0, slots := 0, locals := 0 } : Room)) (As := []) (rest := []) C E.E (gW_sub1 (LW_m hw)) F_X4_thrown (ctX4_thrown l (cI := cI) (D := D) (q := qm) M1 _ (r1 := M1 10 0) rfl) km_L_133 0 rfl rfl rfl hl.1 rfl (Nat.le_of_ble_eq_true rfl) ⟨(Nat.le_of_ble_eq_true rfl), (Nat.le_of_ble_eq_true rfl)⟩ ⟨by (try dsimp only [room_1]); omega, by (try dsimp only [room_1]); omega⟩ dL_law_234) (fun H locs hw => ?_)
  refine lv_iload C.1 C.2.1 dL_law_237 (lv_at hl 1 rfl) ?_
  rcases finW (fun r => Int32.toInt64 r) (by decide) hag hp with ⟨rfl, hk, X1, rfl, h1⟩ | ⟨hk0, hk, X1, rfl, h1⟩
  · refine lv_icmp_eq (tgt := 244) C.1 C.2.1 dL_law_239 (by decide) (fun _ => ?_) (fun hc => absurd hk hc)
    refine lv_iload C.1 C.2.1 dL_law_244 (lv_at hl 1 rfl) ?_
    refine lv_if_ne (tgt := 261) C.1 C.2.1 dL_law_246 (by decide) (fun hc => absurd rfl hc) (fun _ => ?_)
    refine lv_aload_n C.1 C.2.1 dL_law_249 rfl (lv_at hl 5 rfl) ?_
    refine lv_iconst (v := 0) C.1 C.2.1 dL_law_250 (by decide) ?_
    refine g_lout C E hw dL_law_251 ?_
    refine lv_iload C.1 C.2.1 dL_law_252 (lv_at hl 0 rfl) ?_
    refine lv_i2l (v := Int32.toInt64 r) C.1 C.2.1 dL_law_254 rfl ?_
    refine g_lcmp2 C rfl dL_law_255 ?_
    refine lv_if_eq (tgt := 261) C.1 C.2.1 dL_law_256 (by decide) (fun _ => ?_) (fun hc => absurd rfl hc)
    refine lv_goto (tgt := 2491) C.1 C.2.1 dL_law_261 (by decide) ?_
    refine W.widen (k := 30 + (j + 1) * 8) (n := 500 + (j + 1) * 48) (by (try dsimp only); omega) (by (try dsimp only); omega) ?_
    exact hn _ _ _ h1 _ _ _ hw (lv_sub hl [2, 3, 4, 5, 6] rfl)
  · refine lv_icmp_eq (tgt := 244) C.1 C.2.1 dL_law_239 (by decide) (fun _ => ?_) (fun hc => absurd hk hc)
    refine lv_iload C.1 C.2.1 dL_law_244 (lv_at hl 1 rfl) ?_
    refine lv_if_ne (tgt := 261) C.1 C.2.1 dL_law_246 (by decide) (fun _ => ?_) (fun hc => absurd hc hk0)
    refine lv_goto (tgt := 2491) C.1 C.2.1 dL_law_261 (by decide) ?_
    refine W.widen (k := 30 + (j + 1) * 8) (n := 500 + (j + 1) * 48) (by (try dsimp only); omega) (by (try dsimp only); omega) ?_
    exact hn _ _ _ h1 _ _ _ hw (lv_sub hl [2, 3, 4, 5, 6] rfl)
set_option maxHeartbeats 4000000 in
set_option maxRecDepth 100000 in
theorem law_1 {p : Program} {l : Launch} {e : Env} {s : State} {m : MethodId} {below : List Frame} {meth : Method} {c : Code} {b : Nat} (C : Ctx p s m #[Value.ref b] meth c cL_law 9 RL ret) {D : va_G} {cI cL : ClassId} {qx qm : Nat → Nat} {qo L : Nat} {xs : Nat → Int32} (E : gEL D cI cL s) (Z : gZ (va_A [] s.heap.size) s s.heap) (hT : l.stackTraces = false) (hX : va_X b L xs s s.heap) (hbl : b < s.heap.size) (hL : L ≤ 2048) (j : Nat) (hj : 4 * j + 4 ≤ L) {Q : State → Prop} {X M : St} {o : Nat → Int64} (h : Rel X M) (hn : ∀ (X M : St) (o : Nat → Int64), Rel X M → ∀ (H : Heap) (locs : List Loc) (ls : Array Slot), gW D [] (LW cI cL qx qm qo (X, o) M) s H locs → lv_has ls 9 [(0, .ref b), (1, .ref (qx 0)), (2, .ref (qm 0)), (3, .ref qo), (4, .int (nI (4 * j)))] → W p l e room_1 s m #[Value.ref b] below meth c H locs (30 + (j + 1) * 8) (500 + (j + 1) * 48) Q (F0 m 2491 ls [])) : ∀ (H : Heap) (locs : List Loc) (ls : Array Slot), gW D [] (LW cI cL qx qm qo (X, o) M) s H locs → lv_has ls 9 [(0, .ref b), (1, .ref (qx 0)), (2, .ref (qm 0)), (3, .ref qo), (4, .int (nI (4 * j)))] → W p l e room_1 s m #[Value.ref b] below meth c H locs (30 + j * 8) (500 + j * 48) Q (F0 m 264 ls []) := by
  have hj5 : j ≤ 511 := by omega
  obtain ⟨R, r, M1, hf1, hf2, hag⟩ := op_putUnder (xs (4 * j + 1)) (xs (4 * j + 2)) h
  intro H locs ls hw hl
  refine lv_aload_n C.1 C.2.1 dL_law_264 rfl (lv_at hl 1 rfl) ?_
  refine lv_aload_n C.1 C.2.1 dL_law_265 rfl (lv_at hl 0 rfl) ?_
  refine lv_iload C.1 C.2.1 dL_law_266 (lv_at hl 4 rfl) ?_
  refine lv_iconst (v := 1) C.1 C.2.1 dL_law_268 (by decide) ?_
  refine lv_iadd C.1 C.2.1 dL_law_269 ?_
  refine g_sld C hX hbl hL hw (4 * j + 1) (sx1 (4 * j)) (by omega) dL_law_270 ?_
  refine lv_aload_n C.1 C.2.1 dL_law_271 rfl (lv_at hl 0 rfl) ?_
  refine lv_iload C.1 C.2.1 dL_law_272 (lv_at hl 4 rfl) ?_
  refine lv_iconst (v := 2) C.1 C.2.1 dL_law_274 (by decide) ?_
  refine lv_iadd C.1 C.2.1 dL_law_275 ?_
  refine g_sld C hX hbl hL hw (4 * j + 2) (sx2 (4 * j)) (by omega) dL_law_276 ?_
  refine lv_aload_n C.1 C.2.1 dL_law_277 rfl (lv_at hl 3 rfl) ?_
  refine g_lh (rest := []) (As := [.ref (qx 0), .int (xs (4 * j + 1)), .int (xs (4 * j + 2)), .ref qo]) (rm := ({ frames := 9, cells := 4, slots := 24, locals := 155 } : Room)) C E Z hw FH_putUnder kz_L (ctL_putUnder l hT (cI := cI) (cL := cL) (D := D) (q := qx) (qo := qo) X o (xs (4 * j + 1)) (xs (4 * j + 2)) _ hf1 (fun e S1 he => by simpa using agW_E hag e S1 he)) km_L_136 rfl hl.1 rfl (Nat.le_of_ble_eq_true rfl) ⟨(Nat.le_of_ble_eq_true rfl), (Nat.le_of_ble_eq_true rfl)⟩ ⟨by (try dsimp only [room_1]); omega, by (try dsimp only [room_1]); omega⟩ dL_law_278 (fun k u hp H locs hw => ?_)
  refine lv_istore (lv' := [(5, .int k), (0, .ref b), (1, .ref (qx 0)), (2, .ref (qm 0)), (3, .ref qo), (4, .int (nI (4 * j)))]) C.1 C.2.1 dL_law_281 hl (by decide) rfl (fun ls hl => ?_)
  refine lv_aload_n C.1 C.2.1 dL_law_283 rfl (lv_at hl 3 rfl) ?_
  refine lv_aload_n C.1 C.2.1 dL_law_284 rfl (lv_at hl 1 rfl) ?_
  refine lv_iload C.1 C.2.1 dL_law_285 (lv_at hl 5 rfl) ?_
  refine lv_iconst (v := 1) C.1 C.2.1 dL_law_287 (by decide) ?_
  refine lv_iadd C.1 C.2.1 dL_law_288 ?_
  refine g_sld C hX hbl hL hw (4 * j + 1) (sx1 (4 * j)) (by omega) dL_law_289 ?_
  refine lv_aload_n C.1 C.2.1 dL_law_290 rfl (lv_at hl 1 rfl) ?_
  refine lv_iload C.1 C.2.1 dL_law_291 (lv_at hl 5 rfl) ?_
  refine lv_iconst (v := 2) C.1 C.2.1 dL_law_293 (by decide) ?_
  refine lv_iadd C.1 C.2.1 dL_law_294 ?_
  refine g_sld C hX hbl hL hw (4 * j + 2) (sx2 (4 * j)) (by omega) dL_law_295 ?_
  refine g_lmi (rest := []) hw (g_runV (rm := ({ frames := 3, cells := 0, slots := 0, locals := 67 } : Room)) (As := [.int (xs (4 * j + 1)), .int (xs (4 * j + 2))]) (rest := []) C E.E (gW_sub1 (LW_m hw)) F_X4_putUnder (ctX4_putUnder l (cI := cI) (D := D) (q := qm) M (xs (4 * j + 1)) (xs (4 * j + 2)) _ hf2) km_L_139 0 rfl rfl rfl hl.1 rfl (Nat.le_of_ble_eq_true rfl) ⟨(Nat.le_of_ble_eq_true rfl), (Nat.le_of_ble_eq_true rfl)⟩ ⟨by (try dsimp only [room_1]); omega, by (try dsimp only [room_1]); omega⟩ dL_law_296) (fun H locs hw => ?_)
  refine lv_istore (lv' := [(6, .int r), (5, .int k), (0, .ref b), (1, .ref (qx 0)), (2, .ref (qm 0)), (3, .ref qo), (4, .int (nI (4 * j)))]) C.1 C.2.1 dL_law_299 hl (by decide) rfl (fun ls hl => ?_)
  refine lv_aload_n C.1 C.2.1 dL_law_301 rfl (lv_at hl 4 rfl) ?_
  refine g_lmi (rest := []) hw (g_runV (rm := ({ frames := 0, cells := 0, slots := 0, locals := 0 } : Room)) (As := []) (rest := []) C E.E (gW_sub1 (LW_m hw)) F_X4_thrown (ctX4_thrown l (cI := cI) (D := D) (q := qm) M1 _ (r1 := M1 10 0) rfl) km_L_133 0 rfl rfl rfl hl.1 rfl (Nat.le_of_ble_eq_true rfl) ⟨(Nat.le_of_ble_eq_true rfl), (Nat.le_of_ble_eq_true rfl)⟩ ⟨by (try dsimp only [room_1]); omega, by (try dsimp only [room_1]); omega⟩ dL_law_302) (fun H locs hw => ?_)
  refine lv_iload C.1 C.2.1 dL_law_305 (lv_at hl 1 rfl) ?_
  rcases finW (fun r => Int32.toInt64 r) (by decide) hag hp with ⟨rfl, hk, X1, rfl, h1⟩ | ⟨hk0, hk, X1, rfl, h1⟩
  · refine lv_icmp_eq (tgt := 312) C.1 C.2.1 dL_law_307 (by decide) (fun _ => ?_) (fun hc => absurd hk hc)
    refine lv_iload C.1 C.2.1 dL_law_312 (lv_at hl 1 rfl) ?_
    refine lv_if_ne (tgt := 329) C.1 C.2.1 dL_law_314 (by decide) (fun hc => absurd rfl hc) (fun _ => ?_)
    refine lv_aload_n C.1 C.2.1 dL_law_317 rfl (lv_at hl 5 rfl) ?_
    refine lv_iconst (v := 0) C.1 C.2.1 dL_law_318 (by decide) ?_
    refine g_lout C E hw dL_law_319 ?_
    refine lv_iload C.1 C.2.1 dL_law_320 (lv_at hl 0 rfl) ?_
    refine lv_i2l (v := Int32.toInt64 r) C.1 C.2.1 dL_law_322 rfl ?_
    refine g_lcmp2 C rfl dL_law_323 ?_
    refine lv_if_eq (tgt := 329) C.1 C.2.1 dL_law_324 (by decide) (fun _ => ?_) (fun hc => absurd rfl hc)
    refine lv_goto (tgt := 2491) C.1 C.2.1 dL_law_329 (by decide) ?_
    refine W.widen (k := 30 + (j + 1) * 8) (n := 500 + (j + 1) * 48) (by (try dsimp only); omega) (by (try dsimp only); omega) ?_
    exact hn _ _ _ h1 _ _ _ hw (lv_sub hl [2, 3, 4, 5, 6] rfl)
  · refine lv_icmp_eq (tgt := 312) C.1 C.2.1 dL_law_307 (by decide) (fun _ => ?_) (fun hc => absurd hk hc)
    refine lv_iload C.1 C.2.1 dL_law_312 (lv_at hl 1 rfl) ?_
    refine lv_if_ne (tgt := 329) C.1 C.2.1 dL_law_314 (by decide) (fun _ => ?_) (fun hc => absurd hc hk0)
    refine lv_goto (tgt := 2491) C.1 C.2.1 dL_law_329 (by decide) ?_
    refine W.widen (k := 30 + (j + 1) * 8) (n := 500 + (j + 1) * 48) (by (try dsimp only); omega) (by (try dsimp only); omega) ?_
    exact hn _ _ _ h1 _ _ _ hw (lv_sub hl [2, 3, 4, 5, 6] rfl)
set_option maxHeartbeats 4000000 in
set_option maxRecDepth 100000 in
theorem law_2 {p : Program} {l : Launch} {e : Env} {s : State} {m : MethodId} {below : List Frame} {meth : Method} {c : Code} {b : Nat} (C : Ctx p s m #[Value.ref b] meth c cL_law 9 RL ret) {D : va_G} {cI cL : ClassId} {qx qm : Nat → Nat} {qo L : Nat} {xs : Nat → Int32} (E : gEL D cI cL s) (Z : gZ (va_A [] s.heap.size) s s.heap) (hT : l.stackTraces = false) (hX : va_X b L xs s s.heap) (hbl : b < s.heap.size) (hL : L ≤ 2048) (j : Nat) (hj : 4 * j + 4 ≤ L) {Q : State → Prop} {X M : St} {o : Nat → Int64} (h : Rel X M) (hn : ∀ (X M : St) (o : Nat → Int64), Rel X M → ∀ (H : Heap) (locs : List Loc) (ls : Array Slot), gW D [] (LW cI cL qx qm qo (X, o) M) s H locs → lv_has ls 9 [(0, .ref b), (1, .ref (qx 0)), (2, .ref (qm 0)), (3, .ref qo), (4, .int (nI (4 * j)))] → W p l e room_1 s m #[Value.ref b] below meth c H locs (30 + (j + 1) * 8) (500 + (j + 1) * 48) Q (F0 m 2491 ls [])) : ∀ (H : Heap) (locs : List Loc) (ls : Array Slot), gW D [] (LW cI cL qx qm qo (X, o) M) s H locs → lv_has ls 9 [(0, .ref b), (1, .ref (qx 0)), (2, .ref (qm 0)), (3, .ref qo), (4, .int (nI (4 * j)))] → W p l e room_1 s m #[Value.ref b] below meth c H locs (30 + j * 8) (500 + j * 48) Q (F0 m 332 ls []) := by
  have hj5 : j ≤ 511 := by omega
  obtain ⟨R, r, M1, hf1, hf2, hag⟩ := op_freeTag (xs (4 * j + 1)) h
  intro H locs ls hw hl
  refine lv_aload_n C.1 C.2.1 dL_law_332 rfl (lv_at hl 1 rfl) ?_
  refine lv_aload_n C.1 C.2.1 dL_law_333 rfl (lv_at hl 0 rfl) ?_
  refine lv_iload C.1 C.2.1 dL_law_334 (lv_at hl 4 rfl) ?_
  refine lv_iconst (v := 1) C.1 C.2.1 dL_law_336 (by decide) ?_
  refine lv_iadd C.1 C.2.1 dL_law_337 ?_
  refine g_sld C hX hbl hL hw (4 * j + 1) (sx1 (4 * j)) (by omega) dL_law_338 ?_
  refine lv_aload_n C.1 C.2.1 dL_law_339 rfl (lv_at hl 3 rfl) ?_
  refine g_lh (rest := []) (As := [.ref (qx 0), .int (xs (4 * j + 1)), .ref qo]) (rm := ({ frames := 9, cells := 2, slots := 12, locals := 154 } : Room)) C E Z hw FH_freeTag kz_L (ctL_freeTag l hT (cI := cI) (cL := cL) (D := D) (q := qx) (qo := qo) X o (xs (4 * j + 1)) _ hf1 (fun e S1 he => by simpa using agW_E hag e S1 he)) km_L_140 rfl hl.1 rfl (Nat.le_of_ble_eq_true rfl) ⟨(Nat.le_of_ble_eq_true rfl), (Nat.le_of_ble_eq_true rfl)⟩ ⟨by (try dsimp only [room_1]); omega, by (try dsimp only [room_1]); omega⟩ dL_law_340 (fun k u hp H locs hw => ?_)
  refine lv_istore (lv' := [(5, .int k), (0, .ref b), (1, .ref (qx 0)), (2, .ref (qm 0)), (3, .ref qo), (4, .int (nI (4 * j)))]) C.1 C.2.1 dL_law_343 hl (by decide) rfl (fun ls hl => ?_)
  refine lv_aload_n C.1 C.2.1 dL_law_345 rfl (lv_at hl 3 rfl) ?_
  refine lv_aload_n C.1 C.2.1 dL_law_346 rfl (lv_at hl 1 rfl) ?_
  refine lv_iload C.1 C.2.1 dL_law_347 (lv_at hl 5 rfl) ?_
  refine lv_iconst (v := 1) C.1 C.2.1 dL_law_349 (by decide) ?_
  refine lv_iadd C.1 C.2.1 dL_law_350 ?_
  refine g_sld C hX hbl hL hw (4 * j + 1) (sx1 (4 * j)) (by omega) dL_law_351 ?_
  refine g_lmi (rest := []) hw (g_runV (rm := ({ frames := 2, cells := 0, slots := 0, locals := 43 } : Room)) (As := [.int (xs (4 * j + 1))]) (rest := []) C E.E (gW_sub1 (LW_m hw)) F_X4_freeTag (ctX4_freeTag l (cI := cI) (D := D) (q := qm) M (xs (4 * j + 1)) _ hf2) km_L_143 0 rfl rfl rfl hl.1 rfl (Nat.le_of_ble_eq_true rfl) ⟨(Nat.le_of_ble_eq_true rfl), (Nat.le_of_ble_eq_true rfl)⟩ ⟨by (try dsimp only [room_1]); omega, by (try dsimp only [room_1]); omega⟩ dL_law_352) (fun H locs hw => ?_)
  refine lv_istore (lv' := [(6, .int r), (5, .int k), (0, .ref b), (1, .ref (qx 0)), (2, .ref (qm 0)), (3, .ref qo), (4, .int (nI (4 * j)))]) C.1 C.2.1 dL_law_355 hl (by decide) rfl (fun ls hl => ?_)
  refine lv_aload_n C.1 C.2.1 dL_law_357 rfl (lv_at hl 4 rfl) ?_
  refine g_lmi (rest := []) hw (g_runV (rm := ({ frames := 0, cells := 0, slots := 0, locals := 0 } : Room)) (As := []) (rest := []) C E.E (gW_sub1 (LW_m hw)) F_X4_thrown (ctX4_thrown l (cI := cI) (D := D) (q := qm) M1 _ (r1 := M1 10 0) rfl) km_L_133 0 rfl rfl rfl hl.1 rfl (Nat.le_of_ble_eq_true rfl) ⟨(Nat.le_of_ble_eq_true rfl), (Nat.le_of_ble_eq_true rfl)⟩ ⟨by (try dsimp only [room_1]); omega, by (try dsimp only [room_1]); omega⟩ dL_law_358) (fun H locs hw => ?_)
  refine lv_iload C.1 C.2.1 dL_law_361 (lv_at hl 1 rfl) ?_
  rcases finW (fun r => Int32.toInt64 r) (by decide) hag hp with ⟨rfl, hk, X1, rfl, h1⟩ | ⟨hk0, hk, X1, rfl, h1⟩
  · refine lv_icmp_eq (tgt := 368) C.1 C.2.1 dL_law_363 (by decide) (fun _ => ?_) (fun hc => absurd hk hc)
    refine lv_iload C.1 C.2.1 dL_law_368 (lv_at hl 1 rfl) ?_
    refine lv_if_ne (tgt := 385) C.1 C.2.1 dL_law_370 (by decide) (fun hc => absurd rfl hc) (fun _ => ?_)
    refine lv_aload_n C.1 C.2.1 dL_law_373 rfl (lv_at hl 5 rfl) ?_
    refine lv_iconst (v := 0) C.1 C.2.1 dL_law_374 (by decide) ?_
    refine g_lout C E hw dL_law_375 ?_
    refine lv_iload C.1 C.2.1 dL_law_376 (lv_at hl 0 rfl) ?_
    refine lv_i2l (v := Int32.toInt64 r) C.1 C.2.1 dL_law_378 rfl ?_
    refine g_lcmp2 C rfl dL_law_379 ?_
    refine lv_if_eq (tgt := 385) C.1 C.2.1 dL_law_380 (by decide) (fun _ => ?_) (fun hc => absurd rfl hc)
    refine lv_goto (tgt := 2491) C.1 C.2.1 dL_law_385 (by decide) ?_
    refine W.widen (k := 30 + (j + 1) * 8) (n := 500 + (j + 1) * 48) (by (try dsimp only); omega) (by (try dsimp only); omega) ?_
    exact hn _ _ _ h1 _ _ _ hw (lv_sub hl [2, 3, 4, 5, 6] rfl)
  · refine lv_icmp_eq (tgt := 368) C.1 C.2.1 dL_law_363 (by decide) (fun _ => ?_) (fun hc => absurd hk hc)
    refine lv_iload C.1 C.2.1 dL_law_368 (lv_at hl 1 rfl) ?_
    refine lv_if_ne (tgt := 385) C.1 C.2.1 dL_law_370 (by decide) (fun _ => ?_) (fun hc => absurd hc hk0)
    refine lv_goto (tgt := 2491) C.1 C.2.1 dL_law_385 (by decide) ?_
    refine W.widen (k := 30 + (j + 1) * 8) (n := 500 + (j + 1) * 48) (by (try dsimp only); omega) (by (try dsimp only); omega) ?_
    exact hn _ _ _ h1 _ _ _ hw (lv_sub hl [2, 3, 4, 5, 6] rfl)
set_option maxHeartbeats 4000000 in
set_option maxRecDepth 100000 in
theorem law_3 {p : Program} {l : Launch} {e : Env} {s : State} {m : MethodId} {below : List Frame} {meth : Method} {c : Code} {b : Nat} (C : Ctx p s m #[Value.ref b] meth c cL_law 9 RL ret) {D : va_G} {cI cL : ClassId} {qx qm : Nat → Nat} {qo L : Nat} {xs : Nat → Int32} (E : gEL D cI cL s) (Z : gZ (va_A [] s.heap.size) s s.heap) (hT : l.stackTraces = false) (hX : va_X b L xs s s.heap) (hbl : b < s.heap.size) (hL : L ≤ 2048) (j : Nat) (hj : 4 * j + 4 ≤ L) {Q : State → Prop} {X M : St} {o : Nat → Int64} (h : Rel X M) (hn : ∀ (X M : St) (o : Nat → Int64), Rel X M → ∀ (H : Heap) (locs : List Loc) (ls : Array Slot), gW D [] (LW cI cL qx qm qo (X, o) M) s H locs → lv_has ls 9 [(0, .ref b), (1, .ref (qx 0)), (2, .ref (qm 0)), (3, .ref qo), (4, .int (nI (4 * j)))] → W p l e room_1 s m #[Value.ref b] below meth c H locs (30 + (j + 1) * 8) (500 + (j + 1) * 48) Q (F0 m 2491 ls [])) : ∀ (H : Heap) (locs : List Loc) (ls : Array Slot), gW D [] (LW cI cL qx qm qo (X, o) M) s H locs → lv_has ls 9 [(0, .ref b), (1, .ref (qx 0)), (2, .ref (qm 0)), (3, .ref qo), (4, .int (nI (4 * j)))] → W p l e room_1 s m #[Value.ref b] below meth c H locs (30 + j * 8) (500 + j * 48) Q (F0 m 388 ls []) := by
  have hj5 : j ≤ 511 := by omega
  obtain ⟨R, r, M1, hf1, hf2, hag⟩ := op_addDream (xs (4 * j + 1)) (xs (4 * j + 2)) h
  intro H locs ls hw hl
  refine lv_aload_n C.1 C.2.1 dL_law_388 rfl (lv_at hl 1 rfl) ?_
  refine lv_aload_n C.1 C.2.1 dL_law_389 rfl (lv_at hl 0 rfl) ?_
  refine lv_iload C.1 C.2.1 dL_law_390 (lv_at hl 4 rfl) ?_
  refine lv_iconst (v := 1) C.1 C.2.1 dL_law_392 (by decide) ?_
  refine lv_iadd C.1 C.2.1 dL_law_393 ?_
  refine g_sld C hX hbl hL hw (4 * j + 1) (sx1 (4 * j)) (by omega) dL_law_394 ?_
  refine lv_aload_n C.1 C.2.1 dL_law_395 rfl (lv_at hl 0 rfl) ?_
  refine lv_iload C.1 C.2.1 dL_law_396 (lv_at hl 4 rfl) ?_
  refine lv_iconst (v := 2) C.1 C.2.1 dL_law_398 (by decide) ?_
  refine lv_iadd C.1 C.2.1 dL_law_399 ?_
  refine g_sld C hX hbl hL hw (4 * j + 2) (sx2 (4 * j)) (by omega) dL_law_400 ?_
  refine lv_aload_n C.1 C.2.1 dL_law_401 rfl (lv_at hl 3 rfl) ?_
  refine g_lh (rest := []) (As := [.ref (qx 0), .int (xs (4 * j + 1)), .int (xs (4 * j + 2)), .ref qo]) (rm := ({ frames := 8, cells := 3, slots := 18, locals := 134 } : Room)) C E Z hw FH_addDream kz_L (ctL_addDream l hT (cI := cI) (cL := cL) (D := D) (q := qx) (qo := qo) X o (xs (4 * j + 1)) (xs (4 * j + 2)) _ hf1 (fun e S1 he => by simpa using agW_E hag e S1 he)) km_L_144 rfl hl.1 rfl (Nat.le_of_ble_eq_true rfl) ⟨(Nat.le_of_ble_eq_true rfl), (Nat.le_of_ble_eq_true rfl)⟩ ⟨by (try dsimp only [room_1]); omega, by (try dsimp only [room_1]); omega⟩ dL_law_402 (fun k u hp H locs hw => ?_)
  refine lv_istore (lv' := [(5, .int k), (0, .ref b), (1, .ref (qx 0)), (2, .ref (qm 0)), (3, .ref qo), (4, .int (nI (4 * j)))]) C.1 C.2.1 dL_law_405 hl (by decide) rfl (fun ls hl => ?_)
  refine lv_aload_n C.1 C.2.1 dL_law_407 rfl (lv_at hl 3 rfl) ?_
  refine lv_aload_n C.1 C.2.1 dL_law_408 rfl (lv_at hl 1 rfl) ?_
  refine lv_iload C.1 C.2.1 dL_law_409 (lv_at hl 5 rfl) ?_
  refine lv_iconst (v := 1) C.1 C.2.1 dL_law_411 (by decide) ?_
  refine lv_iadd C.1 C.2.1 dL_law_412 ?_
  refine g_sld C hX hbl hL hw (4 * j + 1) (sx1 (4 * j)) (by omega) dL_law_413 ?_
  refine lv_aload_n C.1 C.2.1 dL_law_414 rfl (lv_at hl 1 rfl) ?_
  refine lv_iload C.1 C.2.1 dL_law_415 (lv_at hl 5 rfl) ?_
  refine lv_iconst (v := 2) C.1 C.2.1 dL_law_417 (by decide) ?_
  refine lv_iadd C.1 C.2.1 dL_law_418 ?_
  refine g_sld C hX hbl hL hw (4 * j + 2) (sx2 (4 * j)) (by omega) dL_law_419 ?_
  refine g_lmi (rest := []) hw (g_runV (rm := ({ frames := 2, cells := 0, slots := 0, locals := 43 } : Room)) (As := [.int (xs (4 * j + 1)), .int (xs (4 * j + 2))]) (rest := []) C E.E (gW_sub1 (LW_m hw)) F_X4_addDream (ctX4_addDream l (cI := cI) (D := D) (q := qm) M (xs (4 * j + 1)) (xs (4 * j + 2)) _ hf2) km_L_146 0 rfl rfl rfl hl.1 rfl (Nat.le_of_ble_eq_true rfl) ⟨(Nat.le_of_ble_eq_true rfl), (Nat.le_of_ble_eq_true rfl)⟩ ⟨by (try dsimp only [room_1]); omega, by (try dsimp only [room_1]); omega⟩ dL_law_420) (fun H locs hw => ?_)
  refine lv_istore (lv' := [(6, .int r), (5, .int k), (0, .ref b), (1, .ref (qx 0)), (2, .ref (qm 0)), (3, .ref qo), (4, .int (nI (4 * j)))]) C.1 C.2.1 dL_law_423 hl (by decide) rfl (fun ls hl => ?_)
  refine lv_aload_n C.1 C.2.1 dL_law_425 rfl (lv_at hl 4 rfl) ?_
  refine g_lmi (rest := []) hw (g_runV (rm := ({ frames := 0, cells := 0, slots := 0, locals := 0 } : Room)) (As := []) (rest := []) C E.E (gW_sub1 (LW_m hw)) F_X4_thrown (ctX4_thrown l (cI := cI) (D := D) (q := qm) M1 _ (r1 := M1 10 0) rfl) km_L_133 0 rfl rfl rfl hl.1 rfl (Nat.le_of_ble_eq_true rfl) ⟨(Nat.le_of_ble_eq_true rfl), (Nat.le_of_ble_eq_true rfl)⟩ ⟨by (try dsimp only [room_1]); omega, by (try dsimp only [room_1]); omega⟩ dL_law_426) (fun H locs hw => ?_)
  refine lv_iload C.1 C.2.1 dL_law_429 (lv_at hl 1 rfl) ?_
  rcases finW (fun r => Int32.toInt64 r) (by decide) hag hp with ⟨rfl, hk, X1, rfl, h1⟩ | ⟨hk0, hk, X1, rfl, h1⟩
  · refine lv_icmp_eq (tgt := 436) C.1 C.2.1 dL_law_431 (by decide) (fun _ => ?_) (fun hc => absurd hk hc)
    refine lv_iload C.1 C.2.1 dL_law_436 (lv_at hl 1 rfl) ?_
    refine lv_if_ne (tgt := 453) C.1 C.2.1 dL_law_438 (by decide) (fun hc => absurd rfl hc) (fun _ => ?_)
    refine lv_aload_n C.1 C.2.1 dL_law_441 rfl (lv_at hl 5 rfl) ?_
    refine lv_iconst (v := 0) C.1 C.2.1 dL_law_442 (by decide) ?_
    refine g_lout C E hw dL_law_443 ?_
    refine lv_iload C.1 C.2.1 dL_law_444 (lv_at hl 0 rfl) ?_
    refine lv_i2l (v := Int32.toInt64 r) C.1 C.2.1 dL_law_446 rfl ?_
    refine g_lcmp2 C rfl dL_law_447 ?_
    refine lv_if_eq (tgt := 453) C.1 C.2.1 dL_law_448 (by decide) (fun _ => ?_) (fun hc => absurd rfl hc)
    refine lv_goto (tgt := 2491) C.1 C.2.1 dL_law_453 (by decide) ?_
    refine W.widen (k := 30 + (j + 1) * 8) (n := 500 + (j + 1) * 48) (by (try dsimp only); omega) (by (try dsimp only); omega) ?_
    exact hn _ _ _ h1 _ _ _ hw (lv_sub hl [2, 3, 4, 5, 6] rfl)
  · refine lv_icmp_eq (tgt := 436) C.1 C.2.1 dL_law_431 (by decide) (fun _ => ?_) (fun hc => absurd hk hc)
    refine lv_iload C.1 C.2.1 dL_law_436 (lv_at hl 1 rfl) ?_
    refine lv_if_ne (tgt := 453) C.1 C.2.1 dL_law_438 (by decide) (fun _ => ?_) (fun hc => absurd hc hk0)
    refine lv_goto (tgt := 2491) C.1 C.2.1 dL_law_453 (by decide) ?_
    refine W.widen (k := 30 + (j + 1) * 8) (n := 500 + (j + 1) * 48) (by (try dsimp only); omega) (by (try dsimp only); omega) ?_
    exact hn _ _ _ h1 _ _ _ hw (lv_sub hl [2, 3, 4, 5, 6] rfl)
set_option maxHeartbeats 4000000 in
set_option maxRecDepth 100000 in
theorem law_4 {p : Program} {l : Launch} {e : Env} {s : State} {m : MethodId} {below : List Frame} {meth : Method} {c : Code} {b : Nat} (C : Ctx p s m #[Value.ref b] meth c cL_law 9 RL ret) {D : va_G} {cI cL : ClassId} {qx qm : Nat → Nat} {qo L : Nat} {xs : Nat → Int32} (E : gEL D cI cL s) (Z : gZ (va_A [] s.heap.size) s s.heap) (hT : l.stackTraces = false) (hX : va_X b L xs s s.heap) (hbl : b < s.heap.size) (hL : L ≤ 2048) (j : Nat) (hj : 4 * j + 4 ≤ L) {Q : State → Prop} {X M : St} {o : Nat → Int64} (h : Rel X M) (hn : ∀ (X M : St) (o : Nat → Int64), Rel X M → ∀ (H : Heap) (locs : List Loc) (ls : Array Slot), gW D [] (LW cI cL qx qm qo (X, o) M) s H locs → lv_has ls 9 [(0, .ref b), (1, .ref (qx 0)), (2, .ref (qm 0)), (3, .ref qo), (4, .int (nI (4 * j)))] → W p l e room_1 s m #[Value.ref b] below meth c H locs (30 + (j + 1) * 8) (500 + (j + 1) * 48) Q (F0 m 2491 ls [])) : ∀ (H : Heap) (locs : List Loc) (ls : Array Slot), gW D [] (LW cI cL qx qm qo (X, o) M) s H locs → lv_has ls 9 [(0, .ref b), (1, .ref (qx 0)), (2, .ref (qm 0)), (3, .ref qo), (4, .int (nI (4 * j)))] → W p l e room_1 s m #[Value.ref b] below meth c H locs (30 + j * 8) (500 + j * 48) Q (F0 m 456 ls []) := by
  have hj5 : j ≤ 511 := by omega
  obtain ⟨R, r, M1, hf1, hf2, hag⟩ := op_tagDream (xs (4 * j + 1)) (xs (4 * j + 2)) h
  intro H locs ls hw hl
  refine lv_aload_n C.1 C.2.1 dL_law_456 rfl (lv_at hl 1 rfl) ?_
  refine lv_aload_n C.1 C.2.1 dL_law_457 rfl (lv_at hl 0 rfl) ?_
  refine lv_iload C.1 C.2.1 dL_law_458 (lv_at hl 4 rfl) ?_
  refine lv_iconst (v := 1) C.1 C.2.1 dL_law_460 (by decide) ?_
  refine lv_iadd C.1 C.2.1 dL_law_461 ?_
  refine g_sld C hX hbl hL hw (4 * j + 1) (sx1 (4 * j)) (by omega) dL_law_462 ?_
  refine lv_aload_n C.1 C.2.1 dL_law_463 rfl (lv_at hl 0 rfl) ?_
  refine lv_iload C.1 C.2.1 dL_law_464 (lv_at hl 4 rfl) ?_
  refine lv_iconst (v := 2) C.1 C.2.1 dL_law_466 (by decide) ?_
  refine lv_iadd C.1 C.2.1 dL_law_467 ?_
  refine g_sld C hX hbl hL hw (4 * j + 2) (sx2 (4 * j)) (by omega) dL_law_468 ?_
  refine lv_aload_n C.1 C.2.1 dL_law_469 rfl (lv_at hl 3 rfl) ?_
  refine g_lh (rest := []) (As := [.ref (qx 0), .int (xs (4 * j + 1)), .int (xs (4 * j + 2)), .ref qo]) (rm := ({ frames := 8, cells := 3, slots := 18, locals := 133 } : Room)) C E Z hw FH_tagDream kz_L (ctL_tagDream l hT (cI := cI) (cL := cL) (D := D) (q := qx) (qo := qo) X o (xs (4 * j + 1)) (xs (4 * j + 2)) _ hf1 (fun e S1 he => by simpa using agW_E hag e S1 he)) km_L_147 rfl hl.1 rfl (Nat.le_of_ble_eq_true rfl) ⟨(Nat.le_of_ble_eq_true rfl), (Nat.le_of_ble_eq_true rfl)⟩ ⟨by (try dsimp only [room_1]); omega, by (try dsimp only [room_1]); omega⟩ dL_law_470 (fun k u hp H locs hw => ?_)
  refine lv_istore (lv' := [(5, .int k), (0, .ref b), (1, .ref (qx 0)), (2, .ref (qm 0)), (3, .ref qo), (4, .int (nI (4 * j)))]) C.1 C.2.1 dL_law_473 hl (by decide) rfl (fun ls hl => ?_)
  refine lv_aload_n C.1 C.2.1 dL_law_475 rfl (lv_at hl 3 rfl) ?_
  refine lv_aload_n C.1 C.2.1 dL_law_476 rfl (lv_at hl 1 rfl) ?_
  refine lv_iload C.1 C.2.1 dL_law_477 (lv_at hl 5 rfl) ?_
  refine lv_iconst (v := 1) C.1 C.2.1 dL_law_479 (by decide) ?_
  refine lv_iadd C.1 C.2.1 dL_law_480 ?_
  refine g_sld C hX hbl hL hw (4 * j + 1) (sx1 (4 * j)) (by omega) dL_law_481 ?_
  refine lv_aload_n C.1 C.2.1 dL_law_482 rfl (lv_at hl 1 rfl) ?_
  refine lv_iload C.1 C.2.1 dL_law_483 (lv_at hl 5 rfl) ?_
  refine lv_iconst (v := 2) C.1 C.2.1 dL_law_485 (by decide) ?_
  refine lv_iadd C.1 C.2.1 dL_law_486 ?_
  refine g_sld C hX hbl hL hw (4 * j + 2) (sx2 (4 * j)) (by omega) dL_law_487 ?_
  refine g_lmi (rest := []) hw (g_runV (rm := ({ frames := 2, cells := 0, slots := 0, locals := 44 } : Room)) (As := [.int (xs (4 * j + 1)), .int (xs (4 * j + 2))]) (rest := []) C E.E (gW_sub1 (LW_m hw)) F_X4_tagDream (ctX4_tagDream l (cI := cI) (D := D) (q := qm) M (xs (4 * j + 1)) (xs (4 * j + 2)) _ hf2) km_L_149 0 rfl rfl rfl hl.1 rfl (Nat.le_of_ble_eq_true rfl) ⟨(Nat.le_of_ble_eq_true rfl), (Nat.le_of_ble_eq_true rfl)⟩ ⟨by (try dsimp only [room_1]); omega, by (try dsimp only [room_1]); omega⟩ dL_law_488) (fun H locs hw => ?_)
  refine lv_istore (lv' := [(6, .int r), (5, .int k), (0, .ref b), (1, .ref (qx 0)), (2, .ref (qm 0)), (3, .ref qo), (4, .int (nI (4 * j)))]) C.1 C.2.1 dL_law_491 hl (by decide) rfl (fun ls hl => ?_)
  refine lv_aload_n C.1 C.2.1 dL_law_493 rfl (lv_at hl 4 rfl) ?_
  refine g_lmi (rest := []) hw (g_runV (rm := ({ frames := 0, cells := 0, slots := 0, locals := 0 } : Room)) (As := []) (rest := []) C E.E (gW_sub1 (LW_m hw)) F_X4_thrown (ctX4_thrown l (cI := cI) (D := D) (q := qm) M1 _ (r1 := M1 10 0) rfl) km_L_133 0 rfl rfl rfl hl.1 rfl (Nat.le_of_ble_eq_true rfl) ⟨(Nat.le_of_ble_eq_true rfl), (Nat.le_of_ble_eq_true rfl)⟩ ⟨by (try dsimp only [room_1]); omega, by (try dsimp only [room_1]); omega⟩ dL_law_494) (fun H locs hw => ?_)
  refine lv_iload C.1 C.2.1 dL_law_497 (lv_at hl 1 rfl) ?_
  rcases finW (fun r => Int32.toInt64 r) (by decide) hag hp with ⟨rfl, hk, X1, rfl, h1⟩ | ⟨hk0, hk, X1, rfl, h1⟩
  · refine lv_icmp_eq (tgt := 504) C.1 C.2.1 dL_law_499 (by decide) (fun _ => ?_) (fun hc => absurd hk hc)
    refine lv_iload C.1 C.2.1 dL_law_504 (lv_at hl 1 rfl) ?_
    refine lv_if_ne (tgt := 521) C.1 C.2.1 dL_law_506 (by decide) (fun hc => absurd rfl hc) (fun _ => ?_)
    refine lv_aload_n C.1 C.2.1 dL_law_509 rfl (lv_at hl 5 rfl) ?_
    refine lv_iconst (v := 0) C.1 C.2.1 dL_law_510 (by decide) ?_
    refine g_lout C E hw dL_law_511 ?_
    refine lv_iload C.1 C.2.1 dL_law_512 (lv_at hl 0 rfl) ?_
    refine lv_i2l (v := Int32.toInt64 r) C.1 C.2.1 dL_law_514 rfl ?_
    refine g_lcmp2 C rfl dL_law_515 ?_
    refine lv_if_eq (tgt := 521) C.1 C.2.1 dL_law_516 (by decide) (fun _ => ?_) (fun hc => absurd rfl hc)
    refine lv_goto (tgt := 2491) C.1 C.2.1 dL_law_521 (by decide) ?_
    refine W.widen (k := 30 + (j + 1) * 8) (n := 500 + (j + 1) * 48) (by (try dsimp only); omega) (by (try dsimp only); omega) ?_
    exact hn _ _ _ h1 _ _ _ hw (lv_sub hl [2, 3, 4, 5, 6] rfl)
  · refine lv_icmp_eq (tgt := 504) C.1 C.2.1 dL_law_499 (by decide) (fun _ => ?_) (fun hc => absurd hk hc)
    refine lv_iload C.1 C.2.1 dL_law_504 (lv_at hl 1 rfl) ?_
    refine lv_if_ne (tgt := 521) C.1 C.2.1 dL_law_506 (by decide) (fun _ => ?_) (fun hc => absurd hc hk0)
    refine lv_goto (tgt := 2491) C.1 C.2.1 dL_law_521 (by decide) ?_
    refine W.widen (k := 30 + (j + 1) * 8) (n := 500 + (j + 1) * 48) (by (try dsimp only); omega) (by (try dsimp only); omega) ?_
    exact hn _ _ _ h1 _ _ _ hw (lv_sub hl [2, 3, 4, 5, 6] rfl)
set_option maxHeartbeats 4000000 in
set_option maxRecDepth 100000 in
theorem law_5 {p : Program} {l : Launch} {e : Env} {s : State} {m : MethodId} {below : List Frame} {meth : Method} {c : Code} {b : Nat} (C : Ctx p s m #[Value.ref b] meth c cL_law 9 RL ret) {D : va_G} {cI cL : ClassId} {qx qm : Nat → Nat} {qo L : Nat} {xs : Nat → Int32} (E : gEL D cI cL s) (Z : gZ (va_A [] s.heap.size) s s.heap) (hT : l.stackTraces = false) (hX : va_X b L xs s s.heap) (hbl : b < s.heap.size) (hL : L ≤ 2048) (j : Nat) (hj : 4 * j + 4 ≤ L) {Q : State → Prop} {X M : St} {o : Nat → Int64} (h : Rel X M) (hn : ∀ (X M : St) (o : Nat → Int64), Rel X M → ∀ (H : Heap) (locs : List Loc) (ls : Array Slot), gW D [] (LW cI cL qx qm qo (X, o) M) s H locs → lv_has ls 9 [(0, .ref b), (1, .ref (qx 0)), (2, .ref (qm 0)), (3, .ref qo), (4, .int (nI (4 * j)))] → W p l e room_1 s m #[Value.ref b] below meth c H locs (30 + (j + 1) * 8) (500 + (j + 1) * 48) Q (F0 m 2491 ls [])) : ∀ (H : Heap) (locs : List Loc) (ls : Array Slot), gW D [] (LW cI cL qx qm qo (X, o) M) s H locs → lv_has ls 9 [(0, .ref b), (1, .ref (qx 0)), (2, .ref (qm 0)), (3, .ref qo), (4, .int (nI (4 * j)))] → W p l e room_1 s m #[Value.ref b] below meth c H locs (30 + j * 8) (500 + j * 48) Q (F0 m 524 ls []) := by
  have hj5 : j ≤ 511 := by omega
  obtain ⟨R, r, M1, hf1, hf2, hag⟩ := op_untagDream (xs (4 * j + 1)) (xs (4 * j + 2)) h
  intro H locs ls hw hl
  refine lv_aload_n C.1 C.2.1 dL_law_524 rfl (lv_at hl 1 rfl) ?_
  refine lv_aload_n C.1 C.2.1 dL_law_525 rfl (lv_at hl 0 rfl) ?_
  refine lv_iload C.1 C.2.1 dL_law_526 (lv_at hl 4 rfl) ?_
  refine lv_iconst (v := 1) C.1 C.2.1 dL_law_528 (by decide) ?_
  refine lv_iadd C.1 C.2.1 dL_law_529 ?_
  refine g_sld C hX hbl hL hw (4 * j + 1) (sx1 (4 * j)) (by omega) dL_law_530 ?_
  refine lv_aload_n C.1 C.2.1 dL_law_531 rfl (lv_at hl 0 rfl) ?_
  refine lv_iload C.1 C.2.1 dL_law_532 (lv_at hl 4 rfl) ?_
  refine lv_iconst (v := 2) C.1 C.2.1 dL_law_534 (by decide) ?_
  refine lv_iadd C.1 C.2.1 dL_law_535 ?_
  refine g_sld C hX hbl hL hw (4 * j + 2) (sx2 (4 * j)) (by omega) dL_law_536 ?_
  refine lv_aload_n C.1 C.2.1 dL_law_537 rfl (lv_at hl 3 rfl) ?_
  refine g_lh (rest := []) (As := [.ref (qx 0), .int (xs (4 * j + 1)), .int (xs (4 * j + 2)), .ref qo]) (rm := ({ frames := 8, cells := 4, slots := 24, locals := 133 } : Room)) C E Z hw FH_untagDream kz_L (ctL_untagDream l hT (cI := cI) (cL := cL) (D := D) (q := qx) (qo := qo) X o (xs (4 * j + 1)) (xs (4 * j + 2)) _ hf1 (fun e S1 he => by simpa using agW_E hag e S1 he)) km_L_150 rfl hl.1 rfl (Nat.le_of_ble_eq_true rfl) ⟨(Nat.le_of_ble_eq_true rfl), (Nat.le_of_ble_eq_true rfl)⟩ ⟨by (try dsimp only [room_1]); omega, by (try dsimp only [room_1]); omega⟩ dL_law_538 (fun k u hp H locs hw => ?_)
  refine lv_istore (lv' := [(5, .int k), (0, .ref b), (1, .ref (qx 0)), (2, .ref (qm 0)), (3, .ref qo), (4, .int (nI (4 * j)))]) C.1 C.2.1 dL_law_541 hl (by decide) rfl (fun ls hl => ?_)
  refine lv_aload_n C.1 C.2.1 dL_law_543 rfl (lv_at hl 3 rfl) ?_
  refine lv_aload_n C.1 C.2.1 dL_law_544 rfl (lv_at hl 1 rfl) ?_
  refine lv_iload C.1 C.2.1 dL_law_545 (lv_at hl 5 rfl) ?_
  refine lv_iconst (v := 1) C.1 C.2.1 dL_law_547 (by decide) ?_
  refine lv_iadd C.1 C.2.1 dL_law_548 ?_
  refine g_sld C hX hbl hL hw (4 * j + 1) (sx1 (4 * j)) (by omega) dL_law_549 ?_
  refine lv_aload_n C.1 C.2.1 dL_law_550 rfl (lv_at hl 1 rfl) ?_
  refine lv_iload C.1 C.2.1 dL_law_551 (lv_at hl 5 rfl) ?_
  refine lv_iconst (v := 2) C.1 C.2.1 dL_law_553 (by decide) ?_
  refine lv_iadd C.1 C.2.1 dL_law_554 ?_
  refine g_sld C hX hbl hL hw (4 * j + 2) (sx2 (4 * j)) (by omega) dL_law_555 ?_
  refine g_lmi (rest := []) hw (g_runV (rm := ({ frames := 2, cells := 0, slots := 0, locals := 44 } : Room)) (As := [.int (xs (4 * j + 1)), .int (xs (4 * j + 2))]) (rest := []) C E.E (gW_sub1 (LW_m hw)) F_X4_untagDream (ctX4_untagDream l (cI := cI) (D := D) (q := qm) M (xs (4 * j + 1)) (xs (4 * j + 2)) _ hf2) km_L_152 0 rfl rfl rfl hl.1 rfl (Nat.le_of_ble_eq_true rfl) ⟨(Nat.le_of_ble_eq_true rfl), (Nat.le_of_ble_eq_true rfl)⟩ ⟨by (try dsimp only [room_1]); omega, by (try dsimp only [room_1]); omega⟩ dL_law_556) (fun H locs hw => ?_)
  refine lv_istore (lv' := [(6, .int r), (5, .int k), (0, .ref b), (1, .ref (qx 0)), (2, .ref (qm 0)), (3, .ref qo), (4, .int (nI (4 * j)))]) C.1 C.2.1 dL_law_559 hl (by decide) rfl (fun ls hl => ?_)
  refine lv_aload_n C.1 C.2.1 dL_law_561 rfl (lv_at hl 4 rfl) ?_
  refine g_lmi (rest := []) hw (g_runV (rm := ({ frames := 0, cells := 0, slots := 0, locals := 0 } : Room)) (As := []) (rest := []) C E.E (gW_sub1 (LW_m hw)) F_X4_thrown (ctX4_thrown l (cI := cI) (D := D) (q := qm) M1 _ (r1 := M1 10 0) rfl) km_L_133 0 rfl rfl rfl hl.1 rfl (Nat.le_of_ble_eq_true rfl) ⟨(Nat.le_of_ble_eq_true rfl), (Nat.le_of_ble_eq_true rfl)⟩ ⟨by (try dsimp only [room_1]); omega, by (try dsimp only [room_1]); omega⟩ dL_law_562) (fun H locs hw => ?_)
  refine lv_iload C.1 C.2.1 dL_law_565 (lv_at hl 1 rfl) ?_
  rcases finW (fun r => Int32.toInt64 r) (by decide) hag hp with ⟨rfl, hk, X1, rfl, h1⟩ | ⟨hk0, hk, X1, rfl, h1⟩
  · refine lv_icmp_eq (tgt := 572) C.1 C.2.1 dL_law_567 (by decide) (fun _ => ?_) (fun hc => absurd hk hc)
    refine lv_iload C.1 C.2.1 dL_law_572 (lv_at hl 1 rfl) ?_
    refine lv_if_ne (tgt := 589) C.1 C.2.1 dL_law_574 (by decide) (fun hc => absurd rfl hc) (fun _ => ?_)
    refine lv_aload_n C.1 C.2.1 dL_law_577 rfl (lv_at hl 5 rfl) ?_
    refine lv_iconst (v := 0) C.1 C.2.1 dL_law_578 (by decide) ?_
    refine g_lout C E hw dL_law_579 ?_
    refine lv_iload C.1 C.2.1 dL_law_580 (lv_at hl 0 rfl) ?_
    refine lv_i2l (v := Int32.toInt64 r) C.1 C.2.1 dL_law_582 rfl ?_
    refine g_lcmp2 C rfl dL_law_583 ?_
    refine lv_if_eq (tgt := 589) C.1 C.2.1 dL_law_584 (by decide) (fun _ => ?_) (fun hc => absurd rfl hc)
    refine lv_goto (tgt := 2491) C.1 C.2.1 dL_law_589 (by decide) ?_
    refine W.widen (k := 30 + (j + 1) * 8) (n := 500 + (j + 1) * 48) (by (try dsimp only); omega) (by (try dsimp only); omega) ?_
    exact hn _ _ _ h1 _ _ _ hw (lv_sub hl [2, 3, 4, 5, 6] rfl)
  · refine lv_icmp_eq (tgt := 572) C.1 C.2.1 dL_law_567 (by decide) (fun _ => ?_) (fun hc => absurd hk hc)
    refine lv_iload C.1 C.2.1 dL_law_572 (lv_at hl 1 rfl) ?_
    refine lv_if_ne (tgt := 589) C.1 C.2.1 dL_law_574 (by decide) (fun _ => ?_) (fun hc => absurd hc hk0)
    refine lv_goto (tgt := 2491) C.1 C.2.1 dL_law_589 (by decide) ?_
    refine W.widen (k := 30 + (j + 1) * 8) (n := 500 + (j + 1) * 48) (by (try dsimp only); omega) (by (try dsimp only); omega) ?_
    exact hn _ _ _ h1 _ _ _ hw (lv_sub hl [2, 3, 4, 5, 6] rfl)
set_option maxHeartbeats 4000000 in
set_option maxRecDepth 100000 in
theorem law_6 {p : Program} {l : Launch} {e : Env} {s : State} {m : MethodId} {below : List Frame} {meth : Method} {c : Code} {b : Nat} (C : Ctx p s m #[Value.ref b] meth c cL_law 9 RL ret) {D : va_G} {cI cL : ClassId} {qx qm : Nat → Nat} {qo L : Nat} {xs : Nat → Int32} (E : gEL D cI cL s) (Z : gZ (va_A [] s.heap.size) s s.heap) (hT : l.stackTraces = false) (hX : va_X b L xs s s.heap) (hbl : b < s.heap.size) (hL : L ≤ 2048) (j : Nat) (hj : 4 * j + 4 ≤ L) {Q : State → Prop} {X M : St} {o : Nat → Int64} (h : Rel X M) (hn : ∀ (X M : St) (o : Nat → Int64), Rel X M → ∀ (H : Heap) (locs : List Loc) (ls : Array Slot), gW D [] (LW cI cL qx qm qo (X, o) M) s H locs → lv_has ls 9 [(0, .ref b), (1, .ref (qx 0)), (2, .ref (qm 0)), (3, .ref qo), (4, .int (nI (4 * j)))] → W p l e room_1 s m #[Value.ref b] below meth c H locs (30 + (j + 1) * 8) (500 + (j + 1) * 48) Q (F0 m 2491 ls [])) : ∀ (H : Heap) (locs : List Loc) (ls : Array Slot), gW D [] (LW cI cL qx qm qo (X, o) M) s H locs → lv_has ls 9 [(0, .ref b), (1, .ref (qx 0)), (2, .ref (qm 0)), (3, .ref qo), (4, .int (nI (4 * j)))] → W p l e room_1 s m #[Value.ref b] below meth c H locs (30 + j * 8) (500 + j * 48) Q (F0 m 592 ls []) := by
  have hj5 : j ≤ 511 := by omega
  obtain ⟨R, r, M1, hf1, hf2, hag⟩ := op_recall (xs (4 * j + 1)) (xs (4 * j + 2)) h
  intro H locs ls hw hl
  refine lv_aload_n C.1 C.2.1 dL_law_592 rfl (lv_at hl 1 rfl) ?_
  refine lv_aload_n C.1 C.2.1 dL_law_593 rfl (lv_at hl 0 rfl) ?_
  refine lv_iload C.1 C.2.1 dL_law_594 (lv_at hl 4 rfl) ?_
  refine lv_iconst (v := 1) C.1 C.2.1 dL_law_596 (by decide) ?_
  refine lv_iadd C.1 C.2.1 dL_law_597 ?_
  refine g_sld C hX hbl hL hw (4 * j + 1) (sx1 (4 * j)) (by omega) dL_law_598 ?_
  refine lv_aload_n C.1 C.2.1 dL_law_599 rfl (lv_at hl 0 rfl) ?_
  refine lv_iload C.1 C.2.1 dL_law_600 (lv_at hl 4 rfl) ?_
  refine lv_iconst (v := 2) C.1 C.2.1 dL_law_602 (by decide) ?_
  refine lv_iadd C.1 C.2.1 dL_law_603 ?_
  refine g_sld C hX hbl hL hw (4 * j + 2) (sx2 (4 * j)) (by omega) dL_law_604 ?_
  refine lv_aload_n C.1 C.2.1 dL_law_605 rfl (lv_at hl 3 rfl) ?_
  refine g_lh (rest := []) (As := [.ref (qx 0), .int (xs (4 * j + 1)), .int (xs (4 * j + 2)), .ref qo]) (rm := ({ frames := 8, cells := 2, slots := 12, locals := 134 } : Room)) C E Z hw FH_recall kz_L (ctL_recall l hT (cI := cI) (cL := cL) (D := D) (q := qx) (qo := qo) X o (xs (4 * j + 1)) (xs (4 * j + 2)) _ hf1 (fun e S1 he => by simpa using agW_E hag e S1 he)) km_L_153 rfl hl.1 rfl (Nat.le_of_ble_eq_true rfl) ⟨(Nat.le_of_ble_eq_true rfl), (Nat.le_of_ble_eq_true rfl)⟩ ⟨by (try dsimp only [room_1]); omega, by (try dsimp only [room_1]); omega⟩ dL_law_606 (fun k u hp H locs hw => ?_)
  refine lv_istore (lv' := [(5, .int k), (0, .ref b), (1, .ref (qx 0)), (2, .ref (qm 0)), (3, .ref qo), (4, .int (nI (4 * j)))]) C.1 C.2.1 dL_law_609 hl (by decide) rfl (fun ls hl => ?_)
  refine lv_aload_n C.1 C.2.1 dL_law_611 rfl (lv_at hl 3 rfl) ?_
  refine lv_aload_n C.1 C.2.1 dL_law_612 rfl (lv_at hl 1 rfl) ?_
  refine lv_iload C.1 C.2.1 dL_law_613 (lv_at hl 5 rfl) ?_
  refine lv_iconst (v := 1) C.1 C.2.1 dL_law_615 (by decide) ?_
  refine lv_iadd C.1 C.2.1 dL_law_616 ?_
  refine g_sld C hX hbl hL hw (4 * j + 1) (sx1 (4 * j)) (by omega) dL_law_617 ?_
  refine lv_aload_n C.1 C.2.1 dL_law_618 rfl (lv_at hl 1 rfl) ?_
  refine lv_iload C.1 C.2.1 dL_law_619 (lv_at hl 5 rfl) ?_
  refine lv_iconst (v := 2) C.1 C.2.1 dL_law_621 (by decide) ?_
  refine lv_iadd C.1 C.2.1 dL_law_622 ?_
  refine g_sld C hX hbl hL hw (4 * j + 2) (sx2 (4 * j)) (by omega) dL_law_623 ?_
  refine g_lmi (rest := []) hw (g_runV (rm := ({ frames := 2, cells := 0, slots := 0, locals := 43 } : Room)) (As := [.int (xs (4 * j + 1)), .int (xs (4 * j + 2))]) (rest := []) C E.E (gW_sub1 (LW_m hw)) F_X4_recall (ctX4_recall l (cI := cI) (D := D) (q := qm) M (xs (4 * j + 1)) (xs (4 * j + 2)) _ hf2) km_L_155 0 rfl rfl rfl hl.1 rfl (Nat.le_of_ble_eq_true rfl) ⟨(Nat.le_of_ble_eq_true rfl), (Nat.le_of_ble_eq_true rfl)⟩ ⟨by (try dsimp only [room_1]); omega, by (try dsimp only [room_1]); omega⟩ dL_law_624) (fun H locs hw => ?_)
  refine lv_istore (lv' := [(6, .int r), (5, .int k), (0, .ref b), (1, .ref (qx 0)), (2, .ref (qm 0)), (3, .ref qo), (4, .int (nI (4 * j)))]) C.1 C.2.1 dL_law_627 hl (by decide) rfl (fun ls hl => ?_)
  refine lv_aload_n C.1 C.2.1 dL_law_629 rfl (lv_at hl 4 rfl) ?_
  refine g_lmi (rest := []) hw (g_runV (rm := ({ frames := 0, cells := 0, slots := 0, locals := 0 } : Room)) (As := []) (rest := []) C E.E (gW_sub1 (LW_m hw)) F_X4_thrown (ctX4_thrown l (cI := cI) (D := D) (q := qm) M1 _ (r1 := M1 10 0) rfl) km_L_133 0 rfl rfl rfl hl.1 rfl (Nat.le_of_ble_eq_true rfl) ⟨(Nat.le_of_ble_eq_true rfl), (Nat.le_of_ble_eq_true rfl)⟩ ⟨by (try dsimp only [room_1]); omega, by (try dsimp only [room_1]); omega⟩ dL_law_630) (fun H locs hw => ?_)
  refine lv_iload C.1 C.2.1 dL_law_633 (lv_at hl 1 rfl) ?_
  rcases finW (fun r => Int32.toInt64 r) (by decide) hag hp with ⟨rfl, hk, X1, rfl, h1⟩ | ⟨hk0, hk, X1, rfl, h1⟩
  · refine lv_icmp_eq (tgt := 640) C.1 C.2.1 dL_law_635 (by decide) (fun _ => ?_) (fun hc => absurd hk hc)
    refine lv_iload C.1 C.2.1 dL_law_640 (lv_at hl 1 rfl) ?_
    refine lv_if_ne (tgt := 657) C.1 C.2.1 dL_law_642 (by decide) (fun hc => absurd rfl hc) (fun _ => ?_)
    refine lv_aload_n C.1 C.2.1 dL_law_645 rfl (lv_at hl 5 rfl) ?_
    refine lv_iconst (v := 0) C.1 C.2.1 dL_law_646 (by decide) ?_
    refine g_lout C E hw dL_law_647 ?_
    refine lv_iload C.1 C.2.1 dL_law_648 (lv_at hl 0 rfl) ?_
    refine lv_i2l (v := Int32.toInt64 r) C.1 C.2.1 dL_law_650 rfl ?_
    refine g_lcmp2 C rfl dL_law_651 ?_
    refine lv_if_eq (tgt := 657) C.1 C.2.1 dL_law_652 (by decide) (fun _ => ?_) (fun hc => absurd rfl hc)
    refine lv_goto (tgt := 2491) C.1 C.2.1 dL_law_657 (by decide) ?_
    refine W.widen (k := 30 + (j + 1) * 8) (n := 500 + (j + 1) * 48) (by (try dsimp only); omega) (by (try dsimp only); omega) ?_
    exact hn _ _ _ h1 _ _ _ hw (lv_sub hl [2, 3, 4, 5, 6] rfl)
  · refine lv_icmp_eq (tgt := 640) C.1 C.2.1 dL_law_635 (by decide) (fun _ => ?_) (fun hc => absurd hk hc)
    refine lv_iload C.1 C.2.1 dL_law_640 (lv_at hl 1 rfl) ?_
    refine lv_if_ne (tgt := 657) C.1 C.2.1 dL_law_642 (by decide) (fun _ => ?_) (fun hc => absurd hc hk0)
    refine lv_goto (tgt := 2491) C.1 C.2.1 dL_law_657 (by decide) ?_
    refine W.widen (k := 30 + (j + 1) * 8) (n := 500 + (j + 1) * 48) (by (try dsimp only); omega) (by (try dsimp only); omega) ?_
    exact hn _ _ _ h1 _ _ _ hw (lv_sub hl [2, 3, 4, 5, 6] rfl)
set_option maxHeartbeats 4000000 in
set_option maxRecDepth 100000 in
theorem law_7 {p : Program} {l : Launch} {e : Env} {s : State} {m : MethodId} {below : List Frame} {meth : Method} {c : Code} {b : Nat} (C : Ctx p s m #[Value.ref b] meth c cL_law 9 RL ret) {D : va_G} {cI cL : ClassId} {qx qm : Nat → Nat} {qo L : Nat} {xs : Nat → Int32} (E : gEL D cI cL s) (Z : gZ (va_A [] s.heap.size) s s.heap) (hT : l.stackTraces = false) (hX : va_X b L xs s s.heap) (hbl : b < s.heap.size) (hL : L ≤ 2048) (j : Nat) (hj : 4 * j + 4 ≤ L) {Q : State → Prop} {X M : St} {o : Nat → Int64} (h : Rel X M) (hn : ∀ (X M : St) (o : Nat → Int64), Rel X M → ∀ (H : Heap) (locs : List Loc) (ls : Array Slot), gW D [] (LW cI cL qx qm qo (X, o) M) s H locs → lv_has ls 9 [(0, .ref b), (1, .ref (qx 0)), (2, .ref (qm 0)), (3, .ref qo), (4, .int (nI (4 * j)))] → W p l e room_1 s m #[Value.ref b] below meth c H locs (30 + (j + 1) * 8) (500 + (j + 1) * 48) Q (F0 m 2491 ls [])) : ∀ (H : Heap) (locs : List Loc) (ls : Array Slot), gW D [] (LW cI cL qx qm qo (X, o) M) s H locs → lv_has ls 9 [(0, .ref b), (1, .ref (qx 0)), (2, .ref (qm 0)), (3, .ref qo), (4, .int (nI (4 * j)))] → W p l e room_1 s m #[Value.ref b] below meth c H locs (30 + j * 8) (500 + j * 48) Q (F0 m 660 ls []) := by
  have hj5 : j ≤ 511 := by omega
  obtain ⟨R, r, M1, hf1, hf2, hag⟩ := op_passNights (xs (4 * j + 1)) h
  intro H locs ls hw hl
  refine lv_aload_n C.1 C.2.1 dL_law_660 rfl (lv_at hl 1 rfl) ?_
  refine lv_aload_n C.1 C.2.1 dL_law_661 rfl (lv_at hl 0 rfl) ?_
  refine lv_iload C.1 C.2.1 dL_law_662 (lv_at hl 4 rfl) ?_
  refine lv_iconst (v := 1) C.1 C.2.1 dL_law_664 (by decide) ?_
  refine lv_iadd C.1 C.2.1 dL_law_665 ?_
  refine g_sld C hX hbl hL hw (4 * j + 1) (sx1 (4 * j)) (by omega) dL_law_666 ?_
  refine lv_aload_n C.1 C.2.1 dL_law_667 rfl (lv_at hl 3 rfl) ?_
  refine g_lh (rest := []) (As := [.ref (qx 0), .int (xs (4 * j + 1)), .ref qo]) (rm := ({ frames := 8, cells := 1, slots := 6, locals := 133 } : Room)) C E Z hw FH_passNights kz_L (ctL_passNights l hT (cI := cI) (cL := cL) (D := D) (q := qx) (qo := qo) X o (xs (4 * j + 1)) _ hf1 (fun e S1 he => by simpa using agW_E hag e S1 he)) km_L_156 rfl hl.1 rfl (Nat.le_of_ble_eq_true rfl) ⟨(Nat.le_of_ble_eq_true rfl), (Nat.le_of_ble_eq_true rfl)⟩ ⟨by (try dsimp only [room_1]); omega, by (try dsimp only [room_1]); omega⟩ dL_law_668 (fun k u hp H locs hw => ?_)
  refine lv_istore (lv' := [(5, .int k), (0, .ref b), (1, .ref (qx 0)), (2, .ref (qm 0)), (3, .ref qo), (4, .int (nI (4 * j)))]) C.1 C.2.1 dL_law_671 hl (by decide) rfl (fun ls hl => ?_)
  refine lv_aload_n C.1 C.2.1 dL_law_673 rfl (lv_at hl 3 rfl) ?_
  refine lv_aload_n C.1 C.2.1 dL_law_674 rfl (lv_at hl 1 rfl) ?_
  refine lv_iload C.1 C.2.1 dL_law_675 (lv_at hl 5 rfl) ?_
  refine lv_iconst (v := 1) C.1 C.2.1 dL_law_677 (by decide) ?_
  refine lv_iadd C.1 C.2.1 dL_law_678 ?_
  refine g_sld C hX hbl hL hw (4 * j + 1) (sx1 (4 * j)) (by omega) dL_law_679 ?_
  refine g_lmi (rest := []) hw (g_runV (rm := ({ frames := 3, cells := 0, slots := 0, locals := 67 } : Room)) (As := [.int (xs (4 * j + 1))]) (rest := []) C E.E (gW_sub1 (LW_m hw)) F_X4_passNights (ctX4_passNights l (cI := cI) (D := D) (q := qm) M (xs (4 * j + 1)) _ hf2) km_L_158 0 rfl rfl rfl hl.1 rfl (Nat.le_of_ble_eq_true rfl) ⟨(Nat.le_of_ble_eq_true rfl), (Nat.le_of_ble_eq_true rfl)⟩ ⟨by (try dsimp only [room_1]); omega, by (try dsimp only [room_1]); omega⟩ dL_law_680) (fun H locs hw => ?_)
  refine lv_istore (lv' := [(6, .int r), (5, .int k), (0, .ref b), (1, .ref (qx 0)), (2, .ref (qm 0)), (3, .ref qo), (4, .int (nI (4 * j)))]) C.1 C.2.1 dL_law_683 hl (by decide) rfl (fun ls hl => ?_)
  refine lv_aload_n C.1 C.2.1 dL_law_685 rfl (lv_at hl 4 rfl) ?_
  refine g_lmi (rest := []) hw (g_runV (rm := ({ frames := 0, cells := 0, slots := 0, locals := 0 } : Room)) (As := []) (rest := []) C E.E (gW_sub1 (LW_m hw)) F_X4_thrown (ctX4_thrown l (cI := cI) (D := D) (q := qm) M1 _ (r1 := M1 10 0) rfl) km_L_133 0 rfl rfl rfl hl.1 rfl (Nat.le_of_ble_eq_true rfl) ⟨(Nat.le_of_ble_eq_true rfl), (Nat.le_of_ble_eq_true rfl)⟩ ⟨by (try dsimp only [room_1]); omega, by (try dsimp only [room_1]); omega⟩ dL_law_686) (fun H locs hw => ?_)
  refine lv_iload C.1 C.2.1 dL_law_689 (lv_at hl 1 rfl) ?_
  rcases finW (fun r => Int32.toInt64 r) (by decide) hag hp with ⟨rfl, hk, X1, rfl, h1⟩ | ⟨hk0, hk, X1, rfl, h1⟩
  · refine lv_icmp_eq (tgt := 696) C.1 C.2.1 dL_law_691 (by decide) (fun _ => ?_) (fun hc => absurd hk hc)
    refine lv_iload C.1 C.2.1 dL_law_696 (lv_at hl 1 rfl) ?_
    refine lv_if_ne (tgt := 713) C.1 C.2.1 dL_law_698 (by decide) (fun hc => absurd rfl hc) (fun _ => ?_)
    refine lv_aload_n C.1 C.2.1 dL_law_701 rfl (lv_at hl 5 rfl) ?_
    refine lv_iconst (v := 0) C.1 C.2.1 dL_law_702 (by decide) ?_
    refine g_lout C E hw dL_law_703 ?_
    refine lv_iload C.1 C.2.1 dL_law_704 (lv_at hl 0 rfl) ?_
    refine lv_i2l (v := Int32.toInt64 r) C.1 C.2.1 dL_law_706 rfl ?_
    refine g_lcmp2 C rfl dL_law_707 ?_
    refine lv_if_eq (tgt := 713) C.1 C.2.1 dL_law_708 (by decide) (fun _ => ?_) (fun hc => absurd rfl hc)
    refine lv_goto (tgt := 2491) C.1 C.2.1 dL_law_713 (by decide) ?_
    refine W.widen (k := 30 + (j + 1) * 8) (n := 500 + (j + 1) * 48) (by (try dsimp only); omega) (by (try dsimp only); omega) ?_
    exact hn _ _ _ h1 _ _ _ hw (lv_sub hl [2, 3, 4, 5, 6] rfl)
  · refine lv_icmp_eq (tgt := 696) C.1 C.2.1 dL_law_691 (by decide) (fun _ => ?_) (fun hc => absurd hk hc)
    refine lv_iload C.1 C.2.1 dL_law_696 (lv_at hl 1 rfl) ?_
    refine lv_if_ne (tgt := 713) C.1 C.2.1 dL_law_698 (by decide) (fun _ => ?_) (fun hc => absurd hc hk0)
    refine lv_goto (tgt := 2491) C.1 C.2.1 dL_law_713 (by decide) ?_
    refine W.widen (k := 30 + (j + 1) * 8) (n := 500 + (j + 1) * 48) (by (try dsimp only); omega) (by (try dsimp only); omega) ?_
    exact hn _ _ _ h1 _ _ _ hw (lv_sub hl [2, 3, 4, 5, 6] rfl)
set_option maxHeartbeats 4000000 in
set_option maxRecDepth 100000 in
theorem law_8 {p : Program} {l : Launch} {e : Env} {s : State} {m : MethodId} {below : List Frame} {meth : Method} {c : Code} {b : Nat} (C : Ctx p s m #[Value.ref b] meth c cL_law 9 RL ret) {D : va_G} {cI cL : ClassId} {qx qm : Nat → Nat} {qo L : Nat} {xs : Nat → Int32} (E : gEL D cI cL s) (Z : gZ (va_A [] s.heap.size) s s.heap) (hT : l.stackTraces = false) (hX : va_X b L xs s s.heap) (hbl : b < s.heap.size) (hL : L ≤ 2048) (j : Nat) (hj : 4 * j + 4 ≤ L) {Q : State → Prop} {X M : St} {o : Nat → Int64} (h : Rel X M) (hn : ∀ (X M : St) (o : Nat → Int64), Rel X M → ∀ (H : Heap) (locs : List Loc) (ls : Array Slot), gW D [] (LW cI cL qx qm qo (X, o) M) s H locs → lv_has ls 9 [(0, .ref b), (1, .ref (qx 0)), (2, .ref (qm 0)), (3, .ref qo), (4, .int (nI (4 * j)))] → W p l e room_1 s m #[Value.ref b] below meth c H locs (30 + (j + 1) * 8) (500 + (j + 1) * 48) Q (F0 m 2491 ls [])) : ∀ (H : Heap) (locs : List Loc) (ls : Array Slot), gW D [] (LW cI cL qx qm qo (X, o) M) s H locs → lv_has ls 9 [(0, .ref b), (1, .ref (qx 0)), (2, .ref (qm 0)), (3, .ref qo), (4, .int (nI (4 * j)))] → W p l e room_1 s m #[Value.ref b] below meth c H locs (30 + j * 8) (500 + j * 48) Q (F0 m 716 ls []) := by
  have hj5 : j ≤ 511 := by omega
  obtain ⟨R, r, M1, hf1, hf2, hag⟩ := op_addTagTerm (xs (4 * j + 1)) h
  intro H locs ls hw hl
  refine lv_aload_n C.1 C.2.1 dL_law_716 rfl (lv_at hl 1 rfl) ?_
  refine lv_aload_n C.1 C.2.1 dL_law_717 rfl (lv_at hl 0 rfl) ?_
  refine lv_iload C.1 C.2.1 dL_law_718 (lv_at hl 4 rfl) ?_
  refine lv_iconst (v := 1) C.1 C.2.1 dL_law_720 (by decide) ?_
  refine lv_iadd C.1 C.2.1 dL_law_721 ?_
  refine g_sld C hX hbl hL hw (4 * j + 1) (sx1 (4 * j)) (by omega) dL_law_722 ?_
  refine lv_aload_n C.1 C.2.1 dL_law_723 rfl (lv_at hl 3 rfl) ?_
  refine g_lh (rest := []) (As := [.ref (qx 0), .int (xs (4 * j + 1)), .ref qo]) (rm := ({ frames := 8, cells := 2, slots := 12, locals := 132 } : Room)) C E Z hw FH_addTagTerm kz_L (ctL_addTagTerm l hT (cI := cI) (cL := cL) (D := D) (q := qx) (qo := qo) X o (xs (4 * j + 1)) _ hf1 (fun e S1 he => by simpa using agW_E hag e S1 he)) km_L_159 rfl hl.1 rfl (Nat.le_of_ble_eq_true rfl) ⟨(Nat.le_of_ble_eq_true rfl), (Nat.le_of_ble_eq_true rfl)⟩ ⟨by (try dsimp only [room_1]); omega, by (try dsimp only [room_1]); omega⟩ dL_law_724 (fun k u hp H locs hw => ?_)
  refine lv_istore (lv' := [(5, .int k), (0, .ref b), (1, .ref (qx 0)), (2, .ref (qm 0)), (3, .ref qo), (4, .int (nI (4 * j)))]) C.1 C.2.1 dL_law_727 hl (by decide) rfl (fun ls hl => ?_)
  refine lv_aload_n C.1 C.2.1 dL_law_729 rfl (lv_at hl 3 rfl) ?_
  refine lv_aload_n C.1 C.2.1 dL_law_730 rfl (lv_at hl 1 rfl) ?_
  refine lv_iload C.1 C.2.1 dL_law_731 (lv_at hl 5 rfl) ?_
  refine lv_iconst (v := 1) C.1 C.2.1 dL_law_733 (by decide) ?_
  refine lv_iadd C.1 C.2.1 dL_law_734 ?_
  refine g_sld C hX hbl hL hw (4 * j + 1) (sx1 (4 * j)) (by omega) dL_law_735 ?_
  refine g_lmi (rest := []) hw (g_runV (rm := ({ frames := 2, cells := 0, slots := 0, locals := 44 } : Room)) (As := [.int (xs (4 * j + 1))]) (rest := []) C E.E (gW_sub1 (LW_m hw)) F_X4_addTagTerm (ctX4_addTagTerm l (cI := cI) (D := D) (q := qm) M (xs (4 * j + 1)) _ hf2) km_L_161 0 rfl rfl rfl hl.1 rfl (Nat.le_of_ble_eq_true rfl) ⟨(Nat.le_of_ble_eq_true rfl), (Nat.le_of_ble_eq_true rfl)⟩ ⟨by (try dsimp only [room_1]); omega, by (try dsimp only [room_1]); omega⟩ dL_law_736) (fun H locs hw => ?_)
  refine lv_istore (lv' := [(6, .int r), (5, .int k), (0, .ref b), (1, .ref (qx 0)), (2, .ref (qm 0)), (3, .ref qo), (4, .int (nI (4 * j)))]) C.1 C.2.1 dL_law_739 hl (by decide) rfl (fun ls hl => ?_)
  refine lv_aload_n C.1 C.2.1 dL_law_741 rfl (lv_at hl 4 rfl) ?_
  refine g_lmi (rest := []) hw (g_runV (rm := ({ frames := 0, cells := 0, slots := 0, locals := 0 } : Room)) (As := []) (rest := []) C E.E (gW_sub1 (LW_m hw)) F_X4_thrown (ctX4_thrown l (cI := cI) (D := D) (q := qm) M1 _ (r1 := M1 10 0) rfl) km_L_133 0 rfl rfl rfl hl.1 rfl (Nat.le_of_ble_eq_true rfl) ⟨(Nat.le_of_ble_eq_true rfl), (Nat.le_of_ble_eq_true rfl)⟩ ⟨by (try dsimp only [room_1]); omega, by (try dsimp only [room_1]); omega⟩ dL_law_742) (fun H locs hw => ?_)
  refine lv_iload C.1 C.2.1 dL_law_745 (lv_at hl 1 rfl) ?_
  rcases finW (fun r => Int32.toInt64 r) (by decide) hag hp with ⟨rfl, hk, X1, rfl, h1⟩ | ⟨hk0, hk, X1, rfl, h1⟩
  · refine lv_icmp_eq (tgt := 752) C.1 C.2.1 dL_law_747 (by decide) (fun _ => ?_) (fun hc => absurd hk hc)
    refine lv_iload C.1 C.2.1 dL_law_752 (lv_at hl 1 rfl) ?_
    refine lv_if_ne (tgt := 769) C.1 C.2.1 dL_law_754 (by decide) (fun hc => absurd rfl hc) (fun _ => ?_)
    refine lv_aload_n C.1 C.2.1 dL_law_757 rfl (lv_at hl 5 rfl) ?_
    refine lv_iconst (v := 0) C.1 C.2.1 dL_law_758 (by decide) ?_
    refine g_lout C E hw dL_law_759 ?_
    refine lv_iload C.1 C.2.1 dL_law_760 (lv_at hl 0 rfl) ?_
    refine lv_i2l (v := Int32.toInt64 r) C.1 C.2.1 dL_law_762 rfl ?_
    refine g_lcmp2 C rfl dL_law_763 ?_
    refine lv_if_eq (tgt := 769) C.1 C.2.1 dL_law_764 (by decide) (fun _ => ?_) (fun hc => absurd rfl hc)
    refine lv_goto (tgt := 2491) C.1 C.2.1 dL_law_769 (by decide) ?_
    refine W.widen (k := 30 + (j + 1) * 8) (n := 500 + (j + 1) * 48) (by (try dsimp only); omega) (by (try dsimp only); omega) ?_
    exact hn _ _ _ h1 _ _ _ hw (lv_sub hl [2, 3, 4, 5, 6] rfl)
  · refine lv_icmp_eq (tgt := 752) C.1 C.2.1 dL_law_747 (by decide) (fun _ => ?_) (fun hc => absurd hk hc)
    refine lv_iload C.1 C.2.1 dL_law_752 (lv_at hl 1 rfl) ?_
    refine lv_if_ne (tgt := 769) C.1 C.2.1 dL_law_754 (by decide) (fun _ => ?_) (fun hc => absurd hc hk0)
    refine lv_goto (tgt := 2491) C.1 C.2.1 dL_law_769 (by decide) ?_
    refine W.widen (k := 30 + (j + 1) * 8) (n := 500 + (j + 1) * 48) (by (try dsimp only); omega) (by (try dsimp only); omega) ?_
    exact hn _ _ _ h1 _ _ _ hw (lv_sub hl [2, 3, 4, 5, 6] rfl)
set_option maxHeartbeats 4000000 in
set_option maxRecDepth 100000 in
theorem law_9 {p : Program} {l : Launch} {e : Env} {s : State} {m : MethodId} {below : List Frame} {meth : Method} {c : Code} {b : Nat} (C : Ctx p s m #[Value.ref b] meth c cL_law 9 RL ret) {D : va_G} {cI cL : ClassId} {qx qm : Nat → Nat} {qo L : Nat} {xs : Nat → Int32} (E : gEL D cI cL s) (Z : gZ (va_A [] s.heap.size) s s.heap) (hT : l.stackTraces = false) (hX : va_X b L xs s s.heap) (hbl : b < s.heap.size) (hL : L ≤ 2048) (j : Nat) (hj : 4 * j + 4 ≤ L) {Q : State → Prop} {X M : St} {o : Nat → Int64} (h : Rel X M) (hn : ∀ (X M : St) (o : Nat → Int64), Rel X M → ∀ (H : Heap) (locs : List Loc) (ls : Array Slot), gW D [] (LW cI cL qx qm qo (X, o) M) s H locs → lv_has ls 9 [(0, .ref b), (1, .ref (qx 0)), (2, .ref (qm 0)), (3, .ref qo), (4, .int (nI (4 * j)))] → W p l e room_1 s m #[Value.ref b] below meth c H locs (30 + (j + 1) * 8) (500 + (j + 1) * 48) Q (F0 m 2491 ls [])) : ∀ (H : Heap) (locs : List Loc) (ls : Array Slot), gW D [] (LW cI cL qx qm qo (X, o) M) s H locs → lv_has ls 9 [(0, .ref b), (1, .ref (qx 0)), (2, .ref (qm 0)), (3, .ref qo), (4, .int (nI (4 * j)))] → W p l e room_1 s m #[Value.ref b] below meth c H locs (30 + j * 8) (500 + j * 48) Q (F0 m 772 ls []) := by
  have hj5 : j ≤ 511 := by omega
  obtain ⟨R, r, M1, hf1, hf2, hag⟩ := op_addBothTerm (xs (4 * j + 1)) (xs (4 * j + 2)) h
  intro H locs ls hw hl
  refine lv_aload_n C.1 C.2.1 dL_law_772 rfl (lv_at hl 1 rfl) ?_
  refine lv_aload_n C.1 C.2.1 dL_law_773 rfl (lv_at hl 0 rfl) ?_
  refine lv_iload C.1 C.2.1 dL_law_774 (lv_at hl 4 rfl) ?_
  refine lv_iconst (v := 1) C.1 C.2.1 dL_law_776 (by decide) ?_
  refine lv_iadd C.1 C.2.1 dL_law_777 ?_
  refine g_sld C hX hbl hL hw (4 * j + 1) (sx1 (4 * j)) (by omega) dL_law_778 ?_
  refine lv_aload_n C.1 C.2.1 dL_law_779 rfl (lv_at hl 0 rfl) ?_
  refine lv_iload C.1 C.2.1 dL_law_780 (lv_at hl 4 rfl) ?_
  refine lv_iconst (v := 2) C.1 C.2.1 dL_law_782 (by decide) ?_
  refine lv_iadd C.1 C.2.1 dL_law_783 ?_
  refine g_sld C hX hbl hL hw (4 * j + 2) (sx2 (4 * j)) (by omega) dL_law_784 ?_
  refine lv_aload_n C.1 C.2.1 dL_law_785 rfl (lv_at hl 3 rfl) ?_
  refine g_lh (rest := []) (As := [.ref (qx 0), .int (xs (4 * j + 1)), .int (xs (4 * j + 2)), .ref qo]) (rm := ({ frames := 8, cells := 3, slots := 18, locals := 133 } : Room)) C E Z hw FH_addBothTerm kz_L (ctL_addBothTerm l hT (cI := cI) (cL := cL) (D := D) (q := qx) (qo := qo) X o (xs (4 * j + 1)) (xs (4 * j + 2)) _ hf1 (fun e S1 he => by simpa using agW_E hag e S1 he)) km_L_162 rfl hl.1 rfl (Nat.le_of_ble_eq_true rfl) ⟨(Nat.le_of_ble_eq_true rfl), (Nat.le_of_ble_eq_true rfl)⟩ ⟨by (try dsimp only [room_1]); omega, by (try dsimp only [room_1]); omega⟩ dL_law_786 (fun k u hp H locs hw => ?_)
  refine lv_istore (lv' := [(5, .int k), (0, .ref b), (1, .ref (qx 0)), (2, .ref (qm 0)), (3, .ref qo), (4, .int (nI (4 * j)))]) C.1 C.2.1 dL_law_789 hl (by decide) rfl (fun ls hl => ?_)
  refine lv_aload_n C.1 C.2.1 dL_law_791 rfl (lv_at hl 3 rfl) ?_
  refine lv_aload_n C.1 C.2.1 dL_law_792 rfl (lv_at hl 1 rfl) ?_
  refine lv_iload C.1 C.2.1 dL_law_793 (lv_at hl 5 rfl) ?_
  refine lv_iconst (v := 1) C.1 C.2.1 dL_law_795 (by decide) ?_
  refine lv_iadd C.1 C.2.1 dL_law_796 ?_
  refine g_sld C hX hbl hL hw (4 * j + 1) (sx1 (4 * j)) (by omega) dL_law_797 ?_
  refine lv_aload_n C.1 C.2.1 dL_law_798 rfl (lv_at hl 1 rfl) ?_
  refine lv_iload C.1 C.2.1 dL_law_799 (lv_at hl 5 rfl) ?_
  refine lv_iconst (v := 2) C.1 C.2.1 dL_law_801 (by decide) ?_
  refine lv_iadd C.1 C.2.1 dL_law_802 ?_
  refine g_sld C hX hbl hL hw (4 * j + 2) (sx2 (4 * j)) (by omega) dL_law_803 ?_
  refine g_lmi (rest := []) hw (g_runV (rm := ({ frames := 2, cells := 0, slots := 0, locals := 44 } : Room)) (As := [.int (xs (4 * j + 1)), .int (xs (4 * j + 2))]) (rest := []) C E.E (gW_sub1 (LW_m hw)) F_X4_addBothTerm (ctX4_addBothTerm l (cI := cI) (D := D) (q := qm) M (xs (4 * j + 1)) (xs (4 * j + 2)) _ hf2) km_L_164 0 rfl rfl rfl hl.1 rfl (Nat.le_of_ble_eq_true rfl) ⟨(Nat.le_of_ble_eq_true rfl), (Nat.le_of_ble_eq_true rfl)⟩ ⟨by (try dsimp only [room_1]); omega, by (try dsimp only [room_1]); omega⟩ dL_law_804) (fun H locs hw => ?_)
  refine lv_istore (lv' := [(6, .int r), (5, .int k), (0, .ref b), (1, .ref (qx 0)), (2, .ref (qm 0)), (3, .ref qo), (4, .int (nI (4 * j)))]) C.1 C.2.1 dL_law_807 hl (by decide) rfl (fun ls hl => ?_)
  refine lv_aload_n C.1 C.2.1 dL_law_809 rfl (lv_at hl 4 rfl) ?_
  refine g_lmi (rest := []) hw (g_runV (rm := ({ frames := 0, cells := 0, slots := 0, locals := 0 } : Room)) (As := []) (rest := []) C E.E (gW_sub1 (LW_m hw)) F_X4_thrown (ctX4_thrown l (cI := cI) (D := D) (q := qm) M1 _ (r1 := M1 10 0) rfl) km_L_133 0 rfl rfl rfl hl.1 rfl (Nat.le_of_ble_eq_true rfl) ⟨(Nat.le_of_ble_eq_true rfl), (Nat.le_of_ble_eq_true rfl)⟩ ⟨by (try dsimp only [room_1]); omega, by (try dsimp only [room_1]); omega⟩ dL_law_810) (fun H locs hw => ?_)
  refine lv_iload C.1 C.2.1 dL_law_813 (lv_at hl 1 rfl) ?_
  rcases finW (fun r => Int32.toInt64 r) (by decide) hag hp with ⟨rfl, hk, X1, rfl, h1⟩ | ⟨hk0, hk, X1, rfl, h1⟩
  · refine lv_icmp_eq (tgt := 820) C.1 C.2.1 dL_law_815 (by decide) (fun _ => ?_) (fun hc => absurd hk hc)
    refine lv_iload C.1 C.2.1 dL_law_820 (lv_at hl 1 rfl) ?_
    refine lv_if_ne (tgt := 837) C.1 C.2.1 dL_law_822 (by decide) (fun hc => absurd rfl hc) (fun _ => ?_)
    refine lv_aload_n C.1 C.2.1 dL_law_825 rfl (lv_at hl 5 rfl) ?_
    refine lv_iconst (v := 0) C.1 C.2.1 dL_law_826 (by decide) ?_
    refine g_lout C E hw dL_law_827 ?_
    refine lv_iload C.1 C.2.1 dL_law_828 (lv_at hl 0 rfl) ?_
    refine lv_i2l (v := Int32.toInt64 r) C.1 C.2.1 dL_law_830 rfl ?_
    refine g_lcmp2 C rfl dL_law_831 ?_
    refine lv_if_eq (tgt := 837) C.1 C.2.1 dL_law_832 (by decide) (fun _ => ?_) (fun hc => absurd rfl hc)
    refine lv_goto (tgt := 2491) C.1 C.2.1 dL_law_837 (by decide) ?_
    refine W.widen (k := 30 + (j + 1) * 8) (n := 500 + (j + 1) * 48) (by (try dsimp only); omega) (by (try dsimp only); omega) ?_
    exact hn _ _ _ h1 _ _ _ hw (lv_sub hl [2, 3, 4, 5, 6] rfl)
  · refine lv_icmp_eq (tgt := 820) C.1 C.2.1 dL_law_815 (by decide) (fun _ => ?_) (fun hc => absurd hk hc)
    refine lv_iload C.1 C.2.1 dL_law_820 (lv_at hl 1 rfl) ?_
    refine lv_if_ne (tgt := 837) C.1 C.2.1 dL_law_822 (by decide) (fun _ => ?_) (fun hc => absurd hc hk0)
    refine lv_goto (tgt := 2491) C.1 C.2.1 dL_law_837 (by decide) ?_
    refine W.widen (k := 30 + (j + 1) * 8) (n := 500 + (j + 1) * 48) (by (try dsimp only); omega) (by (try dsimp only); omega) ?_
    exact hn _ _ _ h1 _ _ _ hw (lv_sub hl [2, 3, 4, 5, 6] rfl)
set_option maxHeartbeats 4000000 in
set_option maxRecDepth 100000 in
theorem law_10 {p : Program} {l : Launch} {e : Env} {s : State} {m : MethodId} {below : List Frame} {meth : Method} {c : Code} {b : Nat} (C : Ctx p s m #[Value.ref b] meth c cL_law 9 RL ret) {D : va_G} {cI cL : ClassId} {qx qm : Nat → Nat} {qo L : Nat} {xs : Nat → Int32} (E : gEL D cI cL s) (Z : gZ (va_A [] s.heap.size) s s.heap) (hT : l.stackTraces = false) (hX : va_X b L xs s s.heap) (hbl : b < s.heap.size) (hL : L ≤ 2048) (j : Nat) (hj : 4 * j + 4 ≤ L) {Q : State → Prop} {X M : St} {o : Nat → Int64} (h : Rel X M) (hn : ∀ (X M : St) (o : Nat → Int64), Rel X M → ∀ (H : Heap) (locs : List Loc) (ls : Array Slot), gW D [] (LW cI cL qx qm qo (X, o) M) s H locs → lv_has ls 9 [(0, .ref b), (1, .ref (qx 0)), (2, .ref (qm 0)), (3, .ref qo), (4, .int (nI (4 * j)))] → W p l e room_1 s m #[Value.ref b] below meth c H locs (30 + (j + 1) * 8) (500 + (j + 1) * 48) Q (F0 m 2491 ls [])) : ∀ (H : Heap) (locs : List Loc) (ls : Array Slot), gW D [] (LW cI cL qx qm qo (X, o) M) s H locs → lv_has ls 9 [(0, .ref b), (1, .ref (qx 0)), (2, .ref (qm 0)), (3, .ref qo), (4, .int (nI (4 * j)))] → W p l e room_1 s m #[Value.ref b] below meth c H locs (30 + j * 8) (500 + j * 48) Q (F0 m 840 ls []) := by
  have hj5 : j ≤ 511 := by omega
  obtain ⟨R, r, M1, hf1, hf2, hag⟩ := op_addEitherTerm (xs (4 * j + 1)) (xs (4 * j + 2)) h
  intro H locs ls hw hl
  refine lv_aload_n C.1 C.2.1 dL_law_840 rfl (lv_at hl 1 rfl) ?_
  refine lv_aload_n C.1 C.2.1 dL_law_841 rfl (lv_at hl 0 rfl) ?_
  refine lv_iload C.1 C.2.1 dL_law_842 (lv_at hl 4 rfl) ?_
  refine lv_iconst (v := 1) C.1 C.2.1 dL_law_844 (by decide) ?_
  refine lv_iadd C.1 C.2.1 dL_law_845 ?_
  refine g_sld C hX hbl hL hw (4 * j + 1) (sx1 (4 * j)) (by omega) dL_law_846 ?_
  refine lv_aload_n C.1 C.2.1 dL_law_847 rfl (lv_at hl 0 rfl) ?_
  refine lv_iload C.1 C.2.1 dL_law_848 (lv_at hl 4 rfl) ?_
  refine lv_iconst (v := 2) C.1 C.2.1 dL_law_850 (by decide) ?_
  refine lv_iadd C.1 C.2.1 dL_law_851 ?_
  refine g_sld C hX hbl hL hw (4 * j + 2) (sx2 (4 * j)) (by omega) dL_law_852 ?_
  refine lv_aload_n C.1 C.2.1 dL_law_853 rfl (lv_at hl 3 rfl) ?_
  refine g_lh (rest := []) (As := [.ref (qx 0), .int (xs (4 * j + 1)), .int (xs (4 * j + 2)), .ref qo]) (rm := ({ frames := 8, cells := 3, slots := 18, locals := 133 } : Room)) C E Z hw FH_addEitherTerm kz_L (ctL_addEitherTerm l hT (cI := cI) (cL := cL) (D := D) (q := qx) (qo := qo) X o (xs (4 * j + 1)) (xs (4 * j + 2)) _ hf1 (fun e S1 he => by simpa using agW_E hag e S1 he)) km_L_165 rfl hl.1 rfl (Nat.le_of_ble_eq_true rfl) ⟨(Nat.le_of_ble_eq_true rfl), (Nat.le_of_ble_eq_true rfl)⟩ ⟨by (try dsimp only [room_1]); omega, by (try dsimp only [room_1]); omega⟩ dL_law_854 (fun k u hp H locs hw => ?_)
  refine lv_istore (lv' := [(5, .int k), (0, .ref b), (1, .ref (qx 0)), (2, .ref (qm 0)), (3, .ref qo), (4, .int (nI (4 * j)))]) C.1 C.2.1 dL_law_857 hl (by decide) rfl (fun ls hl => ?_)
  refine lv_aload_n C.1 C.2.1 dL_law_859 rfl (lv_at hl 3 rfl) ?_
  refine lv_aload_n C.1 C.2.1 dL_law_860 rfl (lv_at hl 1 rfl) ?_
  refine lv_iload C.1 C.2.1 dL_law_861 (lv_at hl 5 rfl) ?_
  refine lv_iconst (v := 1) C.1 C.2.1 dL_law_863 (by decide) ?_
  refine lv_iadd C.1 C.2.1 dL_law_864 ?_
  refine g_sld C hX hbl hL hw (4 * j + 1) (sx1 (4 * j)) (by omega) dL_law_865 ?_
  refine lv_aload_n C.1 C.2.1 dL_law_866 rfl (lv_at hl 1 rfl) ?_
  refine lv_iload C.1 C.2.1 dL_law_867 (lv_at hl 5 rfl) ?_
  refine lv_iconst (v := 2) C.1 C.2.1 dL_law_869 (by decide) ?_
  refine lv_iadd C.1 C.2.1 dL_law_870 ?_
  refine g_sld C hX hbl hL hw (4 * j + 2) (sx2 (4 * j)) (by omega) dL_law_871 ?_
  refine g_lmi (rest := []) hw (g_runV (rm := ({ frames := 2, cells := 0, slots := 0, locals := 44 } : Room)) (As := [.int (xs (4 * j + 1)), .int (xs (4 * j + 2))]) (rest := []) C E.E (gW_sub1 (LW_m hw)) F_X4_addEitherTerm (ctX4_addEitherTerm l (cI := cI) (D := D) (q := qm) M (xs (4 * j + 1)) (xs (4 * j + 2)) _ hf2) km_L_167 0 rfl rfl rfl hl.1 rfl (Nat.le_of_ble_eq_true rfl) ⟨(Nat.le_of_ble_eq_true rfl), (Nat.le_of_ble_eq_true rfl)⟩ ⟨by (try dsimp only [room_1]); omega, by (try dsimp only [room_1]); omega⟩ dL_law_872) (fun H locs hw => ?_)
  refine lv_istore (lv' := [(6, .int r), (5, .int k), (0, .ref b), (1, .ref (qx 0)), (2, .ref (qm 0)), (3, .ref qo), (4, .int (nI (4 * j)))]) C.1 C.2.1 dL_law_875 hl (by decide) rfl (fun ls hl => ?_)
  refine lv_aload_n C.1 C.2.1 dL_law_877 rfl (lv_at hl 4 rfl) ?_
  refine g_lmi (rest := []) hw (g_runV (rm := ({ frames := 0, cells := 0, slots := 0, locals := 0 } : Room)) (As := []) (rest := []) C E.E (gW_sub1 (LW_m hw)) F_X4_thrown (ctX4_thrown l (cI := cI) (D := D) (q := qm) M1 _ (r1 := M1 10 0) rfl) km_L_133 0 rfl rfl rfl hl.1 rfl (Nat.le_of_ble_eq_true rfl) ⟨(Nat.le_of_ble_eq_true rfl), (Nat.le_of_ble_eq_true rfl)⟩ ⟨by (try dsimp only [room_1]); omega, by (try dsimp only [room_1]); omega⟩ dL_law_878) (fun H locs hw => ?_)
  refine lv_iload C.1 C.2.1 dL_law_881 (lv_at hl 1 rfl) ?_
  rcases finW (fun r => Int32.toInt64 r) (by decide) hag hp with ⟨rfl, hk, X1, rfl, h1⟩ | ⟨hk0, hk, X1, rfl, h1⟩
  · refine lv_icmp_eq (tgt := 888) C.1 C.2.1 dL_law_883 (by decide) (fun _ => ?_) (fun hc => absurd hk hc)
    refine lv_iload C.1 C.2.1 dL_law_888 (lv_at hl 1 rfl) ?_
    refine lv_if_ne (tgt := 905) C.1 C.2.1 dL_law_890 (by decide) (fun hc => absurd rfl hc) (fun _ => ?_)
    refine lv_aload_n C.1 C.2.1 dL_law_893 rfl (lv_at hl 5 rfl) ?_
    refine lv_iconst (v := 0) C.1 C.2.1 dL_law_894 (by decide) ?_
    refine g_lout C E hw dL_law_895 ?_
    refine lv_iload C.1 C.2.1 dL_law_896 (lv_at hl 0 rfl) ?_
    refine lv_i2l (v := Int32.toInt64 r) C.1 C.2.1 dL_law_898 rfl ?_
    refine g_lcmp2 C rfl dL_law_899 ?_
    refine lv_if_eq (tgt := 905) C.1 C.2.1 dL_law_900 (by decide) (fun _ => ?_) (fun hc => absurd rfl hc)
    refine lv_goto (tgt := 2491) C.1 C.2.1 dL_law_905 (by decide) ?_
    refine W.widen (k := 30 + (j + 1) * 8) (n := 500 + (j + 1) * 48) (by (try dsimp only); omega) (by (try dsimp only); omega) ?_
    exact hn _ _ _ h1 _ _ _ hw (lv_sub hl [2, 3, 4, 5, 6] rfl)
  · refine lv_icmp_eq (tgt := 888) C.1 C.2.1 dL_law_883 (by decide) (fun _ => ?_) (fun hc => absurd hk hc)
    refine lv_iload C.1 C.2.1 dL_law_888 (lv_at hl 1 rfl) ?_
    refine lv_if_ne (tgt := 905) C.1 C.2.1 dL_law_890 (by decide) (fun _ => ?_) (fun hc => absurd hc hk0)
    refine lv_goto (tgt := 2491) C.1 C.2.1 dL_law_905 (by decide) ?_
    refine W.widen (k := 30 + (j + 1) * 8) (n := 500 + (j + 1) * 48) (by (try dsimp only); omega) (by (try dsimp only); omega) ?_
    exact hn _ _ _ h1 _ _ _ hw (lv_sub hl [2, 3, 4, 5, 6] rfl)
set_option maxHeartbeats 4000000 in
set_option maxRecDepth 100000 in
theorem law_11 {p : Program} {l : Launch} {e : Env} {s : State} {m : MethodId} {below : List Frame} {meth : Method} {c : Code} {b : Nat} (C : Ctx p s m #[Value.ref b] meth c cL_law 9 RL ret) {D : va_G} {cI cL : ClassId} {qx qm : Nat → Nat} {qo L : Nat} {xs : Nat → Int32} (E : gEL D cI cL s) (Z : gZ (va_A [] s.heap.size) s s.heap) (hT : l.stackTraces = false) (hX : va_X b L xs s s.heap) (hbl : b < s.heap.size) (hL : L ≤ 2048) (j : Nat) (hj : 4 * j + 4 ≤ L) {Q : State → Prop} {X M : St} {o : Nat → Int64} (h : Rel X M) (hn : ∀ (X M : St) (o : Nat → Int64), Rel X M → ∀ (H : Heap) (locs : List Loc) (ls : Array Slot), gW D [] (LW cI cL qx qm qo (X, o) M) s H locs → lv_has ls 9 [(0, .ref b), (1, .ref (qx 0)), (2, .ref (qm 0)), (3, .ref qo), (4, .int (nI (4 * j)))] → W p l e room_1 s m #[Value.ref b] below meth c H locs (30 + (j + 1) * 8) (500 + (j + 1) * 48) Q (F0 m 2491 ls [])) : ∀ (H : Heap) (locs : List Loc) (ls : Array Slot), gW D [] (LW cI cL qx qm qo (X, o) M) s H locs → lv_has ls 9 [(0, .ref b), (1, .ref (qx 0)), (2, .ref (qm 0)), (3, .ref qo), (4, .int (nI (4 * j)))] → W p l e room_1 s m #[Value.ref b] below meth c H locs (30 + j * 8) (500 + j * 48) Q (F0 m 908 ls []) := by
  have hj5 : j ≤ 511 := by omega
  obtain ⟨R, r, M1, hf1, hf2, hag⟩ := op_addWithoutTerm (xs (4 * j + 1)) h
  intro H locs ls hw hl
  refine lv_aload_n C.1 C.2.1 dL_law_908 rfl (lv_at hl 1 rfl) ?_
  refine lv_aload_n C.1 C.2.1 dL_law_909 rfl (lv_at hl 0 rfl) ?_
  refine lv_iload C.1 C.2.1 dL_law_910 (lv_at hl 4 rfl) ?_
  refine lv_iconst (v := 1) C.1 C.2.1 dL_law_912 (by decide) ?_
  refine lv_iadd C.1 C.2.1 dL_law_913 ?_
  refine g_sld C hX hbl hL hw (4 * j + 1) (sx1 (4 * j)) (by omega) dL_law_914 ?_
  refine lv_aload_n C.1 C.2.1 dL_law_915 rfl (lv_at hl 3 rfl) ?_
  refine g_lh (rest := []) (As := [.ref (qx 0), .int (xs (4 * j + 1)), .ref qo]) (rm := ({ frames := 8, cells := 2, slots := 12, locals := 132 } : Room)) C E Z hw FH_addWithoutTerm kz_L (ctL_addWithoutTerm l hT (cI := cI) (cL := cL) (D := D) (q := qx) (qo := qo) X o (xs (4 * j + 1)) _ hf1 (fun e S1 he => by simpa using agW_E hag e S1 he)) km_L_168 rfl hl.1 rfl (Nat.le_of_ble_eq_true rfl) ⟨(Nat.le_of_ble_eq_true rfl), (Nat.le_of_ble_eq_true rfl)⟩ ⟨by (try dsimp only [room_1]); omega, by (try dsimp only [room_1]); omega⟩ dL_law_916 (fun k u hp H locs hw => ?_)
  refine lv_istore (lv' := [(5, .int k), (0, .ref b), (1, .ref (qx 0)), (2, .ref (qm 0)), (3, .ref qo), (4, .int (nI (4 * j)))]) C.1 C.2.1 dL_law_919 hl (by decide) rfl (fun ls hl => ?_)
  refine lv_aload_n C.1 C.2.1 dL_law_921 rfl (lv_at hl 3 rfl) ?_
  refine lv_aload_n C.1 C.2.1 dL_law_922 rfl (lv_at hl 1 rfl) ?_
  refine lv_iload C.1 C.2.1 dL_law_923 (lv_at hl 5 rfl) ?_
  refine lv_iconst (v := 1) C.1 C.2.1 dL_law_925 (by decide) ?_
  refine lv_iadd C.1 C.2.1 dL_law_926 ?_
  refine g_sld C hX hbl hL hw (4 * j + 1) (sx1 (4 * j)) (by omega) dL_law_927 ?_
  refine g_lmi (rest := []) hw (g_runV (rm := ({ frames := 2, cells := 0, slots := 0, locals := 44 } : Room)) (As := [.int (xs (4 * j + 1))]) (rest := []) C E.E (gW_sub1 (LW_m hw)) F_X4_addWithoutTerm (ctX4_addWithoutTerm l (cI := cI) (D := D) (q := qm) M (xs (4 * j + 1)) _ hf2) km_L_170 0 rfl rfl rfl hl.1 rfl (Nat.le_of_ble_eq_true rfl) ⟨(Nat.le_of_ble_eq_true rfl), (Nat.le_of_ble_eq_true rfl)⟩ ⟨by (try dsimp only [room_1]); omega, by (try dsimp only [room_1]); omega⟩ dL_law_928) (fun H locs hw => ?_)
  refine lv_istore (lv' := [(6, .int r), (5, .int k), (0, .ref b), (1, .ref (qx 0)), (2, .ref (qm 0)), (3, .ref qo), (4, .int (nI (4 * j)))]) C.1 C.2.1 dL_law_931 hl (by decide) rfl (fun ls hl => ?_)
  refine lv_aload_n C.1 C.2.1 dL_law_933 rfl (lv_at hl 4 rfl) ?_
  refine g_lmi (rest := []) hw (g_runV (rm := ({ frames := 0, cells := 0, slots := 0, locals := 0 } : Room)) (As := []) (rest := []) C E.E (gW_sub1 (LW_m hw)) F_X4_thrown (ctX4_thrown l (cI := cI) (D := D) (q := qm) M1 _ (r1 := M1 10 0) rfl) km_L_133 0 rfl rfl rfl hl.1 rfl (Nat.le_of_ble_eq_true rfl) ⟨(Nat.le_of_ble_eq_true rfl), (Nat.le_of_ble_eq_true rfl)⟩ ⟨by (try dsimp only [room_1]); omega, by (try dsimp only [room_1]); omega⟩ dL_law_934) (fun H locs hw => ?_)
  refine lv_iload C.1 C.2.1 dL_law_937 (lv_at hl 1 rfl) ?_
  rcases finW (fun r => Int32.toInt64 r) (by decide) hag hp with ⟨rfl, hk, X1, rfl, h1⟩ | ⟨hk0, hk, X1, rfl, h1⟩
  · refine lv_icmp_eq (tgt := 944) C.1 C.2.1 dL_law_939 (by decide) (fun _ => ?_) (fun hc => absurd hk hc)
    refine lv_iload C.1 C.2.1 dL_law_944 (lv_at hl 1 rfl) ?_
    refine lv_if_ne (tgt := 961) C.1 C.2.1 dL_law_946 (by decide) (fun hc => absurd rfl hc) (fun _ => ?_)
    refine lv_aload_n C.1 C.2.1 dL_law_949 rfl (lv_at hl 5 rfl) ?_
    refine lv_iconst (v := 0) C.1 C.2.1 dL_law_950 (by decide) ?_
    refine g_lout C E hw dL_law_951 ?_
    refine lv_iload C.1 C.2.1 dL_law_952 (lv_at hl 0 rfl) ?_
    refine lv_i2l (v := Int32.toInt64 r) C.1 C.2.1 dL_law_954 rfl ?_
    refine g_lcmp2 C rfl dL_law_955 ?_
    refine lv_if_eq (tgt := 961) C.1 C.2.1 dL_law_956 (by decide) (fun _ => ?_) (fun hc => absurd rfl hc)
    refine lv_goto (tgt := 2491) C.1 C.2.1 dL_law_961 (by decide) ?_
    refine W.widen (k := 30 + (j + 1) * 8) (n := 500 + (j + 1) * 48) (by (try dsimp only); omega) (by (try dsimp only); omega) ?_
    exact hn _ _ _ h1 _ _ _ hw (lv_sub hl [2, 3, 4, 5, 6] rfl)
  · refine lv_icmp_eq (tgt := 944) C.1 C.2.1 dL_law_939 (by decide) (fun _ => ?_) (fun hc => absurd hk hc)
    refine lv_iload C.1 C.2.1 dL_law_944 (lv_at hl 1 rfl) ?_
    refine lv_if_ne (tgt := 961) C.1 C.2.1 dL_law_946 (by decide) (fun _ => ?_) (fun hc => absurd hc hk0)
    refine lv_goto (tgt := 2491) C.1 C.2.1 dL_law_961 (by decide) ?_
    refine W.widen (k := 30 + (j + 1) * 8) (n := 500 + (j + 1) * 48) (by (try dsimp only); omega) (by (try dsimp only); omega) ?_
    exact hn _ _ _ h1 _ _ _ hw (lv_sub hl [2, 3, 4, 5, 6] rfl)
set_option maxHeartbeats 4000000 in
set_option maxRecDepth 100000 in
theorem law_12 {p : Program} {l : Launch} {e : Env} {s : State} {m : MethodId} {below : List Frame} {meth : Method} {c : Code} {b : Nat} (C : Ctx p s m #[Value.ref b] meth c cL_law 9 RL ret) {D : va_G} {cI cL : ClassId} {qx qm : Nat → Nat} {qo L : Nat} {xs : Nat → Int32} (E : gEL D cI cL s) (Z : gZ (va_A [] s.heap.size) s s.heap) (hT : l.stackTraces = false) (hX : va_X b L xs s s.heap) (hbl : b < s.heap.size) (hL : L ≤ 2048) (j : Nat) (hj : 4 * j + 4 ≤ L) {Q : State → Prop} {X M : St} {o : Nat → Int64} (h : Rel X M) (hn : ∀ (X M : St) (o : Nat → Int64), Rel X M → ∀ (H : Heap) (locs : List Loc) (ls : Array Slot), gW D [] (LW cI cL qx qm qo (X, o) M) s H locs → lv_has ls 9 [(0, .ref b), (1, .ref (qx 0)), (2, .ref (qm 0)), (3, .ref qo), (4, .int (nI (4 * j)))] → W p l e room_1 s m #[Value.ref b] below meth c H locs (30 + (j + 1) * 8) (500 + (j + 1) * 48) Q (F0 m 2491 ls [])) : ∀ (H : Heap) (locs : List Loc) (ls : Array Slot), gW D [] (LW cI cL qx qm qo (X, o) M) s H locs → lv_has ls 9 [(0, .ref b), (1, .ref (qx 0)), (2, .ref (qm 0)), (3, .ref qo), (4, .int (nI (4 * j)))] → W p l e room_1 s m #[Value.ref b] below meth c H locs (30 + j * 8) (500 + j * 48) Q (F0 m 964 ls []) := by
  have hj5 : j ≤ 511 := by omega
  obtain ⟨r, X1, M1, hf1, hf2, h1⟩ := op_clearTerms h
  intro H locs ls hw hl
  refine lv_aload_n C.1 C.2.1 dL_law_964 rfl (lv_at hl 1 rfl) ?_
  refine g_lxi (rest := []) hw (g_runV (rm := ({ frames := 0, cells := 0, slots := 0, locals := 0 } : Room)) (As := []) (rest := []) C E.E (gW_sub1 (LW_x hw)) F_X3_clearTerms (ctX3_clearTerms l (cI := cI) (D := D) (q := qx) X _ hf1) km_L_171 0 rfl rfl rfl hl.1 rfl (Nat.le_of_ble_eq_true rfl) ⟨(Nat.le_of_ble_eq_true rfl), (Nat.le_of_ble_eq_true rfl)⟩ ⟨by (try dsimp only [room_1]); omega, by (try dsimp only [room_1]); omega⟩ dL_law_965) (fun H locs hw => ?_)
  refine lv_aload_n C.1 C.2.1 dL_law_968 rfl (lv_at hl 2 rfl) ?_
  refine g_lmi (rest := [.int r]) hw (g_runV (rm := ({ frames := 0, cells := 0, slots := 0, locals := 0 } : Room)) (As := []) (rest := [.int r]) C E.E (gW_sub1 (LW_m hw)) F_X4_clearTerms (ctX4_clearTerms l (cI := cI) (D := D) (q := qm) M _ hf2) km_L_174 0 rfl rfl rfl hl.1 rfl (Nat.le_of_ble_eq_true rfl) ⟨(Nat.le_of_ble_eq_true rfl), (Nat.le_of_ble_eq_true rfl)⟩ ⟨by (try dsimp only [room_1]); omega, by (try dsimp only [room_1]); omega⟩ dL_law_969) (fun H locs hw => ?_)
  refine lv_icmp_eq (tgt := 2491) C.1 C.2.1 dL_law_972 (by decide) (fun _ => ?_) (fun hc => absurd rfl hc)
  refine W.widen (k := 30 + (j + 1) * 8) (n := 500 + (j + 1) * 48) (by (try dsimp only); omega) (by (try dsimp only); omega) ?_
  exact hn _ _ _ h1 _ _ _ hw (lv_sub hl [0, 1, 2, 3, 4] rfl)
set_option maxHeartbeats 4000000 in
set_option maxRecDepth 100000 in
theorem law_13 {p : Program} {l : Launch} {e : Env} {s : State} {m : MethodId} {below : List Frame} {meth : Method} {c : Code} {b : Nat} (C : Ctx p s m #[Value.ref b] meth c cL_law 9 RL ret) {D : va_G} {cI cL : ClassId} {qx qm : Nat → Nat} {qo L : Nat} {xs : Nat → Int32} (E : gEL D cI cL s) (Z : gZ (va_A [] s.heap.size) s s.heap) (hT : l.stackTraces = false) (hX : va_X b L xs s s.heap) (hbl : b < s.heap.size) (hL : L ≤ 2048) (j : Nat) (hj : 4 * j + 4 ≤ L) {Q : State → Prop} {X M : St} {o : Nat → Int64} (h : Rel X M) (hn : ∀ (X M : St) (o : Nat → Int64), Rel X M → ∀ (H : Heap) (locs : List Loc) (ls : Array Slot), gW D [] (LW cI cL qx qm qo (X, o) M) s H locs → lv_has ls 9 [(0, .ref b), (1, .ref (qx 0)), (2, .ref (qm 0)), (3, .ref qo), (4, .int (nI (4 * j)))] → W p l e room_1 s m #[Value.ref b] below meth c H locs (30 + (j + 1) * 8) (500 + (j + 1) * 48) Q (F0 m 2491 ls [])) : ∀ (H : Heap) (locs : List Loc) (ls : Array Slot), gW D [] (LW cI cL qx qm qo (X, o) M) s H locs → lv_has ls 9 [(0, .ref b), (1, .ref (qx 0)), (2, .ref (qm 0)), (3, .ref qo), (4, .int (nI (4 * j)))] → W p l e room_1 s m #[Value.ref b] below meth c H locs (30 + j * 8) (500 + j * 48) Q (F0 m 977 ls []) := by
  have hj5 : j ≤ 511 := by omega
  obtain ⟨R, r, M1, hf1, hf2, hag⟩ := op_hasParent (xs (4 * j + 1)) h
  intro H locs ls hw hl
  refine lv_aload_n C.1 C.2.1 dL_law_977 rfl (lv_at hl 1 rfl) ?_
  refine lv_aload_n C.1 C.2.1 dL_law_978 rfl (lv_at hl 0 rfl) ?_
  refine lv_iload C.1 C.2.1 dL_law_979 (lv_at hl 4 rfl) ?_
  refine lv_iconst (v := 1) C.1 C.2.1 dL_law_981 (by decide) ?_
  refine lv_iadd C.1 C.2.1 dL_law_982 ?_
  refine g_sld C hX hbl hL hw (4 * j + 1) (sx1 (4 * j)) (by omega) dL_law_983 ?_
  refine lv_aload_n C.1 C.2.1 dL_law_984 rfl (lv_at hl 3 rfl) ?_
  refine g_lh (rest := []) (As := [.ref (qx 0), .int (xs (4 * j + 1)), .ref qo]) (rm := ({ frames := 8, cells := 1, slots := 6, locals := 132 } : Room)) C E Z hw FH_hasParent kz_L (ctL_hasParent l hT (cI := cI) (cL := cL) (D := D) (q := qx) (qo := qo) X o (xs (4 * j + 1)) _ hf1 (fun e he => by simpa using agR_E hag e he)) km_L_175 rfl hl.1 rfl (Nat.le_of_ble_eq_true rfl) ⟨(Nat.le_of_ble_eq_true rfl), (Nat.le_of_ble_eq_true rfl)⟩ ⟨by (try dsimp only [room_1]); omega, by (try dsimp only [room_1]); omega⟩ dL_law_985 (fun k u hp H locs hw => ?_)
  refine lv_istore (lv' := [(5, .int k), (0, .ref b), (1, .ref (qx 0)), (2, .ref (qm 0)), (3, .ref qo), (4, .int (nI (4 * j)))]) C.1 C.2.1 dL_law_988 hl (by decide) rfl (fun ls hl => ?_)
  refine lv_aload_n C.1 C.2.1 dL_law_990 rfl (lv_at hl 3 rfl) ?_
  refine lv_aload_n C.1 C.2.1 dL_law_991 rfl (lv_at hl 1 rfl) ?_
  refine lv_iload C.1 C.2.1 dL_law_992 (lv_at hl 5 rfl) ?_
  refine lv_iconst (v := 1) C.1 C.2.1 dL_law_994 (by decide) ?_
  refine lv_iadd C.1 C.2.1 dL_law_995 ?_
  refine g_sld C hX hbl hL hw (4 * j + 1) (sx1 (4 * j)) (by omega) dL_law_996 ?_
  refine g_lmi (rest := []) hw (g_runV (rm := ({ frames := 2, cells := 0, slots := 0, locals := 43 } : Room)) (As := [.int (xs (4 * j + 1))]) (rest := []) C E.E (gW_sub1 (LW_m hw)) F_X4_hasParent (ctX4_hasParent l (cI := cI) (D := D) (q := qm) M (xs (4 * j + 1)) _ hf2) km_L_177 0 rfl rfl rfl hl.1 rfl (Nat.le_of_ble_eq_true rfl) ⟨(Nat.le_of_ble_eq_true rfl), (Nat.le_of_ble_eq_true rfl)⟩ ⟨by (try dsimp only [room_1]); omega, by (try dsimp only [room_1]); omega⟩ dL_law_997) (fun H locs hw => ?_)
  refine lv_istore (lv' := [(6, .int r), (5, .int k), (0, .ref b), (1, .ref (qx 0)), (2, .ref (qm 0)), (3, .ref qo), (4, .int (nI (4 * j)))]) C.1 C.2.1 dL_law_1000 hl (by decide) rfl (fun ls hl => ?_)
  refine lv_aload_n C.1 C.2.1 dL_law_1002 rfl (lv_at hl 4 rfl) ?_
  refine g_lmi (rest := []) hw (g_runV (rm := ({ frames := 0, cells := 0, slots := 0, locals := 0 } : Room)) (As := []) (rest := []) C E.E (gW_sub1 (LW_m hw)) F_X4_thrown (ctX4_thrown l (cI := cI) (D := D) (q := qm) M1 _ (r1 := M1 10 0) rfl) km_L_133 0 rfl rfl rfl hl.1 rfl (Nat.le_of_ble_eq_true rfl) ⟨(Nat.le_of_ble_eq_true rfl), (Nat.le_of_ble_eq_true rfl)⟩ ⟨by (try dsimp only [room_1]); omega, by (try dsimp only [room_1]); omega⟩ dL_law_1003) (fun H locs hw => ?_)
  refine lv_iload C.1 C.2.1 dL_law_1006 (lv_at hl 1 rfl) ?_
  rcases finR (fun r => if r = 0 then 0 else 1) (by decide) hag hp with ⟨rfl, hk, X1, rfl, h1⟩ | ⟨hk0, hk, X1, rfl, h1⟩
  · refine lv_icmp_eq (tgt := 1013) C.1 C.2.1 dL_law_1008 (by decide) (fun _ => ?_) (fun hc => absurd hk hc)
    refine lv_iload C.1 C.2.1 dL_law_1013 (lv_at hl 1 rfl) ?_
    refine lv_if_ne (tgt := 1037) C.1 C.2.1 dL_law_1015 (by decide) (fun hc => absurd rfl hc) (fun _ => ?_)
    refine lv_aload_n C.1 C.2.1 dL_law_1018 rfl (lv_at hl 5 rfl) ?_
    refine lv_iconst (v := 0) C.1 C.2.1 dL_law_1019 (by decide) ?_
    refine g_lout C E hw dL_law_1020 ?_
    refine lv_iload C.1 C.2.1 dL_law_1021 (lv_at hl 0 rfl) ?_
    refine lv_if_eq (tgt := 1030) C.1 C.2.1 dL_law_1023 (by decide) (fun hc => ?_) (fun hc => ?_)
    · refine lv_lconst (v := 0) C.1 C.2.1 dL_law_1030 (by decide) ?_
      refine g_lcmp2 C (show (if r = 0 then (0 : Int64) else 1) = 0 by rw [if_pos hc]) dL_law_1031 ?_
      refine lv_if_eq (tgt := 1037) C.1 C.2.1 dL_law_1032 (by decide) (fun _ => ?_) (fun hc => absurd rfl hc)
      refine lv_goto (tgt := 2491) C.1 C.2.1 dL_law_1037 (by decide) ?_
      refine W.widen (k := 30 + (j + 1) * 8) (n := 500 + (j + 1) * 48) (by (try dsimp only); omega) (by (try dsimp only); omega) ?_
      exact hn _ _ _ h1 _ _ _ hw (lv_sub hl [2, 3, 4, 5, 6] rfl)
    · refine lv_lconst (v := 1) C.1 C.2.1 dL_law_1026 (by decide) ?_
      refine lv_goto (tgt := 1031) C.1 C.2.1 dL_law_1027 (by decide) ?_
      refine g_lcmp2 C (show (if r = 0 then (0 : Int64) else 1) = 1 by rw [if_neg hc]) dL_law_1031 ?_
      refine lv_if_eq (tgt := 1037) C.1 C.2.1 dL_law_1032 (by decide) (fun _ => ?_) (fun hc => absurd rfl hc)
      refine lv_goto (tgt := 2491) C.1 C.2.1 dL_law_1037 (by decide) ?_
      refine W.widen (k := 30 + (j + 1) * 8) (n := 500 + (j + 1) * 48) (by (try dsimp only); omega) (by (try dsimp only); omega) ?_
      exact hn _ _ _ h1 _ _ _ hw (lv_sub hl [2, 3, 4, 5, 6] rfl)
  · refine lv_icmp_eq (tgt := 1013) C.1 C.2.1 dL_law_1008 (by decide) (fun _ => ?_) (fun hc => absurd hk hc)
    refine lv_iload C.1 C.2.1 dL_law_1013 (lv_at hl 1 rfl) ?_
    refine lv_if_ne (tgt := 1037) C.1 C.2.1 dL_law_1015 (by decide) (fun _ => ?_) (fun hc => absurd hc hk0)
    refine lv_goto (tgt := 2491) C.1 C.2.1 dL_law_1037 (by decide) ?_
    refine W.widen (k := 30 + (j + 1) * 8) (n := 500 + (j + 1) * 48) (by (try dsimp only); omega) (by (try dsimp only); omega) ?_
    exact hn _ _ _ h1 _ _ _ hw (lv_sub hl [2, 3, 4, 5, 6] rfl)
set_option maxHeartbeats 4000000 in
set_option maxRecDepth 100000 in
theorem law_14 {p : Program} {l : Launch} {e : Env} {s : State} {m : MethodId} {below : List Frame} {meth : Method} {c : Code} {b : Nat} (C : Ctx p s m #[Value.ref b] meth c cL_law 9 RL ret) {D : va_G} {cI cL : ClassId} {qx qm : Nat → Nat} {qo L : Nat} {xs : Nat → Int32} (E : gEL D cI cL s) (Z : gZ (va_A [] s.heap.size) s s.heap) (hT : l.stackTraces = false) (hX : va_X b L xs s s.heap) (hbl : b < s.heap.size) (hL : L ≤ 2048) (j : Nat) (hj : 4 * j + 4 ≤ L) {Q : State → Prop} {X M : St} {o : Nat → Int64} (h : Rel X M) (hn : ∀ (X M : St) (o : Nat → Int64), Rel X M → ∀ (H : Heap) (locs : List Loc) (ls : Array Slot), gW D [] (LW cI cL qx qm qo (X, o) M) s H locs → lv_has ls 9 [(0, .ref b), (1, .ref (qx 0)), (2, .ref (qm 0)), (3, .ref qo), (4, .int (nI (4 * j)))] → W p l e room_1 s m #[Value.ref b] below meth c H locs (30 + (j + 1) * 8) (500 + (j + 1) * 48) Q (F0 m 2491 ls [])) : ∀ (H : Heap) (locs : List Loc) (ls : Array Slot), gW D [] (LW cI cL qx qm qo (X, o) M) s H locs → lv_has ls 9 [(0, .ref b), (1, .ref (qx 0)), (2, .ref (qm 0)), (3, .ref qo), (4, .int (nI (4 * j)))] → W p l e room_1 s m #[Value.ref b] below meth c H locs (30 + j * 8) (500 + j * 48) Q (F0 m 1040 ls []) := by
  have hj5 : j ≤ 511 := by omega
  obtain ⟨R, r, M1, hf1, hf2, hag⟩ := op_parentOf (xs (4 * j + 1)) h
  intro H locs ls hw hl
  refine lv_aload_n C.1 C.2.1 dL_law_1040 rfl (lv_at hl 1 rfl) ?_
  refine lv_aload_n C.1 C.2.1 dL_law_1041 rfl (lv_at hl 0 rfl) ?_
  refine lv_iload C.1 C.2.1 dL_law_1042 (lv_at hl 4 rfl) ?_
  refine lv_iconst (v := 1) C.1 C.2.1 dL_law_1044 (by decide) ?_
  refine lv_iadd C.1 C.2.1 dL_law_1045 ?_
  refine g_sld C hX hbl hL hw (4 * j + 1) (sx1 (4 * j)) (by omega) dL_law_1046 ?_
  refine lv_aload_n C.1 C.2.1 dL_law_1047 rfl (lv_at hl 3 rfl) ?_
  refine g_lh (rest := []) (As := [.ref (qx 0), .int (xs (4 * j + 1)), .ref qo]) (rm := ({ frames := 9, cells := 2, slots := 12, locals := 153 } : Room)) C E Z hw FH_parentOf kz_L (ctL_parentOf l hT (cI := cI) (cL := cL) (D := D) (q := qx) (qo := qo) X o (xs (4 * j + 1)) _ hf1 (fun e he => by simpa using agR_E hag e he)) km_L_178 rfl hl.1 rfl (Nat.le_of_ble_eq_true rfl) ⟨(Nat.le_of_ble_eq_true rfl), (Nat.le_of_ble_eq_true rfl)⟩ ⟨by (try dsimp only [room_1]); omega, by (try dsimp only [room_1]); omega⟩ dL_law_1048 (fun k u hp H locs hw => ?_)
  refine lv_istore (lv' := [(5, .int k), (0, .ref b), (1, .ref (qx 0)), (2, .ref (qm 0)), (3, .ref qo), (4, .int (nI (4 * j)))]) C.1 C.2.1 dL_law_1051 hl (by decide) rfl (fun ls hl => ?_)
  refine lv_aload_n C.1 C.2.1 dL_law_1053 rfl (lv_at hl 3 rfl) ?_
  refine lv_aload_n C.1 C.2.1 dL_law_1054 rfl (lv_at hl 1 rfl) ?_
  refine lv_iload C.1 C.2.1 dL_law_1055 (lv_at hl 5 rfl) ?_
  refine lv_iconst (v := 1) C.1 C.2.1 dL_law_1057 (by decide) ?_
  refine lv_iadd C.1 C.2.1 dL_law_1058 ?_
  refine g_sld C hX hbl hL hw (4 * j + 1) (sx1 (4 * j)) (by omega) dL_law_1059 ?_
  refine g_lmi (rest := []) hw (g_runV (rm := ({ frames := 2, cells := 0, slots := 0, locals := 43 } : Room)) (As := [.int (xs (4 * j + 1))]) (rest := []) C E.E (gW_sub1 (LW_m hw)) F_X4_parentOf (ctX4_parentOf l (cI := cI) (D := D) (q := qm) M (xs (4 * j + 1)) _ hf2) km_L_180 0 rfl rfl rfl hl.1 rfl (Nat.le_of_ble_eq_true rfl) ⟨(Nat.le_of_ble_eq_true rfl), (Nat.le_of_ble_eq_true rfl)⟩ ⟨by (try dsimp only [room_1]); omega, by (try dsimp only [room_1]); omega⟩ dL_law_1060) (fun H locs hw => ?_)
  refine lv_istore (lv' := [(6, .int r), (5, .int k), (0, .ref b), (1, .ref (qx 0)), (2, .ref (qm 0)), (3, .ref qo), (4, .int (nI (4 * j)))]) C.1 C.2.1 dL_law_1063 hl (by decide) rfl (fun ls hl => ?_)
  refine lv_aload_n C.1 C.2.1 dL_law_1065 rfl (lv_at hl 4 rfl) ?_
  refine g_lmi (rest := []) hw (g_runV (rm := ({ frames := 0, cells := 0, slots := 0, locals := 0 } : Room)) (As := []) (rest := []) C E.E (gW_sub1 (LW_m hw)) F_X4_thrown (ctX4_thrown l (cI := cI) (D := D) (q := qm) M1 _ (r1 := M1 10 0) rfl) km_L_133 0 rfl rfl rfl hl.1 rfl (Nat.le_of_ble_eq_true rfl) ⟨(Nat.le_of_ble_eq_true rfl), (Nat.le_of_ble_eq_true rfl)⟩ ⟨by (try dsimp only [room_1]); omega, by (try dsimp only [room_1]); omega⟩ dL_law_1066) (fun H locs hw => ?_)
  refine lv_iload C.1 C.2.1 dL_law_1069 (lv_at hl 1 rfl) ?_
  rcases finR (fun r => Int32.toInt64 r) (by decide) hag hp with ⟨rfl, hk, X1, rfl, h1⟩ | ⟨hk0, hk, X1, rfl, h1⟩
  · refine lv_icmp_eq (tgt := 1076) C.1 C.2.1 dL_law_1071 (by decide) (fun _ => ?_) (fun hc => absurd hk hc)
    refine lv_iload C.1 C.2.1 dL_law_1076 (lv_at hl 1 rfl) ?_
    refine lv_if_ne (tgt := 1093) C.1 C.2.1 dL_law_1078 (by decide) (fun hc => absurd rfl hc) (fun _ => ?_)
    refine lv_aload_n C.1 C.2.1 dL_law_1081 rfl (lv_at hl 5 rfl) ?_
    refine lv_iconst (v := 0) C.1 C.2.1 dL_law_1082 (by decide) ?_
    refine g_lout C E hw dL_law_1083 ?_
    refine lv_iload C.1 C.2.1 dL_law_1084 (lv_at hl 0 rfl) ?_
    refine lv_i2l (v := Int32.toInt64 r) C.1 C.2.1 dL_law_1086 rfl ?_
    refine g_lcmp2 C rfl dL_law_1087 ?_
    refine lv_if_eq (tgt := 1093) C.1 C.2.1 dL_law_1088 (by decide) (fun _ => ?_) (fun hc => absurd rfl hc)
    refine lv_goto (tgt := 2491) C.1 C.2.1 dL_law_1093 (by decide) ?_
    refine W.widen (k := 30 + (j + 1) * 8) (n := 500 + (j + 1) * 48) (by (try dsimp only); omega) (by (try dsimp only); omega) ?_
    exact hn _ _ _ h1 _ _ _ hw (lv_sub hl [2, 3, 4, 5, 6] rfl)
  · refine lv_icmp_eq (tgt := 1076) C.1 C.2.1 dL_law_1071 (by decide) (fun _ => ?_) (fun hc => absurd hk hc)
    refine lv_iload C.1 C.2.1 dL_law_1076 (lv_at hl 1 rfl) ?_
    refine lv_if_ne (tgt := 1093) C.1 C.2.1 dL_law_1078 (by decide) (fun _ => ?_) (fun hc => absurd hc hk0)
    refine lv_goto (tgt := 2491) C.1 C.2.1 dL_law_1093 (by decide) ?_
    refine W.widen (k := 30 + (j + 1) * 8) (n := 500 + (j + 1) * 48) (by (try dsimp only); omega) (by (try dsimp only); omega) ?_
    exact hn _ _ _ h1 _ _ _ hw (lv_sub hl [2, 3, 4, 5, 6] rfl)
set_option maxHeartbeats 4000000 in
set_option maxRecDepth 100000 in
theorem law_15 {p : Program} {l : Launch} {e : Env} {s : State} {m : MethodId} {below : List Frame} {meth : Method} {c : Code} {b : Nat} (C : Ctx p s m #[Value.ref b] meth c cL_law 9 RL ret) {D : va_G} {cI cL : ClassId} {qx qm : Nat → Nat} {qo L : Nat} {xs : Nat → Int32} (E : gEL D cI cL s) (Z : gZ (va_A [] s.heap.size) s s.heap) (hT : l.stackTraces = false) (hX : va_X b L xs s s.heap) (hbl : b < s.heap.size) (hL : L ≤ 2048) (j : Nat) (hj : 4 * j + 4 ≤ L) {Q : State → Prop} {X M : St} {o : Nat → Int64} (h : Rel X M) (hn : ∀ (X M : St) (o : Nat → Int64), Rel X M → ∀ (H : Heap) (locs : List Loc) (ls : Array Slot), gW D [] (LW cI cL qx qm qo (X, o) M) s H locs → lv_has ls 9 [(0, .ref b), (1, .ref (qx 0)), (2, .ref (qm 0)), (3, .ref qo), (4, .int (nI (4 * j)))] → W p l e room_1 s m #[Value.ref b] below meth c H locs (30 + (j + 1) * 8) (500 + (j + 1) * 48) Q (F0 m 2491 ls [])) : ∀ (H : Heap) (locs : List Loc) (ls : Array Slot), gW D [] (LW cI cL qx qm qo (X, o) M) s H locs → lv_has ls 9 [(0, .ref b), (1, .ref (qx 0)), (2, .ref (qm 0)), (3, .ref qo), (4, .int (nI (4 * j)))] → W p l e room_1 s m #[Value.ref b] below meth c H locs (30 + j * 8) (500 + j * 48) Q (F0 m 1096 ls []) := by
  have hj5 : j ≤ 511 := by omega
  obtain ⟨R, r, M1, hf1, hf2, hag⟩ := op_tagsAbove (xs (4 * j + 1)) h
  intro H locs ls hw hl
  refine lv_aload_n C.1 C.2.1 dL_law_1096 rfl (lv_at hl 1 rfl) ?_
  refine lv_aload_n C.1 C.2.1 dL_law_1097 rfl (lv_at hl 0 rfl) ?_
  refine lv_iload C.1 C.2.1 dL_law_1098 (lv_at hl 4 rfl) ?_
  refine lv_iconst (v := 1) C.1 C.2.1 dL_law_1100 (by decide) ?_
  refine lv_iadd C.1 C.2.1 dL_law_1101 ?_
  refine g_sld C hX hbl hL hw (4 * j + 1) (sx1 (4 * j)) (by omega) dL_law_1102 ?_
  refine lv_aload_n C.1 C.2.1 dL_law_1103 rfl (lv_at hl 3 rfl) ?_
  refine g_lh (rest := []) (As := [.ref (qx 0), .int (xs (4 * j + 1)), .ref qo]) (rm := ({ frames := 8, cells := 1, slots := 6, locals := 132 } : Room)) C E Z hw FH_tagsAbove kz_L (ctL_tagsAbove l hT (cI := cI) (cL := cL) (D := D) (q := qx) (qo := qo) X o (xs (4 * j + 1)) _ hf1 (fun e he => by simpa using agR_E hag e he)) km_L_181 rfl hl.1 rfl (Nat.le_of_ble_eq_true rfl) ⟨(Nat.le_of_ble_eq_true rfl), (Nat.le_of_ble_eq_true rfl)⟩ ⟨by (try dsimp only [room_1]); omega, by (try dsimp only [room_1]); omega⟩ dL_law_1104 (fun k u hp H locs hw => ?_)
  refine lv_istore (lv' := [(5, .int k), (0, .ref b), (1, .ref (qx 0)), (2, .ref (qm 0)), (3, .ref qo), (4, .int (nI (4 * j)))]) C.1 C.2.1 dL_law_1107 hl (by decide) rfl (fun ls hl => ?_)
  refine lv_aload_n C.1 C.2.1 dL_law_1109 rfl (lv_at hl 3 rfl) ?_
  refine lv_aload_n C.1 C.2.1 dL_law_1110 rfl (lv_at hl 1 rfl) ?_
  refine lv_iload C.1 C.2.1 dL_law_1111 (lv_at hl 5 rfl) ?_
  refine lv_iconst (v := 1) C.1 C.2.1 dL_law_1113 (by decide) ?_
  refine lv_iadd C.1 C.2.1 dL_law_1114 ?_
  refine g_sld C hX hbl hL hw (4 * j + 1) (sx1 (4 * j)) (by omega) dL_law_1115 ?_
  refine g_lmi (rest := []) hw (g_runV (rm := ({ frames := 2, cells := 0, slots := 0, locals := 43 } : Room)) (As := [.int (xs (4 * j + 1))]) (rest := []) C E.E (gW_sub1 (LW_m hw)) F_X4_tagsAbove (ctX4_tagsAbove l (cI := cI) (D := D) (q := qm) M (xs (4 * j + 1)) _ hf2) km_L_183 0 rfl rfl rfl hl.1 rfl (Nat.le_of_ble_eq_true rfl) ⟨(Nat.le_of_ble_eq_true rfl), (Nat.le_of_ble_eq_true rfl)⟩ ⟨by (try dsimp only [room_1]); omega, by (try dsimp only [room_1]); omega⟩ dL_law_1116) (fun H locs hw => ?_)
  refine lv_istore (lv' := [(6, .int r), (5, .int k), (0, .ref b), (1, .ref (qx 0)), (2, .ref (qm 0)), (3, .ref qo), (4, .int (nI (4 * j)))]) C.1 C.2.1 dL_law_1119 hl (by decide) rfl (fun ls hl => ?_)
  refine lv_aload_n C.1 C.2.1 dL_law_1121 rfl (lv_at hl 4 rfl) ?_
  refine g_lmi (rest := []) hw (g_runV (rm := ({ frames := 0, cells := 0, slots := 0, locals := 0 } : Room)) (As := []) (rest := []) C E.E (gW_sub1 (LW_m hw)) F_X4_thrown (ctX4_thrown l (cI := cI) (D := D) (q := qm) M1 _ (r1 := M1 10 0) rfl) km_L_133 0 rfl rfl rfl hl.1 rfl (Nat.le_of_ble_eq_true rfl) ⟨(Nat.le_of_ble_eq_true rfl), (Nat.le_of_ble_eq_true rfl)⟩ ⟨by (try dsimp only [room_1]); omega, by (try dsimp only [room_1]); omega⟩ dL_law_1122) (fun H locs hw => ?_)
  refine lv_iload C.1 C.2.1 dL_law_1125 (lv_at hl 1 rfl) ?_
  rcases finR (fun r => Int32.toInt64 r) (by decide) hag hp with ⟨rfl, hk, X1, rfl, h1⟩ | ⟨hk0, hk, X1, rfl, h1⟩
  · refine lv_icmp_eq (tgt := 1132) C.1 C.2.1 dL_law_1127 (by decide) (fun _ => ?_) (fun hc => absurd hk hc)
    refine lv_iload C.1 C.2.1 dL_law_1132 (lv_at hl 1 rfl) ?_
    refine lv_if_ne (tgt := 1149) C.1 C.2.1 dL_law_1134 (by decide) (fun hc => absurd rfl hc) (fun _ => ?_)
    refine lv_aload_n C.1 C.2.1 dL_law_1137 rfl (lv_at hl 5 rfl) ?_
    refine lv_iconst (v := 0) C.1 C.2.1 dL_law_1138 (by decide) ?_
    refine g_lout C E hw dL_law_1139 ?_
    refine lv_iload C.1 C.2.1 dL_law_1140 (lv_at hl 0 rfl) ?_
    refine lv_i2l (v := Int32.toInt64 r) C.1 C.2.1 dL_law_1142 rfl ?_
    refine g_lcmp2 C rfl dL_law_1143 ?_
    refine lv_if_eq (tgt := 1149) C.1 C.2.1 dL_law_1144 (by decide) (fun _ => ?_) (fun hc => absurd rfl hc)
    refine lv_goto (tgt := 2491) C.1 C.2.1 dL_law_1149 (by decide) ?_
    refine W.widen (k := 30 + (j + 1) * 8) (n := 500 + (j + 1) * 48) (by (try dsimp only); omega) (by (try dsimp only); omega) ?_
    exact hn _ _ _ h1 _ _ _ hw (lv_sub hl [2, 3, 4, 5, 6] rfl)
  · refine lv_icmp_eq (tgt := 1132) C.1 C.2.1 dL_law_1127 (by decide) (fun _ => ?_) (fun hc => absurd hk hc)
    refine lv_iload C.1 C.2.1 dL_law_1132 (lv_at hl 1 rfl) ?_
    refine lv_if_ne (tgt := 1149) C.1 C.2.1 dL_law_1134 (by decide) (fun _ => ?_) (fun hc => absurd hc hk0)
    refine lv_goto (tgt := 2491) C.1 C.2.1 dL_law_1149 (by decide) ?_
    refine W.widen (k := 30 + (j + 1) * 8) (n := 500 + (j + 1) * 48) (by (try dsimp only); omega) (by (try dsimp only); omega) ?_
    exact hn _ _ _ h1 _ _ _ hw (lv_sub hl [2, 3, 4, 5, 6] rfl)
set_option maxHeartbeats 4000000 in
set_option maxRecDepth 100000 in
theorem law_16 {p : Program} {l : Launch} {e : Env} {s : State} {m : MethodId} {below : List Frame} {meth : Method} {c : Code} {b : Nat} (C : Ctx p s m #[Value.ref b] meth c cL_law 9 RL ret) {D : va_G} {cI cL : ClassId} {qx qm : Nat → Nat} {qo L : Nat} {xs : Nat → Int32} (E : gEL D cI cL s) (Z : gZ (va_A [] s.heap.size) s s.heap) (hT : l.stackTraces = false) (hX : va_X b L xs s s.heap) (hbl : b < s.heap.size) (hL : L ≤ 2048) (j : Nat) (hj : 4 * j + 4 ≤ L) {Q : State → Prop} {X M : St} {o : Nat → Int64} (h : Rel X M) (hn : ∀ (X M : St) (o : Nat → Int64), Rel X M → ∀ (H : Heap) (locs : List Loc) (ls : Array Slot), gW D [] (LW cI cL qx qm qo (X, o) M) s H locs → lv_has ls 9 [(0, .ref b), (1, .ref (qx 0)), (2, .ref (qm 0)), (3, .ref qo), (4, .int (nI (4 * j)))] → W p l e room_1 s m #[Value.ref b] below meth c H locs (30 + (j + 1) * 8) (500 + (j + 1) * 48) Q (F0 m 2491 ls [])) : ∀ (H : Heap) (locs : List Loc) (ls : Array Slot), gW D [] (LW cI cL qx qm qo (X, o) M) s H locs → lv_has ls 9 [(0, .ref b), (1, .ref (qx 0)), (2, .ref (qm 0)), (3, .ref qo), (4, .int (nI (4 * j)))] → W p l e room_1 s m #[Value.ref b] below meth c H locs (30 + j * 8) (500 + j * 48) Q (F0 m 1152 ls []) := by
  have hj5 : j ≤ 511 := by omega
  obtain ⟨R, r, M1, hf1, hf2, hag⟩ := op_tagsBelow (xs (4 * j + 1)) h
  intro H locs ls hw hl
  refine lv_aload_n C.1 C.2.1 dL_law_1152 rfl (lv_at hl 1 rfl) ?_
  refine lv_aload_n C.1 C.2.1 dL_law_1153 rfl (lv_at hl 0 rfl) ?_
  refine lv_iload C.1 C.2.1 dL_law_1154 (lv_at hl 4 rfl) ?_
  refine lv_iconst (v := 1) C.1 C.2.1 dL_law_1156 (by decide) ?_
  refine lv_iadd C.1 C.2.1 dL_law_1157 ?_
  refine g_sld C hX hbl hL hw (4 * j + 1) (sx1 (4 * j)) (by omega) dL_law_1158 ?_
  refine lv_aload_n C.1 C.2.1 dL_law_1159 rfl (lv_at hl 3 rfl) ?_
  refine g_lh (rest := []) (As := [.ref (qx 0), .int (xs (4 * j + 1)), .ref qo]) (rm := ({ frames := 8, cells := 1, slots := 6, locals := 132 } : Room)) C E Z hw FH_tagsBelow kz_L (ctL_tagsBelow l hT (cI := cI) (cL := cL) (D := D) (q := qx) (qo := qo) X o (xs (4 * j + 1)) _ hf1 (fun e he => by simpa using agR_E hag e he)) km_L_184 rfl hl.1 rfl (Nat.le_of_ble_eq_true rfl) ⟨(Nat.le_of_ble_eq_true rfl), (Nat.le_of_ble_eq_true rfl)⟩ ⟨by (try dsimp only [room_1]); omega, by (try dsimp only [room_1]); omega⟩ dL_law_1160 (fun k u hp H locs hw => ?_)
  refine lv_istore (lv' := [(5, .int k), (0, .ref b), (1, .ref (qx 0)), (2, .ref (qm 0)), (3, .ref qo), (4, .int (nI (4 * j)))]) C.1 C.2.1 dL_law_1163 hl (by decide) rfl (fun ls hl => ?_)
  refine lv_aload_n C.1 C.2.1 dL_law_1165 rfl (lv_at hl 3 rfl) ?_
  refine lv_aload_n C.1 C.2.1 dL_law_1166 rfl (lv_at hl 1 rfl) ?_
  refine lv_iload C.1 C.2.1 dL_law_1167 (lv_at hl 5 rfl) ?_
  refine lv_iconst (v := 1) C.1 C.2.1 dL_law_1169 (by decide) ?_
  refine lv_iadd C.1 C.2.1 dL_law_1170 ?_
  refine g_sld C hX hbl hL hw (4 * j + 1) (sx1 (4 * j)) (by omega) dL_law_1171 ?_
  refine g_lmi (rest := []) hw (g_runV (rm := ({ frames := 3, cells := 0, slots := 0, locals := 68 } : Room)) (As := [.int (xs (4 * j + 1))]) (rest := []) C E.E (gW_sub1 (LW_m hw)) F_X4_tagsBelow (ctX4_tagsBelow l (cI := cI) (D := D) (q := qm) M (xs (4 * j + 1)) _ hf2) km_L_186 0 rfl rfl rfl hl.1 rfl (Nat.le_of_ble_eq_true rfl) ⟨(Nat.le_of_ble_eq_true rfl), (Nat.le_of_ble_eq_true rfl)⟩ ⟨by (try dsimp only [room_1]); omega, by (try dsimp only [room_1]); omega⟩ dL_law_1172) (fun H locs hw => ?_)
  refine lv_istore (lv' := [(6, .int r), (5, .int k), (0, .ref b), (1, .ref (qx 0)), (2, .ref (qm 0)), (3, .ref qo), (4, .int (nI (4 * j)))]) C.1 C.2.1 dL_law_1175 hl (by decide) rfl (fun ls hl => ?_)
  refine lv_aload_n C.1 C.2.1 dL_law_1177 rfl (lv_at hl 4 rfl) ?_
  refine g_lmi (rest := []) hw (g_runV (rm := ({ frames := 0, cells := 0, slots := 0, locals := 0 } : Room)) (As := []) (rest := []) C E.E (gW_sub1 (LW_m hw)) F_X4_thrown (ctX4_thrown l (cI := cI) (D := D) (q := qm) M1 _ (r1 := M1 10 0) rfl) km_L_133 0 rfl rfl rfl hl.1 rfl (Nat.le_of_ble_eq_true rfl) ⟨(Nat.le_of_ble_eq_true rfl), (Nat.le_of_ble_eq_true rfl)⟩ ⟨by (try dsimp only [room_1]); omega, by (try dsimp only [room_1]); omega⟩ dL_law_1178) (fun H locs hw => ?_)
  refine lv_iload C.1 C.2.1 dL_law_1181 (lv_at hl 1 rfl) ?_
  rcases finR (fun r => Int32.toInt64 r) (by decide) hag hp with ⟨rfl, hk, X1, rfl, h1⟩ | ⟨hk0, hk, X1, rfl, h1⟩
  · refine lv_icmp_eq (tgt := 1188) C.1 C.2.1 dL_law_1183 (by decide) (fun _ => ?_) (fun hc => absurd hk hc)
    refine lv_iload C.1 C.2.1 dL_law_1188 (lv_at hl 1 rfl) ?_
    refine lv_if_ne (tgt := 1205) C.1 C.2.1 dL_law_1190 (by decide) (fun hc => absurd rfl hc) (fun _ => ?_)
    refine lv_aload_n C.1 C.2.1 dL_law_1193 rfl (lv_at hl 5 rfl) ?_
    refine lv_iconst (v := 0) C.1 C.2.1 dL_law_1194 (by decide) ?_
    refine g_lout C E hw dL_law_1195 ?_
    refine lv_iload C.1 C.2.1 dL_law_1196 (lv_at hl 0 rfl) ?_
    refine lv_i2l (v := Int32.toInt64 r) C.1 C.2.1 dL_law_1198 rfl ?_
    refine g_lcmp2 C rfl dL_law_1199 ?_
    refine lv_if_eq (tgt := 1205) C.1 C.2.1 dL_law_1200 (by decide) (fun _ => ?_) (fun hc => absurd rfl hc)
    refine lv_goto (tgt := 2491) C.1 C.2.1 dL_law_1205 (by decide) ?_
    refine W.widen (k := 30 + (j + 1) * 8) (n := 500 + (j + 1) * 48) (by (try dsimp only); omega) (by (try dsimp only); omega) ?_
    exact hn _ _ _ h1 _ _ _ hw (lv_sub hl [2, 3, 4, 5, 6] rfl)
  · refine lv_icmp_eq (tgt := 1188) C.1 C.2.1 dL_law_1183 (by decide) (fun _ => ?_) (fun hc => absurd hk hc)
    refine lv_iload C.1 C.2.1 dL_law_1188 (lv_at hl 1 rfl) ?_
    refine lv_if_ne (tgt := 1205) C.1 C.2.1 dL_law_1190 (by decide) (fun _ => ?_) (fun hc => absurd hc hk0)
    refine lv_goto (tgt := 2491) C.1 C.2.1 dL_law_1205 (by decide) ?_
    refine W.widen (k := 30 + (j + 1) * 8) (n := 500 + (j + 1) * 48) (by (try dsimp only); omega) (by (try dsimp only); omega) ?_
    exact hn _ _ _ h1 _ _ _ hw (lv_sub hl [2, 3, 4, 5, 6] rfl)
set_option maxHeartbeats 4000000 in
set_option maxRecDepth 100000 in
theorem law_17 {p : Program} {l : Launch} {e : Env} {s : State} {m : MethodId} {below : List Frame} {meth : Method} {c : Code} {b : Nat} (C : Ctx p s m #[Value.ref b] meth c cL_law 9 RL ret) {D : va_G} {cI cL : ClassId} {qx qm : Nat → Nat} {qo L : Nat} {xs : Nat → Int32} (E : gEL D cI cL s) (Z : gZ (va_A [] s.heap.size) s s.heap) (hT : l.stackTraces = false) (hX : va_X b L xs s s.heap) (hbl : b < s.heap.size) (hL : L ≤ 2048) (j : Nat) (hj : 4 * j + 4 ≤ L) {Q : State → Prop} {X M : St} {o : Nat → Int64} (h : Rel X M) (hn : ∀ (X M : St) (o : Nat → Int64), Rel X M → ∀ (H : Heap) (locs : List Loc) (ls : Array Slot), gW D [] (LW cI cL qx qm qo (X, o) M) s H locs → lv_has ls 9 [(0, .ref b), (1, .ref (qx 0)), (2, .ref (qm 0)), (3, .ref qo), (4, .int (nI (4 * j)))] → W p l e room_1 s m #[Value.ref b] below meth c H locs (30 + (j + 1) * 8) (500 + (j + 1) * 48) Q (F0 m 2491 ls [])) : ∀ (H : Heap) (locs : List Loc) (ls : Array Slot), gW D [] (LW cI cL qx qm qo (X, o) M) s H locs → lv_has ls 9 [(0, .ref b), (1, .ref (qx 0)), (2, .ref (qm 0)), (3, .ref qo), (4, .int (nI (4 * j)))] → W p l e room_1 s m #[Value.ref b] below meth c H locs (30 + j * 8) (500 + j * 48) Q (F0 m 1208 ls []) := by
  have hj5 : j ≤ 511 := by omega
  obtain ⟨R, r, M1, hf1, hf2, hag⟩ := op_isBelow (xs (4 * j + 1)) (xs (4 * j + 2)) h
  intro H locs ls hw hl
  refine lv_aload_n C.1 C.2.1 dL_law_1208 rfl (lv_at hl 1 rfl) ?_
  refine lv_aload_n C.1 C.2.1 dL_law_1209 rfl (lv_at hl 0 rfl) ?_
  refine lv_iload C.1 C.2.1 dL_law_1210 (lv_at hl 4 rfl) ?_
  refine lv_iconst (v := 1) C.1 C.2.1 dL_law_1212 (by decide) ?_
  refine lv_iadd C.1 C.2.1 dL_law_1213 ?_
  refine g_sld C hX hbl hL hw (4 * j + 1) (sx1 (4 * j)) (by omega) dL_law_1214 ?_
  refine lv_aload_n C.1 C.2.1 dL_law_1215 rfl (lv_at hl 0 rfl) ?_
  refine lv_iload C.1 C.2.1 dL_law_1216 (lv_at hl 4 rfl) ?_
  refine lv_iconst (v := 2) C.1 C.2.1 dL_law_1218 (by decide) ?_
  refine lv_iadd C.1 C.2.1 dL_law_1219 ?_
  refine g_sld C hX hbl hL hw (4 * j + 2) (sx2 (4 * j)) (by omega) dL_law_1220 ?_
  refine lv_aload_n C.1 C.2.1 dL_law_1221 rfl (lv_at hl 3 rfl) ?_
  refine g_lh (rest := []) (As := [.ref (qx 0), .int (xs (4 * j + 1)), .int (xs (4 * j + 2)), .ref qo]) (rm := ({ frames := 8, cells := 2, slots := 12, locals := 133 } : Room)) C E Z hw FH_isBelow kz_L (ctL_isBelow l hT (cI := cI) (cL := cL) (D := D) (q := qx) (qo := qo) X o (xs (4 * j + 1)) (xs (4 * j + 2)) _ hf1 (fun e he => by simpa using agR_E hag e he)) km_L_187 rfl hl.1 rfl (Nat.le_of_ble_eq_true rfl) ⟨(Nat.le_of_ble_eq_true rfl), (Nat.le_of_ble_eq_true rfl)⟩ ⟨by (try dsimp only [room_1]); omega, by (try dsimp only [room_1]); omega⟩ dL_law_1222 (fun k u hp H locs hw => ?_)
  refine lv_istore (lv' := [(5, .int k), (0, .ref b), (1, .ref (qx 0)), (2, .ref (qm 0)), (3, .ref qo), (4, .int (nI (4 * j)))]) C.1 C.2.1 dL_law_1225 hl (by decide) rfl (fun ls hl => ?_)
  refine lv_aload_n C.1 C.2.1 dL_law_1227 rfl (lv_at hl 3 rfl) ?_
  refine lv_aload_n C.1 C.2.1 dL_law_1228 rfl (lv_at hl 1 rfl) ?_
  refine lv_iload C.1 C.2.1 dL_law_1229 (lv_at hl 5 rfl) ?_
  refine lv_iconst (v := 1) C.1 C.2.1 dL_law_1231 (by decide) ?_
  refine lv_iadd C.1 C.2.1 dL_law_1232 ?_
  refine g_sld C hX hbl hL hw (4 * j + 1) (sx1 (4 * j)) (by omega) dL_law_1233 ?_
  refine lv_aload_n C.1 C.2.1 dL_law_1234 rfl (lv_at hl 1 rfl) ?_
  refine lv_iload C.1 C.2.1 dL_law_1235 (lv_at hl 5 rfl) ?_
  refine lv_iconst (v := 2) C.1 C.2.1 dL_law_1237 (by decide) ?_
  refine lv_iadd C.1 C.2.1 dL_law_1238 ?_
  refine g_sld C hX hbl hL hw (4 * j + 2) (sx2 (4 * j)) (by omega) dL_law_1239 ?_
  refine g_lmi (rest := []) hw (g_runV (rm := ({ frames := 2, cells := 0, slots := 0, locals := 45 } : Room)) (As := [.int (xs (4 * j + 1)), .int (xs (4 * j + 2))]) (rest := []) C E.E (gW_sub1 (LW_m hw)) F_X4_isBelow (ctX4_isBelow l (cI := cI) (D := D) (q := qm) M (xs (4 * j + 1)) (xs (4 * j + 2)) _ hf2) km_L_189 0 rfl rfl rfl hl.1 rfl (Nat.le_of_ble_eq_true rfl) ⟨(Nat.le_of_ble_eq_true rfl), (Nat.le_of_ble_eq_true rfl)⟩ ⟨by (try dsimp only [room_1]); omega, by (try dsimp only [room_1]); omega⟩ dL_law_1240) (fun H locs hw => ?_)
  refine lv_istore (lv' := [(6, .int r), (5, .int k), (0, .ref b), (1, .ref (qx 0)), (2, .ref (qm 0)), (3, .ref qo), (4, .int (nI (4 * j)))]) C.1 C.2.1 dL_law_1243 hl (by decide) rfl (fun ls hl => ?_)
  refine lv_aload_n C.1 C.2.1 dL_law_1245 rfl (lv_at hl 4 rfl) ?_
  refine g_lmi (rest := []) hw (g_runV (rm := ({ frames := 0, cells := 0, slots := 0, locals := 0 } : Room)) (As := []) (rest := []) C E.E (gW_sub1 (LW_m hw)) F_X4_thrown (ctX4_thrown l (cI := cI) (D := D) (q := qm) M1 _ (r1 := M1 10 0) rfl) km_L_133 0 rfl rfl rfl hl.1 rfl (Nat.le_of_ble_eq_true rfl) ⟨(Nat.le_of_ble_eq_true rfl), (Nat.le_of_ble_eq_true rfl)⟩ ⟨by (try dsimp only [room_1]); omega, by (try dsimp only [room_1]); omega⟩ dL_law_1246) (fun H locs hw => ?_)
  refine lv_iload C.1 C.2.1 dL_law_1249 (lv_at hl 1 rfl) ?_
  rcases finR (fun r => if r = 0 then 0 else 1) (by decide) hag hp with ⟨rfl, hk, X1, rfl, h1⟩ | ⟨hk0, hk, X1, rfl, h1⟩
  · refine lv_icmp_eq (tgt := 1256) C.1 C.2.1 dL_law_1251 (by decide) (fun _ => ?_) (fun hc => absurd hk hc)
    refine lv_iload C.1 C.2.1 dL_law_1256 (lv_at hl 1 rfl) ?_
    refine lv_if_ne (tgt := 1280) C.1 C.2.1 dL_law_1258 (by decide) (fun hc => absurd rfl hc) (fun _ => ?_)
    refine lv_aload_n C.1 C.2.1 dL_law_1261 rfl (lv_at hl 5 rfl) ?_
    refine lv_iconst (v := 0) C.1 C.2.1 dL_law_1262 (by decide) ?_
    refine g_lout C E hw dL_law_1263 ?_
    refine lv_iload C.1 C.2.1 dL_law_1264 (lv_at hl 0 rfl) ?_
    refine lv_if_eq (tgt := 1273) C.1 C.2.1 dL_law_1266 (by decide) (fun hc => ?_) (fun hc => ?_)
    · refine lv_lconst (v := 0) C.1 C.2.1 dL_law_1273 (by decide) ?_
      refine g_lcmp2 C (show (if r = 0 then (0 : Int64) else 1) = 0 by rw [if_pos hc]) dL_law_1274 ?_
      refine lv_if_eq (tgt := 1280) C.1 C.2.1 dL_law_1275 (by decide) (fun _ => ?_) (fun hc => absurd rfl hc)
      refine lv_goto (tgt := 2491) C.1 C.2.1 dL_law_1280 (by decide) ?_
      refine W.widen (k := 30 + (j + 1) * 8) (n := 500 + (j + 1) * 48) (by (try dsimp only); omega) (by (try dsimp only); omega) ?_
      exact hn _ _ _ h1 _ _ _ hw (lv_sub hl [2, 3, 4, 5, 6] rfl)
    · refine lv_lconst (v := 1) C.1 C.2.1 dL_law_1269 (by decide) ?_
      refine lv_goto (tgt := 1274) C.1 C.2.1 dL_law_1270 (by decide) ?_
      refine g_lcmp2 C (show (if r = 0 then (0 : Int64) else 1) = 1 by rw [if_neg hc]) dL_law_1274 ?_
      refine lv_if_eq (tgt := 1280) C.1 C.2.1 dL_law_1275 (by decide) (fun _ => ?_) (fun hc => absurd rfl hc)
      refine lv_goto (tgt := 2491) C.1 C.2.1 dL_law_1280 (by decide) ?_
      refine W.widen (k := 30 + (j + 1) * 8) (n := 500 + (j + 1) * 48) (by (try dsimp only); omega) (by (try dsimp only); omega) ?_
      exact hn _ _ _ h1 _ _ _ hw (lv_sub hl [2, 3, 4, 5, 6] rfl)
  · refine lv_icmp_eq (tgt := 1256) C.1 C.2.1 dL_law_1251 (by decide) (fun _ => ?_) (fun hc => absurd hk hc)
    refine lv_iload C.1 C.2.1 dL_law_1256 (lv_at hl 1 rfl) ?_
    refine lv_if_ne (tgt := 1280) C.1 C.2.1 dL_law_1258 (by decide) (fun _ => ?_) (fun hc => absurd hc hk0)
    refine lv_goto (tgt := 2491) C.1 C.2.1 dL_law_1280 (by decide) ?_
    refine W.widen (k := 30 + (j + 1) * 8) (n := 500 + (j + 1) * 48) (by (try dsimp only); omega) (by (try dsimp only); omega) ?_
    exact hn _ _ _ h1 _ _ _ hw (lv_sub hl [2, 3, 4, 5, 6] rfl)
set_option maxHeartbeats 4000000 in
set_option maxRecDepth 100000 in
theorem law_18 {p : Program} {l : Launch} {e : Env} {s : State} {m : MethodId} {below : List Frame} {meth : Method} {c : Code} {b : Nat} (C : Ctx p s m #[Value.ref b] meth c cL_law 9 RL ret) {D : va_G} {cI cL : ClassId} {qx qm : Nat → Nat} {qo L : Nat} {xs : Nat → Int32} (E : gEL D cI cL s) (Z : gZ (va_A [] s.heap.size) s s.heap) (hT : l.stackTraces = false) (hX : va_X b L xs s s.heap) (hbl : b < s.heap.size) (hL : L ≤ 2048) (j : Nat) (hj : 4 * j + 4 ≤ L) {Q : State → Prop} {X M : St} {o : Nat → Int64} (h : Rel X M) (hn : ∀ (X M : St) (o : Nat → Int64), Rel X M → ∀ (H : Heap) (locs : List Loc) (ls : Array Slot), gW D [] (LW cI cL qx qm qo (X, o) M) s H locs → lv_has ls 9 [(0, .ref b), (1, .ref (qx 0)), (2, .ref (qm 0)), (3, .ref qo), (4, .int (nI (4 * j)))] → W p l e room_1 s m #[Value.ref b] below meth c H locs (30 + (j + 1) * 8) (500 + (j + 1) * 48) Q (F0 m 2491 ls [])) : ∀ (H : Heap) (locs : List Loc) (ls : Array Slot), gW D [] (LW cI cL qx qm qo (X, o) M) s H locs → lv_has ls 9 [(0, .ref b), (1, .ref (qx 0)), (2, .ref (qm 0)), (3, .ref qo), (4, .int (nI (4 * j)))] → W p l e room_1 s m #[Value.ref b] below meth c H locs (30 + j * 8) (500 + j * 48) Q (F0 m 1283 ls []) := by
  have hj5 : j ≤ 511 := by omega
  obtain ⟨R, r, M1, hf1, hf2, hag⟩ := op_nearestAbove (xs (4 * j + 1)) (xs (4 * j + 2)) h
  intro H locs ls hw hl
  refine lv_aload_n C.1 C.2.1 dL_law_1283 rfl (lv_at hl 1 rfl) ?_
  refine lv_aload_n C.1 C.2.1 dL_law_1284 rfl (lv_at hl 0 rfl) ?_
  refine lv_iload C.1 C.2.1 dL_law_1285 (lv_at hl 4 rfl) ?_
  refine lv_iconst (v := 1) C.1 C.2.1 dL_law_1287 (by decide) ?_
  refine lv_iadd C.1 C.2.1 dL_law_1288 ?_
  refine g_sld C hX hbl hL hw (4 * j + 1) (sx1 (4 * j)) (by omega) dL_law_1289 ?_
  refine lv_aload_n C.1 C.2.1 dL_law_1290 rfl (lv_at hl 0 rfl) ?_
  refine lv_iload C.1 C.2.1 dL_law_1291 (lv_at hl 4 rfl) ?_
  refine lv_iconst (v := 2) C.1 C.2.1 dL_law_1293 (by decide) ?_
  refine lv_iadd C.1 C.2.1 dL_law_1294 ?_
  refine g_sld C hX hbl hL hw (4 * j + 2) (sx2 (4 * j)) (by omega) dL_law_1295 ?_
  refine lv_aload_n C.1 C.2.1 dL_law_1296 rfl (lv_at hl 3 rfl) ?_
  refine g_lh (rest := []) (As := [.ref (qx 0), .int (xs (4 * j + 1)), .int (xs (4 * j + 2)), .ref qo]) (rm := ({ frames := 8, cells := 2, slots := 12, locals := 133 } : Room)) C E Z hw FH_nearestAbove kz_L (ctL_nearestAbove l hT (cI := cI) (cL := cL) (D := D) (q := qx) (qo := qo) X o (xs (4 * j + 1)) (xs (4 * j + 2)) _ hf1 (fun e he => by simpa using agR_E hag e he)) km_L_190 rfl hl.1 rfl (Nat.le_of_ble_eq_true rfl) ⟨(Nat.le_of_ble_eq_true rfl), (Nat.le_of_ble_eq_true rfl)⟩ ⟨by (try dsimp only [room_1]); omega, by (try dsimp only [room_1]); omega⟩ dL_law_1297 (fun k u hp H locs hw => ?_)
  refine lv_istore (lv' := [(5, .int k), (0, .ref b), (1, .ref (qx 0)), (2, .ref (qm 0)), (3, .ref qo), (4, .int (nI (4 * j)))]) C.1 C.2.1 dL_law_1300 hl (by decide) rfl (fun ls hl => ?_)
  refine lv_aload_n C.1 C.2.1 dL_law_1302 rfl (lv_at hl 3 rfl) ?_
  refine lv_aload_n C.1 C.2.1 dL_law_1303 rfl (lv_at hl 1 rfl) ?_
  refine lv_iload C.1 C.2.1 dL_law_1304 (lv_at hl 5 rfl) ?_
  refine lv_iconst (v := 1) C.1 C.2.1 dL_law_1306 (by decide) ?_
  refine lv_iadd C.1 C.2.1 dL_law_1307 ?_
  refine g_sld C hX hbl hL hw (4 * j + 1) (sx1 (4 * j)) (by omega) dL_law_1308 ?_
  refine lv_aload_n C.1 C.2.1 dL_law_1309 rfl (lv_at hl 1 rfl) ?_
  refine lv_iload C.1 C.2.1 dL_law_1310 (lv_at hl 5 rfl) ?_
  refine lv_iconst (v := 2) C.1 C.2.1 dL_law_1312 (by decide) ?_
  refine lv_iadd C.1 C.2.1 dL_law_1313 ?_
  refine g_sld C hX hbl hL hw (4 * j + 2) (sx2 (4 * j)) (by omega) dL_law_1314 ?_
  refine g_lmi (rest := []) hw (g_runV (rm := ({ frames := 2, cells := 0, slots := 0, locals := 43 } : Room)) (As := [.int (xs (4 * j + 1)), .int (xs (4 * j + 2))]) (rest := []) C E.E (gW_sub1 (LW_m hw)) F_X4_nearestAbove (ctX4_nearestAbove l (cI := cI) (D := D) (q := qm) M (xs (4 * j + 1)) (xs (4 * j + 2)) _ hf2) km_L_192 0 rfl rfl rfl hl.1 rfl (Nat.le_of_ble_eq_true rfl) ⟨(Nat.le_of_ble_eq_true rfl), (Nat.le_of_ble_eq_true rfl)⟩ ⟨by (try dsimp only [room_1]); omega, by (try dsimp only [room_1]); omega⟩ dL_law_1315) (fun H locs hw => ?_)
  refine lv_istore (lv' := [(6, .int r), (5, .int k), (0, .ref b), (1, .ref (qx 0)), (2, .ref (qm 0)), (3, .ref qo), (4, .int (nI (4 * j)))]) C.1 C.2.1 dL_law_1318 hl (by decide) rfl (fun ls hl => ?_)
  refine lv_aload_n C.1 C.2.1 dL_law_1320 rfl (lv_at hl 4 rfl) ?_
  refine g_lmi (rest := []) hw (g_runV (rm := ({ frames := 0, cells := 0, slots := 0, locals := 0 } : Room)) (As := []) (rest := []) C E.E (gW_sub1 (LW_m hw)) F_X4_thrown (ctX4_thrown l (cI := cI) (D := D) (q := qm) M1 _ (r1 := M1 10 0) rfl) km_L_133 0 rfl rfl rfl hl.1 rfl (Nat.le_of_ble_eq_true rfl) ⟨(Nat.le_of_ble_eq_true rfl), (Nat.le_of_ble_eq_true rfl)⟩ ⟨by (try dsimp only [room_1]); omega, by (try dsimp only [room_1]); omega⟩ dL_law_1321) (fun H locs hw => ?_)
  refine lv_iload C.1 C.2.1 dL_law_1324 (lv_at hl 1 rfl) ?_
  rcases finR (fun r => Int32.toInt64 r) (by decide) hag hp with ⟨rfl, hk, X1, rfl, h1⟩ | ⟨hk0, hk, X1, rfl, h1⟩
  · refine lv_icmp_eq (tgt := 1331) C.1 C.2.1 dL_law_1326 (by decide) (fun _ => ?_) (fun hc => absurd hk hc)
    refine lv_iload C.1 C.2.1 dL_law_1331 (lv_at hl 1 rfl) ?_
    refine lv_if_ne (tgt := 1348) C.1 C.2.1 dL_law_1333 (by decide) (fun hc => absurd rfl hc) (fun _ => ?_)
    refine lv_aload_n C.1 C.2.1 dL_law_1336 rfl (lv_at hl 5 rfl) ?_
    refine lv_iconst (v := 0) C.1 C.2.1 dL_law_1337 (by decide) ?_
    refine g_lout C E hw dL_law_1338 ?_
    refine lv_iload C.1 C.2.1 dL_law_1339 (lv_at hl 0 rfl) ?_
    refine lv_i2l (v := Int32.toInt64 r) C.1 C.2.1 dL_law_1341 rfl ?_
    refine g_lcmp2 C rfl dL_law_1342 ?_
    refine lv_if_eq (tgt := 1348) C.1 C.2.1 dL_law_1343 (by decide) (fun _ => ?_) (fun hc => absurd rfl hc)
    refine lv_goto (tgt := 2491) C.1 C.2.1 dL_law_1348 (by decide) ?_
    refine W.widen (k := 30 + (j + 1) * 8) (n := 500 + (j + 1) * 48) (by (try dsimp only); omega) (by (try dsimp only); omega) ?_
    exact hn _ _ _ h1 _ _ _ hw (lv_sub hl [2, 3, 4, 5, 6] rfl)
  · refine lv_icmp_eq (tgt := 1331) C.1 C.2.1 dL_law_1326 (by decide) (fun _ => ?_) (fun hc => absurd hk hc)
    refine lv_iload C.1 C.2.1 dL_law_1331 (lv_at hl 1 rfl) ?_
    refine lv_if_ne (tgt := 1348) C.1 C.2.1 dL_law_1333 (by decide) (fun _ => ?_) (fun hc => absurd hc hk0)
    refine lv_goto (tgt := 2491) C.1 C.2.1 dL_law_1348 (by decide) ?_
    refine W.widen (k := 30 + (j + 1) * 8) (n := 500 + (j + 1) * 48) (by (try dsimp only); omega) (by (try dsimp only); omega) ?_
    exact hn _ _ _ h1 _ _ _ hw (lv_sub hl [2, 3, 4, 5, 6] rfl)
set_option maxHeartbeats 4000000 in
set_option maxRecDepth 100000 in
theorem law_19 {p : Program} {l : Launch} {e : Env} {s : State} {m : MethodId} {below : List Frame} {meth : Method} {c : Code} {b : Nat} (C : Ctx p s m #[Value.ref b] meth c cL_law 9 RL ret) {D : va_G} {cI cL : ClassId} {qx qm : Nat → Nat} {qo L : Nat} {xs : Nat → Int32} (E : gEL D cI cL s) (Z : gZ (va_A [] s.heap.size) s s.heap) (hT : l.stackTraces = false) (hX : va_X b L xs s s.heap) (hbl : b < s.heap.size) (hL : L ≤ 2048) (j : Nat) (hj : 4 * j + 4 ≤ L) {Q : State → Prop} {X M : St} {o : Nat → Int64} (h : Rel X M) (hn : ∀ (X M : St) (o : Nat → Int64), Rel X M → ∀ (H : Heap) (locs : List Loc) (ls : Array Slot), gW D [] (LW cI cL qx qm qo (X, o) M) s H locs → lv_has ls 9 [(0, .ref b), (1, .ref (qx 0)), (2, .ref (qm 0)), (3, .ref qo), (4, .int (nI (4 * j)))] → W p l e room_1 s m #[Value.ref b] below meth c H locs (30 + (j + 1) * 8) (500 + (j + 1) * 48) Q (F0 m 2491 ls [])) : ∀ (H : Heap) (locs : List Loc) (ls : Array Slot), gW D [] (LW cI cL qx qm qo (X, o) M) s H locs → lv_has ls 9 [(0, .ref b), (1, .ref (qx 0)), (2, .ref (qm 0)), (3, .ref qo), (4, .int (nI (4 * j)))] → W p l e room_1 s m #[Value.ref b] below meth c H locs (30 + j * 8) (500 + j * 48) Q (F0 m 1351 ls []) := by
  have hj5 : j ≤ 511 := by omega
  obtain ⟨R, r, M1, hf1, hf2, hag⟩ := op_dreamsWith (xs (4 * j + 1)) h
  intro H locs ls hw hl
  refine lv_aload_n C.1 C.2.1 dL_law_1351 rfl (lv_at hl 1 rfl) ?_
  refine lv_aload_n C.1 C.2.1 dL_law_1352 rfl (lv_at hl 0 rfl) ?_
  refine lv_iload C.1 C.2.1 dL_law_1353 (lv_at hl 4 rfl) ?_
  refine lv_iconst (v := 1) C.1 C.2.1 dL_law_1355 (by decide) ?_
  refine lv_iadd C.1 C.2.1 dL_law_1356 ?_
  refine g_sld C hX hbl hL hw (4 * j + 1) (sx1 (4 * j)) (by omega) dL_law_1357 ?_
  refine lv_aload_n C.1 C.2.1 dL_law_1358 rfl (lv_at hl 3 rfl) ?_
  refine g_lh (rest := []) (As := [.ref (qx 0), .int (xs (4 * j + 1)), .ref qo]) (rm := ({ frames := 8, cells := 1, slots := 6, locals := 132 } : Room)) C E Z hw FH_dreamsWith kz_L (ctL_dreamsWith l hT (cI := cI) (cL := cL) (D := D) (q := qx) (qo := qo) X o (xs (4 * j + 1)) _ hf1 (fun e he => by simpa using agR_E hag e he)) km_L_193 rfl hl.1 rfl (Nat.le_of_ble_eq_true rfl) ⟨(Nat.le_of_ble_eq_true rfl), (Nat.le_of_ble_eq_true rfl)⟩ ⟨by (try dsimp only [room_1]); omega, by (try dsimp only [room_1]); omega⟩ dL_law_1359 (fun k u hp H locs hw => ?_)
  refine lv_istore (lv' := [(5, .int k), (0, .ref b), (1, .ref (qx 0)), (2, .ref (qm 0)), (3, .ref qo), (4, .int (nI (4 * j)))]) C.1 C.2.1 dL_law_1362 hl (by decide) rfl (fun ls hl => ?_)
  refine lv_aload_n C.1 C.2.1 dL_law_1364 rfl (lv_at hl 3 rfl) ?_
  refine lv_aload_n C.1 C.2.1 dL_law_1365 rfl (lv_at hl 1 rfl) ?_
  refine lv_iload C.1 C.2.1 dL_law_1366 (lv_at hl 5 rfl) ?_
  refine lv_iconst (v := 1) C.1 C.2.1 dL_law_1368 (by decide) ?_
  refine lv_iadd C.1 C.2.1 dL_law_1369 ?_
  refine g_sld C hX hbl hL hw (4 * j + 1) (sx1 (4 * j)) (by omega) dL_law_1370 ?_
  refine g_lmi (rest := []) hw (g_runV (rm := ({ frames := 2, cells := 0, slots := 0, locals := 45 } : Room)) (As := [.int (xs (4 * j + 1))]) (rest := []) C E.E (gW_sub1 (LW_m hw)) F_X4_dreamsWith (ctX4_dreamsWith l (cI := cI) (D := D) (q := qm) M (xs (4 * j + 1)) _ hf2) km_L_195 0 rfl rfl rfl hl.1 rfl (Nat.le_of_ble_eq_true rfl) ⟨(Nat.le_of_ble_eq_true rfl), (Nat.le_of_ble_eq_true rfl)⟩ ⟨by (try dsimp only [room_1]); omega, by (try dsimp only [room_1]); omega⟩ dL_law_1371) (fun H locs hw => ?_)
  refine lv_istore (lv' := [(6, .int r), (5, .int k), (0, .ref b), (1, .ref (qx 0)), (2, .ref (qm 0)), (3, .ref qo), (4, .int (nI (4 * j)))]) C.1 C.2.1 dL_law_1374 hl (by decide) rfl (fun ls hl => ?_)
  refine lv_aload_n C.1 C.2.1 dL_law_1376 rfl (lv_at hl 4 rfl) ?_
  refine g_lmi (rest := []) hw (g_runV (rm := ({ frames := 0, cells := 0, slots := 0, locals := 0 } : Room)) (As := []) (rest := []) C E.E (gW_sub1 (LW_m hw)) F_X4_thrown (ctX4_thrown l (cI := cI) (D := D) (q := qm) M1 _ (r1 := M1 10 0) rfl) km_L_133 0 rfl rfl rfl hl.1 rfl (Nat.le_of_ble_eq_true rfl) ⟨(Nat.le_of_ble_eq_true rfl), (Nat.le_of_ble_eq_true rfl)⟩ ⟨by (try dsimp only [room_1]); omega, by (try dsimp only [room_1]); omega⟩ dL_law_1377) (fun H locs hw => ?_)
  refine lv_iload C.1 C.2.1 dL_law_1380 (lv_at hl 1 rfl) ?_
  rcases finR (fun r => Int32.toInt64 r) (by decide) hag hp with ⟨rfl, hk, X1, rfl, h1⟩ | ⟨hk0, hk, X1, rfl, h1⟩
  · refine lv_icmp_eq (tgt := 1387) C.1 C.2.1 dL_law_1382 (by decide) (fun _ => ?_) (fun hc => absurd hk hc)
    refine lv_iload C.1 C.2.1 dL_law_1387 (lv_at hl 1 rfl) ?_
    refine lv_if_ne (tgt := 1404) C.1 C.2.1 dL_law_1389 (by decide) (fun hc => absurd rfl hc) (fun _ => ?_)
    refine lv_aload_n C.1 C.2.1 dL_law_1392 rfl (lv_at hl 5 rfl) ?_
    refine lv_iconst (v := 0) C.1 C.2.1 dL_law_1393 (by decide) ?_
    refine g_lout C E hw dL_law_1394 ?_
    refine lv_iload C.1 C.2.1 dL_law_1395 (lv_at hl 0 rfl) ?_
    refine lv_i2l (v := Int32.toInt64 r) C.1 C.2.1 dL_law_1397 rfl ?_
    refine g_lcmp2 C rfl dL_law_1398 ?_
    refine lv_if_eq (tgt := 1404) C.1 C.2.1 dL_law_1399 (by decide) (fun _ => ?_) (fun hc => absurd rfl hc)
    refine lv_goto (tgt := 2491) C.1 C.2.1 dL_law_1404 (by decide) ?_
    refine W.widen (k := 30 + (j + 1) * 8) (n := 500 + (j + 1) * 48) (by (try dsimp only); omega) (by (try dsimp only); omega) ?_
    exact hn _ _ _ h1 _ _ _ hw (lv_sub hl [2, 3, 4, 5, 6] rfl)
  · refine lv_icmp_eq (tgt := 1387) C.1 C.2.1 dL_law_1382 (by decide) (fun _ => ?_) (fun hc => absurd hk hc)
    refine lv_iload C.1 C.2.1 dL_law_1387 (lv_at hl 1 rfl) ?_
    refine lv_if_ne (tgt := 1404) C.1 C.2.1 dL_law_1389 (by decide) (fun _ => ?_) (fun hc => absurd hc hk0)
    refine lv_goto (tgt := 2491) C.1 C.2.1 dL_law_1404 (by decide) ?_
    refine W.widen (k := 30 + (j + 1) * 8) (n := 500 + (j + 1) * 48) (by (try dsimp only); omega) (by (try dsimp only); omega) ?_
    exact hn _ _ _ h1 _ _ _ hw (lv_sub hl [2, 3, 4, 5, 6] rfl)
set_option maxHeartbeats 4000000 in
set_option maxRecDepth 100000 in
theorem law_20 {p : Program} {l : Launch} {e : Env} {s : State} {m : MethodId} {below : List Frame} {meth : Method} {c : Code} {b : Nat} (C : Ctx p s m #[Value.ref b] meth c cL_law 9 RL ret) {D : va_G} {cI cL : ClassId} {qx qm : Nat → Nat} {qo L : Nat} {xs : Nat → Int32} (E : gEL D cI cL s) (Z : gZ (va_A [] s.heap.size) s s.heap) (hT : l.stackTraces = false) (hX : va_X b L xs s s.heap) (hbl : b < s.heap.size) (hL : L ≤ 2048) (j : Nat) (hj : 4 * j + 4 ≤ L) {Q : State → Prop} {X M : St} {o : Nat → Int64} (h : Rel X M) (hn : ∀ (X M : St) (o : Nat → Int64), Rel X M → ∀ (H : Heap) (locs : List Loc) (ls : Array Slot), gW D [] (LW cI cL qx qm qo (X, o) M) s H locs → lv_has ls 9 [(0, .ref b), (1, .ref (qx 0)), (2, .ref (qm 0)), (3, .ref qo), (4, .int (nI (4 * j)))] → W p l e room_1 s m #[Value.ref b] below meth c H locs (30 + (j + 1) * 8) (500 + (j + 1) * 48) Q (F0 m 2491 ls [])) : ∀ (H : Heap) (locs : List Loc) (ls : Array Slot), gW D [] (LW cI cL qx qm qo (X, o) M) s H locs → lv_has ls 9 [(0, .ref b), (1, .ref (qx 0)), (2, .ref (qm 0)), (3, .ref qo), (4, .int (nI (4 * j)))] → W p l e room_1 s m #[Value.ref b] below meth c H locs (30 + j * 8) (500 + j * 48) Q (F0 m 1407 ls []) := by
  have hj5 : j ≤ 511 := by omega
  obtain ⟨R, r, M1, hf1, hf2, hag⟩ := op_hasOwnTag (xs (4 * j + 1)) (xs (4 * j + 2)) h
  intro H locs ls hw hl
  refine lv_aload_n C.1 C.2.1 dL_law_1407 rfl (lv_at hl 1 rfl) ?_
  refine lv_aload_n C.1 C.2.1 dL_law_1408 rfl (lv_at hl 0 rfl) ?_
  refine lv_iload C.1 C.2.1 dL_law_1409 (lv_at hl 4 rfl) ?_
  refine lv_iconst (v := 1) C.1 C.2.1 dL_law_1411 (by decide) ?_
  refine lv_iadd C.1 C.2.1 dL_law_1412 ?_
  refine g_sld C hX hbl hL hw (4 * j + 1) (sx1 (4 * j)) (by omega) dL_law_1413 ?_
  refine lv_aload_n C.1 C.2.1 dL_law_1414 rfl (lv_at hl 0 rfl) ?_
  refine lv_iload C.1 C.2.1 dL_law_1415 (lv_at hl 4 rfl) ?_
  refine lv_iconst (v := 2) C.1 C.2.1 dL_law_1417 (by decide) ?_
  refine lv_iadd C.1 C.2.1 dL_law_1418 ?_
  refine g_sld C hX hbl hL hw (4 * j + 2) (sx2 (4 * j)) (by omega) dL_law_1419 ?_
  refine lv_aload_n C.1 C.2.1 dL_law_1420 rfl (lv_at hl 3 rfl) ?_
  refine g_lh (rest := []) (As := [.ref (qx 0), .int (xs (4 * j + 1)), .int (xs (4 * j + 2)), .ref qo]) (rm := ({ frames := 8, cells := 2, slots := 12, locals := 133 } : Room)) C E Z hw FH_hasOwnTag kz_L (ctL_hasOwnTag l hT (cI := cI) (cL := cL) (D := D) (q := qx) (qo := qo) X o (xs (4 * j + 1)) (xs (4 * j + 2)) _ hf1 (fun e he => by simpa using agR_E hag e he)) km_L_196 rfl hl.1 rfl (Nat.le_of_ble_eq_true rfl) ⟨(Nat.le_of_ble_eq_true rfl), (Nat.le_of_ble_eq_true rfl)⟩ ⟨by (try dsimp only [room_1]); omega, by (try dsimp only [room_1]); omega⟩ dL_law_1421 (fun k u hp H locs hw => ?_)
  refine lv_istore (lv' := [(5, .int k), (0, .ref b), (1, .ref (qx 0)), (2, .ref (qm 0)), (3, .ref qo), (4, .int (nI (4 * j)))]) C.1 C.2.1 dL_law_1424 hl (by decide) rfl (fun ls hl => ?_)
  refine lv_aload_n C.1 C.2.1 dL_law_1426 rfl (lv_at hl 3 rfl) ?_
  refine lv_aload_n C.1 C.2.1 dL_law_1427 rfl (lv_at hl 1 rfl) ?_
  refine lv_iload C.1 C.2.1 dL_law_1428 (lv_at hl 5 rfl) ?_
  refine lv_iconst (v := 1) C.1 C.2.1 dL_law_1430 (by decide) ?_
  refine lv_iadd C.1 C.2.1 dL_law_1431 ?_
  refine g_sld C hX hbl hL hw (4 * j + 1) (sx1 (4 * j)) (by omega) dL_law_1432 ?_
  refine lv_aload_n C.1 C.2.1 dL_law_1433 rfl (lv_at hl 1 rfl) ?_
  refine lv_iload C.1 C.2.1 dL_law_1434 (lv_at hl 5 rfl) ?_
  refine lv_iconst (v := 2) C.1 C.2.1 dL_law_1436 (by decide) ?_
  refine lv_iadd C.1 C.2.1 dL_law_1437 ?_
  refine g_sld C hX hbl hL hw (4 * j + 2) (sx2 (4 * j)) (by omega) dL_law_1438 ?_
  refine g_lmi (rest := []) hw (g_runV (rm := ({ frames := 2, cells := 0, slots := 0, locals := 43 } : Room)) (As := [.int (xs (4 * j + 1)), .int (xs (4 * j + 2))]) (rest := []) C E.E (gW_sub1 (LW_m hw)) F_X4_hasOwnTag (ctX4_hasOwnTag l (cI := cI) (D := D) (q := qm) M (xs (4 * j + 1)) (xs (4 * j + 2)) _ hf2) km_L_198 0 rfl rfl rfl hl.1 rfl (Nat.le_of_ble_eq_true rfl) ⟨(Nat.le_of_ble_eq_true rfl), (Nat.le_of_ble_eq_true rfl)⟩ ⟨by (try dsimp only [room_1]); omega, by (try dsimp only [room_1]); omega⟩ dL_law_1439) (fun H locs hw => ?_)
  refine lv_istore (lv' := [(6, .int r), (5, .int k), (0, .ref b), (1, .ref (qx 0)), (2, .ref (qm 0)), (3, .ref qo), (4, .int (nI (4 * j)))]) C.1 C.2.1 dL_law_1442 hl (by decide) rfl (fun ls hl => ?_)
  refine lv_aload_n C.1 C.2.1 dL_law_1444 rfl (lv_at hl 4 rfl) ?_
  refine g_lmi (rest := []) hw (g_runV (rm := ({ frames := 0, cells := 0, slots := 0, locals := 0 } : Room)) (As := []) (rest := []) C E.E (gW_sub1 (LW_m hw)) F_X4_thrown (ctX4_thrown l (cI := cI) (D := D) (q := qm) M1 _ (r1 := M1 10 0) rfl) km_L_133 0 rfl rfl rfl hl.1 rfl (Nat.le_of_ble_eq_true rfl) ⟨(Nat.le_of_ble_eq_true rfl), (Nat.le_of_ble_eq_true rfl)⟩ ⟨by (try dsimp only [room_1]); omega, by (try dsimp only [room_1]); omega⟩ dL_law_1445) (fun H locs hw => ?_)
  refine lv_iload C.1 C.2.1 dL_law_1448 (lv_at hl 1 rfl) ?_
  rcases finR (fun r => if r = 0 then 0 else 1) (by decide) hag hp with ⟨rfl, hk, X1, rfl, h1⟩ | ⟨hk0, hk, X1, rfl, h1⟩
  · refine lv_icmp_eq (tgt := 1455) C.1 C.2.1 dL_law_1450 (by decide) (fun _ => ?_) (fun hc => absurd hk hc)
    refine lv_iload C.1 C.2.1 dL_law_1455 (lv_at hl 1 rfl) ?_
    refine lv_if_ne (tgt := 1479) C.1 C.2.1 dL_law_1457 (by decide) (fun hc => absurd rfl hc) (fun _ => ?_)
    refine lv_aload_n C.1 C.2.1 dL_law_1460 rfl (lv_at hl 5 rfl) ?_
    refine lv_iconst (v := 0) C.1 C.2.1 dL_law_1461 (by decide) ?_
    refine g_lout C E hw dL_law_1462 ?_
    refine lv_iload C.1 C.2.1 dL_law_1463 (lv_at hl 0 rfl) ?_
    refine lv_if_eq (tgt := 1472) C.1 C.2.1 dL_law_1465 (by decide) (fun hc => ?_) (fun hc => ?_)
    · refine lv_lconst (v := 0) C.1 C.2.1 dL_law_1472 (by decide) ?_
      refine g_lcmp2 C (show (if r = 0 then (0 : Int64) else 1) = 0 by rw [if_pos hc]) dL_law_1473 ?_
      refine lv_if_eq (tgt := 1479) C.1 C.2.1 dL_law_1474 (by decide) (fun _ => ?_) (fun hc => absurd rfl hc)
      refine lv_goto (tgt := 2491) C.1 C.2.1 dL_law_1479 (by decide) ?_
      refine W.widen (k := 30 + (j + 1) * 8) (n := 500 + (j + 1) * 48) (by (try dsimp only); omega) (by (try dsimp only); omega) ?_
      exact hn _ _ _ h1 _ _ _ hw (lv_sub hl [2, 3, 4, 5, 6] rfl)
    · refine lv_lconst (v := 1) C.1 C.2.1 dL_law_1468 (by decide) ?_
      refine lv_goto (tgt := 1473) C.1 C.2.1 dL_law_1469 (by decide) ?_
      refine g_lcmp2 C (show (if r = 0 then (0 : Int64) else 1) = 1 by rw [if_neg hc]) dL_law_1473 ?_
      refine lv_if_eq (tgt := 1479) C.1 C.2.1 dL_law_1474 (by decide) (fun _ => ?_) (fun hc => absurd rfl hc)
      refine lv_goto (tgt := 2491) C.1 C.2.1 dL_law_1479 (by decide) ?_
      refine W.widen (k := 30 + (j + 1) * 8) (n := 500 + (j + 1) * 48) (by (try dsimp only); omega) (by (try dsimp only); omega) ?_
      exact hn _ _ _ h1 _ _ _ hw (lv_sub hl [2, 3, 4, 5, 6] rfl)
  · refine lv_icmp_eq (tgt := 1455) C.1 C.2.1 dL_law_1450 (by decide) (fun _ => ?_) (fun hc => absurd hk hc)
    refine lv_iload C.1 C.2.1 dL_law_1455 (lv_at hl 1 rfl) ?_
    refine lv_if_ne (tgt := 1479) C.1 C.2.1 dL_law_1457 (by decide) (fun _ => ?_) (fun hc => absurd hc hk0)
    refine lv_goto (tgt := 2491) C.1 C.2.1 dL_law_1479 (by decide) ?_
    refine W.widen (k := 30 + (j + 1) * 8) (n := 500 + (j + 1) * 48) (by (try dsimp only); omega) (by (try dsimp only); omega) ?_
    exact hn _ _ _ h1 _ _ _ hw (lv_sub hl [2, 3, 4, 5, 6] rfl)
set_option maxHeartbeats 4000000 in
set_option maxRecDepth 100000 in
theorem law_21 {p : Program} {l : Launch} {e : Env} {s : State} {m : MethodId} {below : List Frame} {meth : Method} {c : Code} {b : Nat} (C : Ctx p s m #[Value.ref b] meth c cL_law 9 RL ret) {D : va_G} {cI cL : ClassId} {qx qm : Nat → Nat} {qo L : Nat} {xs : Nat → Int32} (E : gEL D cI cL s) (Z : gZ (va_A [] s.heap.size) s s.heap) (hT : l.stackTraces = false) (hX : va_X b L xs s s.heap) (hbl : b < s.heap.size) (hL : L ≤ 2048) (j : Nat) (hj : 4 * j + 4 ≤ L) {Q : State → Prop} {X M : St} {o : Nat → Int64} (h : Rel X M) (hn : ∀ (X M : St) (o : Nat → Int64), Rel X M → ∀ (H : Heap) (locs : List Loc) (ls : Array Slot), gW D [] (LW cI cL qx qm qo (X, o) M) s H locs → lv_has ls 9 [(0, .ref b), (1, .ref (qx 0)), (2, .ref (qm 0)), (3, .ref qo), (4, .int (nI (4 * j)))] → W p l e room_1 s m #[Value.ref b] below meth c H locs (30 + (j + 1) * 8) (500 + (j + 1) * 48) Q (F0 m 2491 ls [])) : ∀ (H : Heap) (locs : List Loc) (ls : Array Slot), gW D [] (LW cI cL qx qm qo (X, o) M) s H locs → lv_has ls 9 [(0, .ref b), (1, .ref (qx 0)), (2, .ref (qm 0)), (3, .ref qo), (4, .int (nI (4 * j)))] → W p l e room_1 s m #[Value.ref b] below meth c H locs (30 + j * 8) (500 + j * 48) Q (F0 m 1482 ls []) := by
  have hj5 : j ≤ 511 := by omega
  obtain ⟨R, r, M1, hf1, hf2, hag⟩ := op_hasTag (xs (4 * j + 1)) (xs (4 * j + 2)) h
  intro H locs ls hw hl
  refine lv_aload_n C.1 C.2.1 dL_law_1482 rfl (lv_at hl 1 rfl) ?_
  refine lv_aload_n C.1 C.2.1 dL_law_1483 rfl (lv_at hl 0 rfl) ?_
  refine lv_iload C.1 C.2.1 dL_law_1484 (lv_at hl 4 rfl) ?_
  refine lv_iconst (v := 1) C.1 C.2.1 dL_law_1486 (by decide) ?_
  refine lv_iadd C.1 C.2.1 dL_law_1487 ?_
  refine g_sld C hX hbl hL hw (4 * j + 1) (sx1 (4 * j)) (by omega) dL_law_1488 ?_
  refine lv_aload_n C.1 C.2.1 dL_law_1489 rfl (lv_at hl 0 rfl) ?_
  refine lv_iload C.1 C.2.1 dL_law_1490 (lv_at hl 4 rfl) ?_
  refine lv_iconst (v := 2) C.1 C.2.1 dL_law_1492 (by decide) ?_
  refine lv_iadd C.1 C.2.1 dL_law_1493 ?_
  refine g_sld C hX hbl hL hw (4 * j + 2) (sx2 (4 * j)) (by omega) dL_law_1494 ?_
  refine lv_aload_n C.1 C.2.1 dL_law_1495 rfl (lv_at hl 3 rfl) ?_
  refine g_lh (rest := []) (As := [.ref (qx 0), .int (xs (4 * j + 1)), .int (xs (4 * j + 2)), .ref qo]) (rm := ({ frames := 8, cells := 2, slots := 12, locals := 133 } : Room)) C E Z hw FH_hasTag kz_L (ctL_hasTag l hT (cI := cI) (cL := cL) (D := D) (q := qx) (qo := qo) X o (xs (4 * j + 1)) (xs (4 * j + 2)) _ hf1 (fun e he => by simpa using agR_E hag e he)) km_L_199 rfl hl.1 rfl (Nat.le_of_ble_eq_true rfl) ⟨(Nat.le_of_ble_eq_true rfl), (Nat.le_of_ble_eq_true rfl)⟩ ⟨by (try dsimp only [room_1]); omega, by (try dsimp only [room_1]); omega⟩ dL_law_1496 (fun k u hp H locs hw => ?_)
  refine lv_istore (lv' := [(5, .int k), (0, .ref b), (1, .ref (qx 0)), (2, .ref (qm 0)), (3, .ref qo), (4, .int (nI (4 * j)))]) C.1 C.2.1 dL_law_1499 hl (by decide) rfl (fun ls hl => ?_)
  refine lv_aload_n C.1 C.2.1 dL_law_1501 rfl (lv_at hl 3 rfl) ?_
  refine lv_aload_n C.1 C.2.1 dL_law_1502 rfl (lv_at hl 1 rfl) ?_
  refine lv_iload C.1 C.2.1 dL_law_1503 (lv_at hl 5 rfl) ?_
  refine lv_iconst (v := 1) C.1 C.2.1 dL_law_1505 (by decide) ?_
  refine lv_iadd C.1 C.2.1 dL_law_1506 ?_
  refine g_sld C hX hbl hL hw (4 * j + 1) (sx1 (4 * j)) (by omega) dL_law_1507 ?_
  refine lv_aload_n C.1 C.2.1 dL_law_1508 rfl (lv_at hl 1 rfl) ?_
  refine lv_iload C.1 C.2.1 dL_law_1509 (lv_at hl 5 rfl) ?_
  refine lv_iconst (v := 2) C.1 C.2.1 dL_law_1511 (by decide) ?_
  refine lv_iadd C.1 C.2.1 dL_law_1512 ?_
  refine g_sld C hX hbl hL hw (4 * j + 2) (sx2 (4 * j)) (by omega) dL_law_1513 ?_
  refine g_lmi (rest := []) hw (g_runV (rm := ({ frames := 2, cells := 0, slots := 0, locals := 45 } : Room)) (As := [.int (xs (4 * j + 1)), .int (xs (4 * j + 2))]) (rest := []) C E.E (gW_sub1 (LW_m hw)) F_X4_hasTag (ctX4_hasTag l (cI := cI) (D := D) (q := qm) M (xs (4 * j + 1)) (xs (4 * j + 2)) _ hf2) km_L_201 0 rfl rfl rfl hl.1 rfl (Nat.le_of_ble_eq_true rfl) ⟨(Nat.le_of_ble_eq_true rfl), (Nat.le_of_ble_eq_true rfl)⟩ ⟨by (try dsimp only [room_1]); omega, by (try dsimp only [room_1]); omega⟩ dL_law_1514) (fun H locs hw => ?_)
  refine lv_istore (lv' := [(6, .int r), (5, .int k), (0, .ref b), (1, .ref (qx 0)), (2, .ref (qm 0)), (3, .ref qo), (4, .int (nI (4 * j)))]) C.1 C.2.1 dL_law_1517 hl (by decide) rfl (fun ls hl => ?_)
  refine lv_aload_n C.1 C.2.1 dL_law_1519 rfl (lv_at hl 4 rfl) ?_
  refine g_lmi (rest := []) hw (g_runV (rm := ({ frames := 0, cells := 0, slots := 0, locals := 0 } : Room)) (As := []) (rest := []) C E.E (gW_sub1 (LW_m hw)) F_X4_thrown (ctX4_thrown l (cI := cI) (D := D) (q := qm) M1 _ (r1 := M1 10 0) rfl) km_L_133 0 rfl rfl rfl hl.1 rfl (Nat.le_of_ble_eq_true rfl) ⟨(Nat.le_of_ble_eq_true rfl), (Nat.le_of_ble_eq_true rfl)⟩ ⟨by (try dsimp only [room_1]); omega, by (try dsimp only [room_1]); omega⟩ dL_law_1520) (fun H locs hw => ?_)
  refine lv_iload C.1 C.2.1 dL_law_1523 (lv_at hl 1 rfl) ?_
  rcases finR (fun r => if r = 0 then 0 else 1) (by decide) hag hp with ⟨rfl, hk, X1, rfl, h1⟩ | ⟨hk0, hk, X1, rfl, h1⟩
  · refine lv_icmp_eq (tgt := 1530) C.1 C.2.1 dL_law_1525 (by decide) (fun _ => ?_) (fun hc => absurd hk hc)
    refine lv_iload C.1 C.2.1 dL_law_1530 (lv_at hl 1 rfl) ?_
    refine lv_if_ne (tgt := 1554) C.1 C.2.1 dL_law_1532 (by decide) (fun hc => absurd rfl hc) (fun _ => ?_)
    refine lv_aload_n C.1 C.2.1 dL_law_1535 rfl (lv_at hl 5 rfl) ?_
    refine lv_iconst (v := 0) C.1 C.2.1 dL_law_1536 (by decide) ?_
    refine g_lout C E hw dL_law_1537 ?_
    refine lv_iload C.1 C.2.1 dL_law_1538 (lv_at hl 0 rfl) ?_
    refine lv_if_eq (tgt := 1547) C.1 C.2.1 dL_law_1540 (by decide) (fun hc => ?_) (fun hc => ?_)
    · refine lv_lconst (v := 0) C.1 C.2.1 dL_law_1547 (by decide) ?_
      refine g_lcmp2 C (show (if r = 0 then (0 : Int64) else 1) = 0 by rw [if_pos hc]) dL_law_1548 ?_
      refine lv_if_eq (tgt := 1554) C.1 C.2.1 dL_law_1549 (by decide) (fun _ => ?_) (fun hc => absurd rfl hc)
      refine lv_goto (tgt := 2491) C.1 C.2.1 dL_law_1554 (by decide) ?_
      refine W.widen (k := 30 + (j + 1) * 8) (n := 500 + (j + 1) * 48) (by (try dsimp only); omega) (by (try dsimp only); omega) ?_
      exact hn _ _ _ h1 _ _ _ hw (lv_sub hl [2, 3, 4, 5, 6] rfl)
    · refine lv_lconst (v := 1) C.1 C.2.1 dL_law_1543 (by decide) ?_
      refine lv_goto (tgt := 1548) C.1 C.2.1 dL_law_1544 (by decide) ?_
      refine g_lcmp2 C (show (if r = 0 then (0 : Int64) else 1) = 1 by rw [if_neg hc]) dL_law_1548 ?_
      refine lv_if_eq (tgt := 1554) C.1 C.2.1 dL_law_1549 (by decide) (fun _ => ?_) (fun hc => absurd rfl hc)
      refine lv_goto (tgt := 2491) C.1 C.2.1 dL_law_1554 (by decide) ?_
      refine W.widen (k := 30 + (j + 1) * 8) (n := 500 + (j + 1) * 48) (by (try dsimp only); omega) (by (try dsimp only); omega) ?_
      exact hn _ _ _ h1 _ _ _ hw (lv_sub hl [2, 3, 4, 5, 6] rfl)
  · refine lv_icmp_eq (tgt := 1530) C.1 C.2.1 dL_law_1525 (by decide) (fun _ => ?_) (fun hc => absurd hk hc)
    refine lv_iload C.1 C.2.1 dL_law_1530 (lv_at hl 1 rfl) ?_
    refine lv_if_ne (tgt := 1554) C.1 C.2.1 dL_law_1532 (by decide) (fun _ => ?_) (fun hc => absurd hc hk0)
    refine lv_goto (tgt := 2491) C.1 C.2.1 dL_law_1554 (by decide) ?_
    refine W.widen (k := 30 + (j + 1) * 8) (n := 500 + (j + 1) * 48) (by (try dsimp only); omega) (by (try dsimp only); omega) ?_
    exact hn _ _ _ h1 _ _ _ hw (lv_sub hl [2, 3, 4, 5, 6] rfl)
set_option maxHeartbeats 4000000 in
set_option maxRecDepth 100000 in
theorem law_22 {p : Program} {l : Launch} {e : Env} {s : State} {m : MethodId} {below : List Frame} {meth : Method} {c : Code} {b : Nat} (C : Ctx p s m #[Value.ref b] meth c cL_law 9 RL ret) {D : va_G} {cI cL : ClassId} {qx qm : Nat → Nat} {qo L : Nat} {xs : Nat → Int32} (E : gEL D cI cL s) (Z : gZ (va_A [] s.heap.size) s s.heap) (hT : l.stackTraces = false) (hX : va_X b L xs s s.heap) (hbl : b < s.heap.size) (hL : L ≤ 2048) (j : Nat) (hj : 4 * j + 4 ≤ L) {Q : State → Prop} {X M : St} {o : Nat → Int64} (h : Rel X M) (hn : ∀ (X M : St) (o : Nat → Int64), Rel X M → ∀ (H : Heap) (locs : List Loc) (ls : Array Slot), gW D [] (LW cI cL qx qm qo (X, o) M) s H locs → lv_has ls 9 [(0, .ref b), (1, .ref (qx 0)), (2, .ref (qm 0)), (3, .ref qo), (4, .int (nI (4 * j)))] → W p l e room_1 s m #[Value.ref b] below meth c H locs (30 + (j + 1) * 8) (500 + (j + 1) * 48) Q (F0 m 2491 ls [])) : ∀ (H : Heap) (locs : List Loc) (ls : Array Slot), gW D [] (LW cI cL qx qm qo (X, o) M) s H locs → lv_has ls 9 [(0, .ref b), (1, .ref (qx 0)), (2, .ref (qm 0)), (3, .ref qo), (4, .int (nI (4 * j)))] → W p l e room_1 s m #[Value.ref b] below meth c H locs (30 + j * 8) (500 + j * 48) Q (F0 m 1557 ls []) := by
  have hj5 : j ≤ 511 := by omega
  obtain ⟨R, r, M1, hf1, hf2, hag⟩ := op_tagsOf (xs (4 * j + 1)) h
  intro H locs ls hw hl
  refine lv_aload_n C.1 C.2.1 dL_law_1557 rfl (lv_at hl 1 rfl) ?_
  refine lv_aload_n C.1 C.2.1 dL_law_1558 rfl (lv_at hl 0 rfl) ?_
  refine lv_iload C.1 C.2.1 dL_law_1559 (lv_at hl 4 rfl) ?_
  refine lv_iconst (v := 1) C.1 C.2.1 dL_law_1561 (by decide) ?_
  refine lv_iadd C.1 C.2.1 dL_law_1562 ?_
  refine g_sld C hX hbl hL hw (4 * j + 1) (sx1 (4 * j)) (by omega) dL_law_1563 ?_
  refine lv_aload_n C.1 C.2.1 dL_law_1564 rfl (lv_at hl 3 rfl) ?_
  refine g_lh (rest := []) (As := [.ref (qx 0), .int (xs (4 * j + 1)), .ref qo]) (rm := ({ frames := 8, cells := 1, slots := 6, locals := 132 } : Room)) C E Z hw FH_tagsOf kz_L (ctL_tagsOf l hT (cI := cI) (cL := cL) (D := D) (q := qx) (qo := qo) X o (xs (4 * j + 1)) _ hf1 (fun e he => by simpa using agR_E hag e he)) km_L_202 rfl hl.1 rfl (Nat.le_of_ble_eq_true rfl) ⟨(Nat.le_of_ble_eq_true rfl), (Nat.le_of_ble_eq_true rfl)⟩ ⟨by (try dsimp only [room_1]); omega, by (try dsimp only [room_1]); omega⟩ dL_law_1565 (fun k u hp H locs hw => ?_)
  refine lv_istore (lv' := [(5, .int k), (0, .ref b), (1, .ref (qx 0)), (2, .ref (qm 0)), (3, .ref qo), (4, .int (nI (4 * j)))]) C.1 C.2.1 dL_law_1568 hl (by decide) rfl (fun ls hl => ?_)
  refine lv_aload_n C.1 C.2.1 dL_law_1570 rfl (lv_at hl 3 rfl) ?_
  refine lv_aload_n C.1 C.2.1 dL_law_1571 rfl (lv_at hl 1 rfl) ?_
  refine lv_iload C.1 C.2.1 dL_law_1572 (lv_at hl 5 rfl) ?_
  refine lv_iconst (v := 1) C.1 C.2.1 dL_law_1574 (by decide) ?_
  refine lv_iadd C.1 C.2.1 dL_law_1575 ?_
  refine g_sld C hX hbl hL hw (4 * j + 1) (sx1 (4 * j)) (by omega) dL_law_1576 ?_
  refine g_lmi (rest := []) hw (g_runV (rm := ({ frames := 2, cells := 0, slots := 0, locals := 45 } : Room)) (As := [.int (xs (4 * j + 1))]) (rest := []) C E.E (gW_sub1 (LW_m hw)) F_X4_tagsOf (ctX4_tagsOf l (cI := cI) (D := D) (q := qm) M (xs (4 * j + 1)) _ hf2) km_L_204 0 rfl rfl rfl hl.1 rfl (Nat.le_of_ble_eq_true rfl) ⟨(Nat.le_of_ble_eq_true rfl), (Nat.le_of_ble_eq_true rfl)⟩ ⟨by (try dsimp only [room_1]); omega, by (try dsimp only [room_1]); omega⟩ dL_law_1577) (fun H locs hw => ?_)
  refine lv_istore (lv' := [(6, .int r), (5, .int k), (0, .ref b), (1, .ref (qx 0)), (2, .ref (qm 0)), (3, .ref qo), (4, .int (nI (4 * j)))]) C.1 C.2.1 dL_law_1580 hl (by decide) rfl (fun ls hl => ?_)
  refine lv_aload_n C.1 C.2.1 dL_law_1582 rfl (lv_at hl 4 rfl) ?_
  refine g_lmi (rest := []) hw (g_runV (rm := ({ frames := 0, cells := 0, slots := 0, locals := 0 } : Room)) (As := []) (rest := []) C E.E (gW_sub1 (LW_m hw)) F_X4_thrown (ctX4_thrown l (cI := cI) (D := D) (q := qm) M1 _ (r1 := M1 10 0) rfl) km_L_133 0 rfl rfl rfl hl.1 rfl (Nat.le_of_ble_eq_true rfl) ⟨(Nat.le_of_ble_eq_true rfl), (Nat.le_of_ble_eq_true rfl)⟩ ⟨by (try dsimp only [room_1]); omega, by (try dsimp only [room_1]); omega⟩ dL_law_1583) (fun H locs hw => ?_)
  refine lv_iload C.1 C.2.1 dL_law_1586 (lv_at hl 1 rfl) ?_
  rcases finR (fun r => Int32.toInt64 r) (by decide) hag hp with ⟨rfl, hk, X1, rfl, h1⟩ | ⟨hk0, hk, X1, rfl, h1⟩
  · refine lv_icmp_eq (tgt := 1593) C.1 C.2.1 dL_law_1588 (by decide) (fun _ => ?_) (fun hc => absurd hk hc)
    refine lv_iload C.1 C.2.1 dL_law_1593 (lv_at hl 1 rfl) ?_
    refine lv_if_ne (tgt := 1610) C.1 C.2.1 dL_law_1595 (by decide) (fun hc => absurd rfl hc) (fun _ => ?_)
    refine lv_aload_n C.1 C.2.1 dL_law_1598 rfl (lv_at hl 5 rfl) ?_
    refine lv_iconst (v := 0) C.1 C.2.1 dL_law_1599 (by decide) ?_
    refine g_lout C E hw dL_law_1600 ?_
    refine lv_iload C.1 C.2.1 dL_law_1601 (lv_at hl 0 rfl) ?_
    refine lv_i2l (v := Int32.toInt64 r) C.1 C.2.1 dL_law_1603 rfl ?_
    refine g_lcmp2 C rfl dL_law_1604 ?_
    refine lv_if_eq (tgt := 1610) C.1 C.2.1 dL_law_1605 (by decide) (fun _ => ?_) (fun hc => absurd rfl hc)
    refine lv_goto (tgt := 2491) C.1 C.2.1 dL_law_1610 (by decide) ?_
    refine W.widen (k := 30 + (j + 1) * 8) (n := 500 + (j + 1) * 48) (by (try dsimp only); omega) (by (try dsimp only); omega) ?_
    exact hn _ _ _ h1 _ _ _ hw (lv_sub hl [2, 3, 4, 5, 6] rfl)
  · refine lv_icmp_eq (tgt := 1593) C.1 C.2.1 dL_law_1588 (by decide) (fun _ => ?_) (fun hc => absurd hk hc)
    refine lv_iload C.1 C.2.1 dL_law_1593 (lv_at hl 1 rfl) ?_
    refine lv_if_ne (tgt := 1610) C.1 C.2.1 dL_law_1595 (by decide) (fun _ => ?_) (fun hc => absurd hc hk0)
    refine lv_goto (tgt := 2491) C.1 C.2.1 dL_law_1610 (by decide) ?_
    refine W.widen (k := 30 + (j + 1) * 8) (n := 500 + (j + 1) * 48) (by (try dsimp only); omega) (by (try dsimp only); omega) ?_
    exact hn _ _ _ h1 _ _ _ hw (lv_sub hl [2, 3, 4, 5, 6] rfl)
set_option maxHeartbeats 4000000 in
set_option maxRecDepth 100000 in
theorem law_23 {p : Program} {l : Launch} {e : Env} {s : State} {m : MethodId} {below : List Frame} {meth : Method} {c : Code} {b : Nat} (C : Ctx p s m #[Value.ref b] meth c cL_law 9 RL ret) {D : va_G} {cI cL : ClassId} {qx qm : Nat → Nat} {qo L : Nat} {xs : Nat → Int32} (E : gEL D cI cL s) (Z : gZ (va_A [] s.heap.size) s s.heap) (hT : l.stackTraces = false) (hX : va_X b L xs s s.heap) (hbl : b < s.heap.size) (hL : L ≤ 2048) (j : Nat) (hj : 4 * j + 4 ≤ L) {Q : State → Prop} {X M : St} {o : Nat → Int64} (h : Rel X M) (hn : ∀ (X M : St) (o : Nat → Int64), Rel X M → ∀ (H : Heap) (locs : List Loc) (ls : Array Slot), gW D [] (LW cI cL qx qm qo (X, o) M) s H locs → lv_has ls 9 [(0, .ref b), (1, .ref (qx 0)), (2, .ref (qm 0)), (3, .ref qo), (4, .int (nI (4 * j)))] → W p l e room_1 s m #[Value.ref b] below meth c H locs (30 + (j + 1) * 8) (500 + (j + 1) * 48) Q (F0 m 2491 ls [])) : ∀ (H : Heap) (locs : List Loc) (ls : Array Slot), gW D [] (LW cI cL qx qm qo (X, o) M) s H locs → lv_has ls 9 [(0, .ref b), (1, .ref (qx 0)), (2, .ref (qm 0)), (3, .ref qo), (4, .int (nI (4 * j)))] → W p l e room_1 s m #[Value.ref b] below meth c H locs (30 + j * 8) (500 + j * 48) Q (F0 m 1613 ls []) := by
  have hj5 : j ≤ 511 := by omega
  obtain ⟨R, r, M1, hf1, hf2, hag⟩ := op_vividnessOf (xs (4 * j + 1)) h
  intro H locs ls hw hl
  refine lv_aload_n C.1 C.2.1 dL_law_1613 rfl (lv_at hl 1 rfl) ?_
  refine lv_aload_n C.1 C.2.1 dL_law_1614 rfl (lv_at hl 0 rfl) ?_
  refine lv_iload C.1 C.2.1 dL_law_1615 (lv_at hl 4 rfl) ?_
  refine lv_iconst (v := 1) C.1 C.2.1 dL_law_1617 (by decide) ?_
  refine lv_iadd C.1 C.2.1 dL_law_1618 ?_
  refine g_sld C hX hbl hL hw (4 * j + 1) (sx1 (4 * j)) (by omega) dL_law_1619 ?_
  refine lv_aload_n C.1 C.2.1 dL_law_1620 rfl (lv_at hl 3 rfl) ?_
  refine g_lh (rest := []) (As := [.ref (qx 0), .int (xs (4 * j + 1)), .ref qo]) (rm := ({ frames := 8, cells := 1, slots := 6, locals := 132 } : Room)) C E Z hw FH_vividnessOf kz_L (ctL_vividnessOf l hT (cI := cI) (cL := cL) (D := D) (q := qx) (qo := qo) X o (xs (4 * j + 1)) _ hf1 (fun e he => by simpa using agR_E hag e he)) km_L_205 rfl hl.1 rfl (Nat.le_of_ble_eq_true rfl) ⟨(Nat.le_of_ble_eq_true rfl), (Nat.le_of_ble_eq_true rfl)⟩ ⟨by (try dsimp only [room_1]); omega, by (try dsimp only [room_1]); omega⟩ dL_law_1621 (fun k u hp H locs hw => ?_)
  refine lv_istore (lv' := [(5, .int k), (0, .ref b), (1, .ref (qx 0)), (2, .ref (qm 0)), (3, .ref qo), (4, .int (nI (4 * j)))]) C.1 C.2.1 dL_law_1624 hl (by decide) rfl (fun ls hl => ?_)
  refine lv_aload_n C.1 C.2.1 dL_law_1626 rfl (lv_at hl 3 rfl) ?_
  refine lv_aload_n C.1 C.2.1 dL_law_1627 rfl (lv_at hl 1 rfl) ?_
  refine lv_iload C.1 C.2.1 dL_law_1628 (lv_at hl 5 rfl) ?_
  refine lv_iconst (v := 1) C.1 C.2.1 dL_law_1630 (by decide) ?_
  refine lv_iadd C.1 C.2.1 dL_law_1631 ?_
  refine g_sld C hX hbl hL hw (4 * j + 1) (sx1 (4 * j)) (by omega) dL_law_1632 ?_
  refine g_lmi (rest := []) hw (g_runV (rm := ({ frames := 2, cells := 0, slots := 0, locals := 43 } : Room)) (As := [.int (xs (4 * j + 1))]) (rest := []) C E.E (gW_sub1 (LW_m hw)) F_X4_vividnessOf (ctX4_vividnessOf l (cI := cI) (D := D) (q := qm) M (xs (4 * j + 1)) _ hf2) km_L_207 0 rfl rfl rfl hl.1 rfl (Nat.le_of_ble_eq_true rfl) ⟨(Nat.le_of_ble_eq_true rfl), (Nat.le_of_ble_eq_true rfl)⟩ ⟨by (try dsimp only [room_1]); omega, by (try dsimp only [room_1]); omega⟩ dL_law_1633) (fun H locs hw => ?_)
  refine lv_istore (lv' := [(6, .int r), (5, .int k), (0, .ref b), (1, .ref (qx 0)), (2, .ref (qm 0)), (3, .ref qo), (4, .int (nI (4 * j)))]) C.1 C.2.1 dL_law_1636 hl (by decide) rfl (fun ls hl => ?_)
  refine lv_aload_n C.1 C.2.1 dL_law_1638 rfl (lv_at hl 4 rfl) ?_
  refine g_lmi (rest := []) hw (g_runV (rm := ({ frames := 0, cells := 0, slots := 0, locals := 0 } : Room)) (As := []) (rest := []) C E.E (gW_sub1 (LW_m hw)) F_X4_thrown (ctX4_thrown l (cI := cI) (D := D) (q := qm) M1 _ (r1 := M1 10 0) rfl) km_L_133 0 rfl rfl rfl hl.1 rfl (Nat.le_of_ble_eq_true rfl) ⟨(Nat.le_of_ble_eq_true rfl), (Nat.le_of_ble_eq_true rfl)⟩ ⟨by (try dsimp only [room_1]); omega, by (try dsimp only [room_1]); omega⟩ dL_law_1639) (fun H locs hw => ?_)
  refine lv_iload C.1 C.2.1 dL_law_1642 (lv_at hl 1 rfl) ?_
  rcases finR (fun r => Int32.toInt64 r) (by decide) hag hp with ⟨rfl, hk, X1, rfl, h1⟩ | ⟨hk0, hk, X1, rfl, h1⟩
  · refine lv_icmp_eq (tgt := 1649) C.1 C.2.1 dL_law_1644 (by decide) (fun _ => ?_) (fun hc => absurd hk hc)
    refine lv_iload C.1 C.2.1 dL_law_1649 (lv_at hl 1 rfl) ?_
    refine lv_if_ne (tgt := 1666) C.1 C.2.1 dL_law_1651 (by decide) (fun hc => absurd rfl hc) (fun _ => ?_)
    refine lv_aload_n C.1 C.2.1 dL_law_1654 rfl (lv_at hl 5 rfl) ?_
    refine lv_iconst (v := 0) C.1 C.2.1 dL_law_1655 (by decide) ?_
    refine g_lout C E hw dL_law_1656 ?_
    refine lv_iload C.1 C.2.1 dL_law_1657 (lv_at hl 0 rfl) ?_
    refine lv_i2l (v := Int32.toInt64 r) C.1 C.2.1 dL_law_1659 rfl ?_
    refine g_lcmp2 C rfl dL_law_1660 ?_
    refine lv_if_eq (tgt := 1666) C.1 C.2.1 dL_law_1661 (by decide) (fun _ => ?_) (fun hc => absurd rfl hc)
    refine lv_goto (tgt := 2491) C.1 C.2.1 dL_law_1666 (by decide) ?_
    refine W.widen (k := 30 + (j + 1) * 8) (n := 500 + (j + 1) * 48) (by (try dsimp only); omega) (by (try dsimp only); omega) ?_
    exact hn _ _ _ h1 _ _ _ hw (lv_sub hl [2, 3, 4, 5, 6] rfl)
  · refine lv_icmp_eq (tgt := 1649) C.1 C.2.1 dL_law_1644 (by decide) (fun _ => ?_) (fun hc => absurd hk hc)
    refine lv_iload C.1 C.2.1 dL_law_1649 (lv_at hl 1 rfl) ?_
    refine lv_if_ne (tgt := 1666) C.1 C.2.1 dL_law_1651 (by decide) (fun _ => ?_) (fun hc => absurd hc hk0)
    refine lv_goto (tgt := 2491) C.1 C.2.1 dL_law_1666 (by decide) ?_
    refine W.widen (k := 30 + (j + 1) * 8) (n := 500 + (j + 1) * 48) (by (try dsimp only); omega) (by (try dsimp only); omega) ?_
    exact hn _ _ _ h1 _ _ _ hw (lv_sub hl [2, 3, 4, 5, 6] rfl)
set_option maxHeartbeats 4000000 in
set_option maxRecDepth 100000 in
theorem law_24 {p : Program} {l : Launch} {e : Env} {s : State} {m : MethodId} {below : List Frame} {meth : Method} {c : Code} {b : Nat} (C : Ctx p s m #[Value.ref b] meth c cL_law 9 RL ret) {D : va_G} {cI cL : ClassId} {qx qm : Nat → Nat} {qo L : Nat} {xs : Nat → Int32} (E : gEL D cI cL s) (Z : gZ (va_A [] s.heap.size) s s.heap) (hT : l.stackTraces = false) (hX : va_X b L xs s s.heap) (hbl : b < s.heap.size) (hL : L ≤ 2048) (j : Nat) (hj : 4 * j + 4 ≤ L) {Q : State → Prop} {X M : St} {o : Nat → Int64} (h : Rel X M) (hn : ∀ (X M : St) (o : Nat → Int64), Rel X M → ∀ (H : Heap) (locs : List Loc) (ls : Array Slot), gW D [] (LW cI cL qx qm qo (X, o) M) s H locs → lv_has ls 9 [(0, .ref b), (1, .ref (qx 0)), (2, .ref (qm 0)), (3, .ref qo), (4, .int (nI (4 * j)))] → W p l e room_1 s m #[Value.ref b] below meth c H locs (30 + (j + 1) * 8) (500 + (j + 1) * 48) Q (F0 m 2491 ls [])) : ∀ (H : Heap) (locs : List Loc) (ls : Array Slot), gW D [] (LW cI cL qx qm qo (X, o) M) s H locs → lv_has ls 9 [(0, .ref b), (1, .ref (qx 0)), (2, .ref (qm 0)), (3, .ref qo), (4, .int (nI (4 * j)))] → W p l e room_1 s m #[Value.ref b] below meth c H locs (30 + j * 8) (500 + j * 48) Q (F0 m 1669 ls []) := by
  have hj5 : j ≤ 511 := by omega
  obtain ⟨R, r, M1, hf1, hf2, hag⟩ := op_nightOf (xs (4 * j + 1)) h
  intro H locs ls hw hl
  refine lv_aload_n C.1 C.2.1 dL_law_1669 rfl (lv_at hl 1 rfl) ?_
  refine lv_aload_n C.1 C.2.1 dL_law_1670 rfl (lv_at hl 0 rfl) ?_
  refine lv_iload C.1 C.2.1 dL_law_1671 (lv_at hl 4 rfl) ?_
  refine lv_iconst (v := 1) C.1 C.2.1 dL_law_1673 (by decide) ?_
  refine lv_iadd C.1 C.2.1 dL_law_1674 ?_
  refine g_sld C hX hbl hL hw (4 * j + 1) (sx1 (4 * j)) (by omega) dL_law_1675 ?_
  refine lv_aload_n C.1 C.2.1 dL_law_1676 rfl (lv_at hl 3 rfl) ?_
  refine g_lh (rest := []) (As := [.ref (qx 0), .int (xs (4 * j + 1)), .ref qo]) (rm := ({ frames := 8, cells := 1, slots := 6, locals := 132 } : Room)) C E Z hw FH_nightOf kz_L (ctL_nightOf l hT (cI := cI) (cL := cL) (D := D) (q := qx) (qo := qo) X o (xs (4 * j + 1)) _ hf1 (fun e he => by simpa using agR_E hag e he)) km_L_208 rfl hl.1 rfl (Nat.le_of_ble_eq_true rfl) ⟨(Nat.le_of_ble_eq_true rfl), (Nat.le_of_ble_eq_true rfl)⟩ ⟨by (try dsimp only [room_1]); omega, by (try dsimp only [room_1]); omega⟩ dL_law_1677 (fun k u hp H locs hw => ?_)
  refine lv_istore (lv' := [(5, .int k), (0, .ref b), (1, .ref (qx 0)), (2, .ref (qm 0)), (3, .ref qo), (4, .int (nI (4 * j)))]) C.1 C.2.1 dL_law_1680 hl (by decide) rfl (fun ls hl => ?_)
  refine lv_aload_n C.1 C.2.1 dL_law_1682 rfl (lv_at hl 3 rfl) ?_
  refine lv_aload_n C.1 C.2.1 dL_law_1683 rfl (lv_at hl 1 rfl) ?_
  refine lv_iload C.1 C.2.1 dL_law_1684 (lv_at hl 5 rfl) ?_
  refine lv_iconst (v := 1) C.1 C.2.1 dL_law_1686 (by decide) ?_
  refine lv_iadd C.1 C.2.1 dL_law_1687 ?_
  refine g_sld C hX hbl hL hw (4 * j + 1) (sx1 (4 * j)) (by omega) dL_law_1688 ?_
  refine g_lmi (rest := []) hw (g_runV (rm := ({ frames := 2, cells := 0, slots := 0, locals := 43 } : Room)) (As := [.int (xs (4 * j + 1))]) (rest := []) C E.E (gW_sub1 (LW_m hw)) F_X4_nightOf (ctX4_nightOf l (cI := cI) (D := D) (q := qm) M (xs (4 * j + 1)) _ hf2) km_L_210 0 rfl rfl rfl hl.1 rfl (Nat.le_of_ble_eq_true rfl) ⟨(Nat.le_of_ble_eq_true rfl), (Nat.le_of_ble_eq_true rfl)⟩ ⟨by (try dsimp only [room_1]); omega, by (try dsimp only [room_1]); omega⟩ dL_law_1689) (fun H locs hw => ?_)
  refine lv_istore (lv' := [(6, .int r), (5, .int k), (0, .ref b), (1, .ref (qx 0)), (2, .ref (qm 0)), (3, .ref qo), (4, .int (nI (4 * j)))]) C.1 C.2.1 dL_law_1692 hl (by decide) rfl (fun ls hl => ?_)
  refine lv_aload_n C.1 C.2.1 dL_law_1694 rfl (lv_at hl 4 rfl) ?_
  refine g_lmi (rest := []) hw (g_runV (rm := ({ frames := 0, cells := 0, slots := 0, locals := 0 } : Room)) (As := []) (rest := []) C E.E (gW_sub1 (LW_m hw)) F_X4_thrown (ctX4_thrown l (cI := cI) (D := D) (q := qm) M1 _ (r1 := M1 10 0) rfl) km_L_133 0 rfl rfl rfl hl.1 rfl (Nat.le_of_ble_eq_true rfl) ⟨(Nat.le_of_ble_eq_true rfl), (Nat.le_of_ble_eq_true rfl)⟩ ⟨by (try dsimp only [room_1]); omega, by (try dsimp only [room_1]); omega⟩ dL_law_1695) (fun H locs hw => ?_)
  refine lv_iload C.1 C.2.1 dL_law_1698 (lv_at hl 1 rfl) ?_
  rcases finR (fun r => Int32.toInt64 r) (by decide) hag hp with ⟨rfl, hk, X1, rfl, h1⟩ | ⟨hk0, hk, X1, rfl, h1⟩
  · refine lv_icmp_eq (tgt := 1705) C.1 C.2.1 dL_law_1700 (by decide) (fun _ => ?_) (fun hc => absurd hk hc)
    refine lv_iload C.1 C.2.1 dL_law_1705 (lv_at hl 1 rfl) ?_
    refine lv_if_ne (tgt := 1722) C.1 C.2.1 dL_law_1707 (by decide) (fun hc => absurd rfl hc) (fun _ => ?_)
    refine lv_aload_n C.1 C.2.1 dL_law_1710 rfl (lv_at hl 5 rfl) ?_
    refine lv_iconst (v := 0) C.1 C.2.1 dL_law_1711 (by decide) ?_
    refine g_lout C E hw dL_law_1712 ?_
    refine lv_iload C.1 C.2.1 dL_law_1713 (lv_at hl 0 rfl) ?_
    refine lv_i2l (v := Int32.toInt64 r) C.1 C.2.1 dL_law_1715 rfl ?_
    refine g_lcmp2 C rfl dL_law_1716 ?_
    refine lv_if_eq (tgt := 1722) C.1 C.2.1 dL_law_1717 (by decide) (fun _ => ?_) (fun hc => absurd rfl hc)
    refine lv_goto (tgt := 2491) C.1 C.2.1 dL_law_1722 (by decide) ?_
    refine W.widen (k := 30 + (j + 1) * 8) (n := 500 + (j + 1) * 48) (by (try dsimp only); omega) (by (try dsimp only); omega) ?_
    exact hn _ _ _ h1 _ _ _ hw (lv_sub hl [2, 3, 4, 5, 6] rfl)
  · refine lv_icmp_eq (tgt := 1705) C.1 C.2.1 dL_law_1700 (by decide) (fun _ => ?_) (fun hc => absurd hk hc)
    refine lv_iload C.1 C.2.1 dL_law_1705 (lv_at hl 1 rfl) ?_
    refine lv_if_ne (tgt := 1722) C.1 C.2.1 dL_law_1707 (by decide) (fun _ => ?_) (fun hc => absurd hc hk0)
    refine lv_goto (tgt := 2491) C.1 C.2.1 dL_law_1722 (by decide) ?_
    refine W.widen (k := 30 + (j + 1) * 8) (n := 500 + (j + 1) * 48) (by (try dsimp only); omega) (by (try dsimp only); omega) ?_
    exact hn _ _ _ h1 _ _ _ hw (lv_sub hl [2, 3, 4, 5, 6] rfl)
set_option maxHeartbeats 4000000 in
set_option maxRecDepth 100000 in
theorem law_25 {p : Program} {l : Launch} {e : Env} {s : State} {m : MethodId} {below : List Frame} {meth : Method} {c : Code} {b : Nat} (C : Ctx p s m #[Value.ref b] meth c cL_law 9 RL ret) {D : va_G} {cI cL : ClassId} {qx qm : Nat → Nat} {qo L : Nat} {xs : Nat → Int32} (E : gEL D cI cL s) (Z : gZ (va_A [] s.heap.size) s s.heap) (hT : l.stackTraces = false) (hX : va_X b L xs s s.heap) (hbl : b < s.heap.size) (hL : L ≤ 2048) (j : Nat) (hj : 4 * j + 4 ≤ L) {Q : State → Prop} {X M : St} {o : Nat → Int64} (h : Rel X M) (hn : ∀ (X M : St) (o : Nat → Int64), Rel X M → ∀ (H : Heap) (locs : List Loc) (ls : Array Slot), gW D [] (LW cI cL qx qm qo (X, o) M) s H locs → lv_has ls 9 [(0, .ref b), (1, .ref (qx 0)), (2, .ref (qm 0)), (3, .ref qo), (4, .int (nI (4 * j)))] → W p l e room_1 s m #[Value.ref b] below meth c H locs (30 + (j + 1) * 8) (500 + (j + 1) * 48) Q (F0 m 2491 ls [])) : ∀ (H : Heap) (locs : List Loc) (ls : Array Slot), gW D [] (LW cI cL qx qm qo (X, o) M) s H locs → lv_has ls 9 [(0, .ref b), (1, .ref (qx 0)), (2, .ref (qm 0)), (3, .ref qo), (4, .int (nI (4 * j)))] → W p l e room_1 s m #[Value.ref b] below meth c H locs (30 + j * 8) (500 + j * 48) Q (F0 m 1725 ls []) := by
  have hj5 : j ≤ 511 := by omega
  obtain ⟨R, r, M1, hf1, hf2, hag⟩ := op_matches (xs (4 * j + 1)) (xs (4 * j + 2)) h
  intro H locs ls hw hl
  refine lv_aload_n C.1 C.2.1 dL_law_1725 rfl (lv_at hl 1 rfl) ?_
  refine lv_aload_n C.1 C.2.1 dL_law_1726 rfl (lv_at hl 0 rfl) ?_
  refine lv_iload C.1 C.2.1 dL_law_1727 (lv_at hl 4 rfl) ?_
  refine lv_iconst (v := 1) C.1 C.2.1 dL_law_1729 (by decide) ?_
  refine lv_iadd C.1 C.2.1 dL_law_1730 ?_
  refine g_sld C hX hbl hL hw (4 * j + 1) (sx1 (4 * j)) (by omega) dL_law_1731 ?_
  refine lv_aload_n C.1 C.2.1 dL_law_1732 rfl (lv_at hl 0 rfl) ?_
  refine lv_iload C.1 C.2.1 dL_law_1733 (lv_at hl 4 rfl) ?_
  refine lv_iconst (v := 2) C.1 C.2.1 dL_law_1735 (by decide) ?_
  refine lv_iadd C.1 C.2.1 dL_law_1736 ?_
  refine g_sld C hX hbl hL hw (4 * j + 2) (sx2 (4 * j)) (by omega) dL_law_1737 ?_
  refine lv_aload_n C.1 C.2.1 dL_law_1738 rfl (lv_at hl 3 rfl) ?_
  refine g_lh (rest := []) (As := [.ref (qx 0), .int (xs (4 * j + 1)), .int (xs (4 * j + 2)), .ref qo]) (rm := ({ frames := 8, cells := 2, slots := 12, locals := 133 } : Room)) C E Z hw FH_matches kz_L (ctL_matches l hT (cI := cI) (cL := cL) (D := D) (q := qx) (qo := qo) X o (xs (4 * j + 1)) (xs (4 * j + 2)) _ hf1 (fun e he => by simpa using agR_E hag e he)) km_L_211 rfl hl.1 rfl (Nat.le_of_ble_eq_true rfl) ⟨(Nat.le_of_ble_eq_true rfl), (Nat.le_of_ble_eq_true rfl)⟩ ⟨by (try dsimp only [room_1]); omega, by (try dsimp only [room_1]); omega⟩ dL_law_1739 (fun k u hp H locs hw => ?_)
  refine lv_istore (lv' := [(5, .int k), (0, .ref b), (1, .ref (qx 0)), (2, .ref (qm 0)), (3, .ref qo), (4, .int (nI (4 * j)))]) C.1 C.2.1 dL_law_1742 hl (by decide) rfl (fun ls hl => ?_)
  refine lv_aload_n C.1 C.2.1 dL_law_1744 rfl (lv_at hl 3 rfl) ?_
  refine lv_aload_n C.1 C.2.1 dL_law_1745 rfl (lv_at hl 1 rfl) ?_
  refine lv_iload C.1 C.2.1 dL_law_1746 (lv_at hl 5 rfl) ?_
  refine lv_iconst (v := 1) C.1 C.2.1 dL_law_1748 (by decide) ?_
  refine lv_iadd C.1 C.2.1 dL_law_1749 ?_
  refine g_sld C hX hbl hL hw (4 * j + 1) (sx1 (4 * j)) (by omega) dL_law_1750 ?_
  refine lv_aload_n C.1 C.2.1 dL_law_1751 rfl (lv_at hl 1 rfl) ?_
  refine lv_iload C.1 C.2.1 dL_law_1752 (lv_at hl 5 rfl) ?_
  refine lv_iconst (v := 2) C.1 C.2.1 dL_law_1754 (by decide) ?_
  refine lv_iadd C.1 C.2.1 dL_law_1755 ?_
  refine g_sld C hX hbl hL hw (4 * j + 2) (sx2 (4 * j)) (by omega) dL_law_1756 ?_
  refine g_lmi (rest := []) hw (g_runV (rm := ({ frames := 2, cells := 0, slots := 0, locals := 45 } : Room)) (As := [.int (xs (4 * j + 1)), .int (xs (4 * j + 2))]) (rest := []) C E.E (gW_sub1 (LW_m hw)) F_X4_matches (ctX4_matches l (cI := cI) (D := D) (q := qm) M (xs (4 * j + 1)) (xs (4 * j + 2)) _ hf2) km_L_213 0 rfl rfl rfl hl.1 rfl (Nat.le_of_ble_eq_true rfl) ⟨(Nat.le_of_ble_eq_true rfl), (Nat.le_of_ble_eq_true rfl)⟩ ⟨by (try dsimp only [room_1]); omega, by (try dsimp only [room_1]); omega⟩ dL_law_1757) (fun H locs hw => ?_)
  refine lv_istore (lv' := [(6, .int r), (5, .int k), (0, .ref b), (1, .ref (qx 0)), (2, .ref (qm 0)), (3, .ref qo), (4, .int (nI (4 * j)))]) C.1 C.2.1 dL_law_1760 hl (by decide) rfl (fun ls hl => ?_)
  refine lv_aload_n C.1 C.2.1 dL_law_1762 rfl (lv_at hl 4 rfl) ?_
  refine g_lmi (rest := []) hw (g_runV (rm := ({ frames := 0, cells := 0, slots := 0, locals := 0 } : Room)) (As := []) (rest := []) C E.E (gW_sub1 (LW_m hw)) F_X4_thrown (ctX4_thrown l (cI := cI) (D := D) (q := qm) M1 _ (r1 := M1 10 0) rfl) km_L_133 0 rfl rfl rfl hl.1 rfl (Nat.le_of_ble_eq_true rfl) ⟨(Nat.le_of_ble_eq_true rfl), (Nat.le_of_ble_eq_true rfl)⟩ ⟨by (try dsimp only [room_1]); omega, by (try dsimp only [room_1]); omega⟩ dL_law_1763) (fun H locs hw => ?_)
  refine lv_iload C.1 C.2.1 dL_law_1766 (lv_at hl 1 rfl) ?_
  rcases finR (fun r => if r = 0 then 0 else 1) (by decide) hag hp with ⟨rfl, hk, X1, rfl, h1⟩ | ⟨hk0, hk, X1, rfl, h1⟩
  · refine lv_icmp_eq (tgt := 1773) C.1 C.2.1 dL_law_1768 (by decide) (fun _ => ?_) (fun hc => absurd hk hc)
    refine lv_iload C.1 C.2.1 dL_law_1773 (lv_at hl 1 rfl) ?_
    refine lv_if_ne (tgt := 1797) C.1 C.2.1 dL_law_1775 (by decide) (fun hc => absurd rfl hc) (fun _ => ?_)
    refine lv_aload_n C.1 C.2.1 dL_law_1778 rfl (lv_at hl 5 rfl) ?_
    refine lv_iconst (v := 0) C.1 C.2.1 dL_law_1779 (by decide) ?_
    refine g_lout C E hw dL_law_1780 ?_
    refine lv_iload C.1 C.2.1 dL_law_1781 (lv_at hl 0 rfl) ?_
    refine lv_if_eq (tgt := 1790) C.1 C.2.1 dL_law_1783 (by decide) (fun hc => ?_) (fun hc => ?_)
    · refine lv_lconst (v := 0) C.1 C.2.1 dL_law_1790 (by decide) ?_
      refine g_lcmp2 C (show (if r = 0 then (0 : Int64) else 1) = 0 by rw [if_pos hc]) dL_law_1791 ?_
      refine lv_if_eq (tgt := 1797) C.1 C.2.1 dL_law_1792 (by decide) (fun _ => ?_) (fun hc => absurd rfl hc)
      refine lv_goto (tgt := 2491) C.1 C.2.1 dL_law_1797 (by decide) ?_
      refine W.widen (k := 30 + (j + 1) * 8) (n := 500 + (j + 1) * 48) (by (try dsimp only); omega) (by (try dsimp only); omega) ?_
      exact hn _ _ _ h1 _ _ _ hw (lv_sub hl [2, 3, 4, 5, 6] rfl)
    · refine lv_lconst (v := 1) C.1 C.2.1 dL_law_1786 (by decide) ?_
      refine lv_goto (tgt := 1791) C.1 C.2.1 dL_law_1787 (by decide) ?_
      refine g_lcmp2 C (show (if r = 0 then (0 : Int64) else 1) = 1 by rw [if_neg hc]) dL_law_1791 ?_
      refine lv_if_eq (tgt := 1797) C.1 C.2.1 dL_law_1792 (by decide) (fun _ => ?_) (fun hc => absurd rfl hc)
      refine lv_goto (tgt := 2491) C.1 C.2.1 dL_law_1797 (by decide) ?_
      refine W.widen (k := 30 + (j + 1) * 8) (n := 500 + (j + 1) * 48) (by (try dsimp only); omega) (by (try dsimp only); omega) ?_
      exact hn _ _ _ h1 _ _ _ hw (lv_sub hl [2, 3, 4, 5, 6] rfl)
  · refine lv_icmp_eq (tgt := 1773) C.1 C.2.1 dL_law_1768 (by decide) (fun _ => ?_) (fun hc => absurd hk hc)
    refine lv_iload C.1 C.2.1 dL_law_1773 (lv_at hl 1 rfl) ?_
    refine lv_if_ne (tgt := 1797) C.1 C.2.1 dL_law_1775 (by decide) (fun _ => ?_) (fun hc => absurd hc hk0)
    refine lv_goto (tgt := 2491) C.1 C.2.1 dL_law_1797 (by decide) ?_
    refine W.widen (k := 30 + (j + 1) * 8) (n := 500 + (j + 1) * 48) (by (try dsimp only); omega) (by (try dsimp only); omega) ?_
    exact hn _ _ _ h1 _ _ _ hw (lv_sub hl [2, 3, 4, 5, 6] rfl)
set_option maxHeartbeats 4000000 in
set_option maxRecDepth 100000 in
theorem law_26 {p : Program} {l : Launch} {e : Env} {s : State} {m : MethodId} {below : List Frame} {meth : Method} {c : Code} {b : Nat} (C : Ctx p s m #[Value.ref b] meth c cL_law 9 RL ret) {D : va_G} {cI cL : ClassId} {qx qm : Nat → Nat} {qo L : Nat} {xs : Nat → Int32} (E : gEL D cI cL s) (Z : gZ (va_A [] s.heap.size) s s.heap) (hT : l.stackTraces = false) (hX : va_X b L xs s s.heap) (hbl : b < s.heap.size) (hL : L ≤ 2048) (j : Nat) (hj : 4 * j + 4 ≤ L) {Q : State → Prop} {X M : St} {o : Nat → Int64} (h : Rel X M) (hn : ∀ (X M : St) (o : Nat → Int64), Rel X M → ∀ (H : Heap) (locs : List Loc) (ls : Array Slot), gW D [] (LW cI cL qx qm qo (X, o) M) s H locs → lv_has ls 9 [(0, .ref b), (1, .ref (qx 0)), (2, .ref (qm 0)), (3, .ref qo), (4, .int (nI (4 * j)))] → W p l e room_1 s m #[Value.ref b] below meth c H locs (30 + (j + 1) * 8) (500 + (j + 1) * 48) Q (F0 m 2491 ls [])) : ∀ (H : Heap) (locs : List Loc) (ls : Array Slot), gW D [] (LW cI cL qx qm qo (X, o) M) s H locs → lv_has ls 9 [(0, .ref b), (1, .ref (qx 0)), (2, .ref (qm 0)), (3, .ref qo), (4, .int (nI (4 * j)))] → W p l e room_1 s m #[Value.ref b] below meth c H locs (30 + j * 8) (500 + j * 48) Q (F0 m 1800 ls []) := by
  have hj5 : j ≤ 511 := by omega
  obtain ⟨R, r, M1, hf1, hf2, hag⟩ := op_matchesOf (xs (4 * j + 1)) h
  intro H locs ls hw hl
  refine lv_aload_n C.1 C.2.1 dL_law_1800 rfl (lv_at hl 1 rfl) ?_
  refine lv_aload_n C.1 C.2.1 dL_law_1801 rfl (lv_at hl 0 rfl) ?_
  refine lv_iload C.1 C.2.1 dL_law_1802 (lv_at hl 4 rfl) ?_
  refine lv_iconst (v := 1) C.1 C.2.1 dL_law_1804 (by decide) ?_
  refine lv_iadd C.1 C.2.1 dL_law_1805 ?_
  refine g_sld C hX hbl hL hw (4 * j + 1) (sx1 (4 * j)) (by omega) dL_law_1806 ?_
  refine lv_aload_n C.1 C.2.1 dL_law_1807 rfl (lv_at hl 3 rfl) ?_
  refine g_lh (rest := []) (As := [.ref (qx 0), .int (xs (4 * j + 1)), .ref qo]) (rm := ({ frames := 8, cells := 1, slots := 6, locals := 132 } : Room)) C E Z hw FH_matchesOf kz_L (ctL_matchesOf l hT (cI := cI) (cL := cL) (D := D) (q := qx) (qo := qo) X o (xs (4 * j + 1)) _ hf1 (fun e he => by simpa using agR_E hag e he)) km_L_214 rfl hl.1 rfl (Nat.le_of_ble_eq_true rfl) ⟨(Nat.le_of_ble_eq_true rfl), (Nat.le_of_ble_eq_true rfl)⟩ ⟨by (try dsimp only [room_1]); omega, by (try dsimp only [room_1]); omega⟩ dL_law_1808 (fun k u hp H locs hw => ?_)
  refine lv_istore (lv' := [(5, .int k), (0, .ref b), (1, .ref (qx 0)), (2, .ref (qm 0)), (3, .ref qo), (4, .int (nI (4 * j)))]) C.1 C.2.1 dL_law_1811 hl (by decide) rfl (fun ls hl => ?_)
  refine lv_aload_n C.1 C.2.1 dL_law_1813 rfl (lv_at hl 3 rfl) ?_
  refine lv_aload_n C.1 C.2.1 dL_law_1814 rfl (lv_at hl 1 rfl) ?_
  refine lv_iload C.1 C.2.1 dL_law_1815 (lv_at hl 5 rfl) ?_
  refine lv_iconst (v := 1) C.1 C.2.1 dL_law_1817 (by decide) ?_
  refine lv_iadd C.1 C.2.1 dL_law_1818 ?_
  refine g_sld C hX hbl hL hw (4 * j + 1) (sx1 (4 * j)) (by omega) dL_law_1819 ?_
  refine g_lmi (rest := []) hw (g_runV (rm := ({ frames := 2, cells := 0, slots := 0, locals := 45 } : Room)) (As := [.int (xs (4 * j + 1))]) (rest := []) C E.E (gW_sub1 (LW_m hw)) F_X4_matchesOf (ctX4_matchesOf l (cI := cI) (D := D) (q := qm) M (xs (4 * j + 1)) _ hf2) km_L_216 0 rfl rfl rfl hl.1 rfl (Nat.le_of_ble_eq_true rfl) ⟨(Nat.le_of_ble_eq_true rfl), (Nat.le_of_ble_eq_true rfl)⟩ ⟨by (try dsimp only [room_1]); omega, by (try dsimp only [room_1]); omega⟩ dL_law_1820) (fun H locs hw => ?_)
  refine lv_istore (lv' := [(6, .int r), (5, .int k), (0, .ref b), (1, .ref (qx 0)), (2, .ref (qm 0)), (3, .ref qo), (4, .int (nI (4 * j)))]) C.1 C.2.1 dL_law_1823 hl (by decide) rfl (fun ls hl => ?_)
  refine lv_aload_n C.1 C.2.1 dL_law_1825 rfl (lv_at hl 4 rfl) ?_
  refine g_lmi (rest := []) hw (g_runV (rm := ({ frames := 0, cells := 0, slots := 0, locals := 0 } : Room)) (As := []) (rest := []) C E.E (gW_sub1 (LW_m hw)) F_X4_thrown (ctX4_thrown l (cI := cI) (D := D) (q := qm) M1 _ (r1 := M1 10 0) rfl) km_L_133 0 rfl rfl rfl hl.1 rfl (Nat.le_of_ble_eq_true rfl) ⟨(Nat.le_of_ble_eq_true rfl), (Nat.le_of_ble_eq_true rfl)⟩ ⟨by (try dsimp only [room_1]); omega, by (try dsimp only [room_1]); omega⟩ dL_law_1826) (fun H locs hw => ?_)
  refine lv_iload C.1 C.2.1 dL_law_1829 (lv_at hl 1 rfl) ?_
  rcases finR (fun r => Int32.toInt64 r) (by decide) hag hp with ⟨rfl, hk, X1, rfl, h1⟩ | ⟨hk0, hk, X1, rfl, h1⟩
  · refine lv_icmp_eq (tgt := 1836) C.1 C.2.1 dL_law_1831 (by decide) (fun _ => ?_) (fun hc => absurd hk hc)
    refine lv_iload C.1 C.2.1 dL_law_1836 (lv_at hl 1 rfl) ?_
    refine lv_if_ne (tgt := 1853) C.1 C.2.1 dL_law_1838 (by decide) (fun hc => absurd rfl hc) (fun _ => ?_)
    refine lv_aload_n C.1 C.2.1 dL_law_1841 rfl (lv_at hl 5 rfl) ?_
    refine lv_iconst (v := 0) C.1 C.2.1 dL_law_1842 (by decide) ?_
    refine g_lout C E hw dL_law_1843 ?_
    refine lv_iload C.1 C.2.1 dL_law_1844 (lv_at hl 0 rfl) ?_
    refine lv_i2l (v := Int32.toInt64 r) C.1 C.2.1 dL_law_1846 rfl ?_
    refine g_lcmp2 C rfl dL_law_1847 ?_
    refine lv_if_eq (tgt := 1853) C.1 C.2.1 dL_law_1848 (by decide) (fun _ => ?_) (fun hc => absurd rfl hc)
    refine lv_goto (tgt := 2491) C.1 C.2.1 dL_law_1853 (by decide) ?_
    refine W.widen (k := 30 + (j + 1) * 8) (n := 500 + (j + 1) * 48) (by (try dsimp only); omega) (by (try dsimp only); omega) ?_
    exact hn _ _ _ h1 _ _ _ hw (lv_sub hl [2, 3, 4, 5, 6] rfl)
  · refine lv_icmp_eq (tgt := 1836) C.1 C.2.1 dL_law_1831 (by decide) (fun _ => ?_) (fun hc => absurd hk hc)
    refine lv_iload C.1 C.2.1 dL_law_1836 (lv_at hl 1 rfl) ?_
    refine lv_if_ne (tgt := 1853) C.1 C.2.1 dL_law_1838 (by decide) (fun _ => ?_) (fun hc => absurd hc hk0)
    refine lv_goto (tgt := 2491) C.1 C.2.1 dL_law_1853 (by decide) ?_
    refine W.widen (k := 30 + (j + 1) * 8) (n := 500 + (j + 1) * 48) (by (try dsimp only); omega) (by (try dsimp only); omega) ?_
    exact hn _ _ _ h1 _ _ _ hw (lv_sub hl [2, 3, 4, 5, 6] rfl)
set_option maxHeartbeats 4000000 in
set_option maxRecDepth 100000 in
theorem law_27 {p : Program} {l : Launch} {e : Env} {s : State} {m : MethodId} {below : List Frame} {meth : Method} {c : Code} {b : Nat} (C : Ctx p s m #[Value.ref b] meth c cL_law 9 RL ret) {D : va_G} {cI cL : ClassId} {qx qm : Nat → Nat} {qo L : Nat} {xs : Nat → Int32} (E : gEL D cI cL s) (Z : gZ (va_A [] s.heap.size) s s.heap) (hT : l.stackTraces = false) (hX : va_X b L xs s s.heap) (hbl : b < s.heap.size) (hL : L ≤ 2048) (j : Nat) (hj : 4 * j + 4 ≤ L) {Q : State → Prop} {X M : St} {o : Nat → Int64} (h : Rel X M) (hn : ∀ (X M : St) (o : Nat → Int64), Rel X M → ∀ (H : Heap) (locs : List Loc) (ls : Array Slot), gW D [] (LW cI cL qx qm qo (X, o) M) s H locs → lv_has ls 9 [(0, .ref b), (1, .ref (qx 0)), (2, .ref (qm 0)), (3, .ref qo), (4, .int (nI (4 * j)))] → W p l e room_1 s m #[Value.ref b] below meth c H locs (30 + (j + 1) * 8) (500 + (j + 1) * 48) Q (F0 m 2491 ls [])) : ∀ (H : Heap) (locs : List Loc) (ls : Array Slot), gW D [] (LW cI cL qx qm qo (X, o) M) s H locs → lv_has ls 9 [(0, .ref b), (1, .ref (qx 0)), (2, .ref (qm 0)), (3, .ref qo), (4, .int (nI (4 * j)))] → W p l e room_1 s m #[Value.ref b] below meth c H locs (30 + j * 8) (500 + j * 48) Q (F0 m 1856 ls []) := by
  have hj5 : j ≤ 511 := by omega
  obtain ⟨R, r, M1, hf1, hf2, hag⟩ := op_mostVivid (xs (4 * j + 1)) h
  intro H locs ls hw hl
  refine lv_aload_n C.1 C.2.1 dL_law_1856 rfl (lv_at hl 1 rfl) ?_
  refine lv_aload_n C.1 C.2.1 dL_law_1857 rfl (lv_at hl 0 rfl) ?_
  refine lv_iload C.1 C.2.1 dL_law_1858 (lv_at hl 4 rfl) ?_
  refine lv_iconst (v := 1) C.1 C.2.1 dL_law_1860 (by decide) ?_
  refine lv_iadd C.1 C.2.1 dL_law_1861 ?_
  refine g_sld C hX hbl hL hw (4 * j + 1) (sx1 (4 * j)) (by omega) dL_law_1862 ?_
  refine lv_aload_n C.1 C.2.1 dL_law_1863 rfl (lv_at hl 3 rfl) ?_
  refine g_lh (rest := []) (As := [.ref (qx 0), .int (xs (4 * j + 1)), .ref qo]) (rm := ({ frames := 8, cells := 1, slots := 6, locals := 132 } : Room)) C E Z hw FH_mostVivid kz_L (ctL_mostVivid l hT (cI := cI) (cL := cL) (D := D) (q := qx) (qo := qo) X o (xs (4 * j + 1)) _ hf1 (fun e he => by simpa using agR_E hag e he)) km_L_217 rfl hl.1 rfl (Nat.le_of_ble_eq_true rfl) ⟨(Nat.le_of_ble_eq_true rfl), (Nat.le_of_ble_eq_true rfl)⟩ ⟨by (try dsimp only [room_1]); omega, by (try dsimp only [room_1]); omega⟩ dL_law_1864 (fun k u hp H locs hw => ?_)
  refine lv_istore (lv' := [(5, .int k), (0, .ref b), (1, .ref (qx 0)), (2, .ref (qm 0)), (3, .ref qo), (4, .int (nI (4 * j)))]) C.1 C.2.1 dL_law_1867 hl (by decide) rfl (fun ls hl => ?_)
  refine lv_aload_n C.1 C.2.1 dL_law_1869 rfl (lv_at hl 3 rfl) ?_
  refine lv_aload_n C.1 C.2.1 dL_law_1870 rfl (lv_at hl 1 rfl) ?_
  refine lv_iload C.1 C.2.1 dL_law_1871 (lv_at hl 5 rfl) ?_
  refine lv_iconst (v := 1) C.1 C.2.1 dL_law_1873 (by decide) ?_
  refine lv_iadd C.1 C.2.1 dL_law_1874 ?_
  refine g_sld C hX hbl hL hw (4 * j + 1) (sx1 (4 * j)) (by omega) dL_law_1875 ?_
  refine g_lmi (rest := []) hw (g_runV (rm := ({ frames := 2, cells := 0, slots := 0, locals := 45 } : Room)) (As := [.int (xs (4 * j + 1))]) (rest := []) C E.E (gW_sub1 (LW_m hw)) F_X4_mostVivid (ctX4_mostVivid l (cI := cI) (D := D) (q := qm) M (xs (4 * j + 1)) _ hf2) km_L_219 0 rfl rfl rfl hl.1 rfl (Nat.le_of_ble_eq_true rfl) ⟨(Nat.le_of_ble_eq_true rfl), (Nat.le_of_ble_eq_true rfl)⟩ ⟨by (try dsimp only [room_1]); omega, by (try dsimp only [room_1]); omega⟩ dL_law_1876) (fun H locs hw => ?_)
  refine lv_istore (lv' := [(6, .int r), (5, .int k), (0, .ref b), (1, .ref (qx 0)), (2, .ref (qm 0)), (3, .ref qo), (4, .int (nI (4 * j)))]) C.1 C.2.1 dL_law_1879 hl (by decide) rfl (fun ls hl => ?_)
  refine lv_aload_n C.1 C.2.1 dL_law_1881 rfl (lv_at hl 4 rfl) ?_
  refine g_lmi (rest := []) hw (g_runV (rm := ({ frames := 0, cells := 0, slots := 0, locals := 0 } : Room)) (As := []) (rest := []) C E.E (gW_sub1 (LW_m hw)) F_X4_thrown (ctX4_thrown l (cI := cI) (D := D) (q := qm) M1 _ (r1 := M1 10 0) rfl) km_L_133 0 rfl rfl rfl hl.1 rfl (Nat.le_of_ble_eq_true rfl) ⟨(Nat.le_of_ble_eq_true rfl), (Nat.le_of_ble_eq_true rfl)⟩ ⟨by (try dsimp only [room_1]); omega, by (try dsimp only [room_1]); omega⟩ dL_law_1882) (fun H locs hw => ?_)
  refine lv_iload C.1 C.2.1 dL_law_1885 (lv_at hl 1 rfl) ?_
  rcases finR (fun r => Int32.toInt64 r) (by decide) hag hp with ⟨rfl, hk, X1, rfl, h1⟩ | ⟨hk0, hk, X1, rfl, h1⟩
  · refine lv_icmp_eq (tgt := 1892) C.1 C.2.1 dL_law_1887 (by decide) (fun _ => ?_) (fun hc => absurd hk hc)
    refine lv_iload C.1 C.2.1 dL_law_1892 (lv_at hl 1 rfl) ?_
    refine lv_if_ne (tgt := 1909) C.1 C.2.1 dL_law_1894 (by decide) (fun hc => absurd rfl hc) (fun _ => ?_)
    refine lv_aload_n C.1 C.2.1 dL_law_1897 rfl (lv_at hl 5 rfl) ?_
    refine lv_iconst (v := 0) C.1 C.2.1 dL_law_1898 (by decide) ?_
    refine g_lout C E hw dL_law_1899 ?_
    refine lv_iload C.1 C.2.1 dL_law_1900 (lv_at hl 0 rfl) ?_
    refine lv_i2l (v := Int32.toInt64 r) C.1 C.2.1 dL_law_1902 rfl ?_
    refine g_lcmp2 C rfl dL_law_1903 ?_
    refine lv_if_eq (tgt := 1909) C.1 C.2.1 dL_law_1904 (by decide) (fun _ => ?_) (fun hc => absurd rfl hc)
    refine lv_goto (tgt := 2491) C.1 C.2.1 dL_law_1909 (by decide) ?_
    refine W.widen (k := 30 + (j + 1) * 8) (n := 500 + (j + 1) * 48) (by (try dsimp only); omega) (by (try dsimp only); omega) ?_
    exact hn _ _ _ h1 _ _ _ hw (lv_sub hl [2, 3, 4, 5, 6] rfl)
  · refine lv_icmp_eq (tgt := 1892) C.1 C.2.1 dL_law_1887 (by decide) (fun _ => ?_) (fun hc => absurd hk hc)
    refine lv_iload C.1 C.2.1 dL_law_1892 (lv_at hl 1 rfl) ?_
    refine lv_if_ne (tgt := 1909) C.1 C.2.1 dL_law_1894 (by decide) (fun _ => ?_) (fun hc => absurd hc hk0)
    refine lv_goto (tgt := 2491) C.1 C.2.1 dL_law_1909 (by decide) ?_
    refine W.widen (k := 30 + (j + 1) * 8) (n := 500 + (j + 1) * 48) (by (try dsimp only); omega) (by (try dsimp only); omega) ?_
    exact hn _ _ _ h1 _ _ _ hw (lv_sub hl [2, 3, 4, 5, 6] rfl)
set_option maxHeartbeats 4000000 in
set_option maxRecDepth 100000 in
theorem law_28 {p : Program} {l : Launch} {e : Env} {s : State} {m : MethodId} {below : List Frame} {meth : Method} {c : Code} {b : Nat} (C : Ctx p s m #[Value.ref b] meth c cL_law 9 RL ret) {D : va_G} {cI cL : ClassId} {qx qm : Nat → Nat} {qo L : Nat} {xs : Nat → Int32} (E : gEL D cI cL s) (Z : gZ (va_A [] s.heap.size) s s.heap) (hT : l.stackTraces = false) (hX : va_X b L xs s s.heap) (hbl : b < s.heap.size) (hL : L ≤ 2048) (j : Nat) (hj : 4 * j + 4 ≤ L) {Q : State → Prop} {X M : St} {o : Nat → Int64} (h : Rel X M) (hn : ∀ (X M : St) (o : Nat → Int64), Rel X M → ∀ (H : Heap) (locs : List Loc) (ls : Array Slot), gW D [] (LW cI cL qx qm qo (X, o) M) s H locs → lv_has ls 9 [(0, .ref b), (1, .ref (qx 0)), (2, .ref (qm 0)), (3, .ref qo), (4, .int (nI (4 * j)))] → W p l e room_1 s m #[Value.ref b] below meth c H locs (30 + (j + 1) * 8) (500 + (j + 1) * 48) Q (F0 m 2491 ls [])) : ∀ (H : Heap) (locs : List Loc) (ls : Array Slot), gW D [] (LW cI cL qx qm qo (X, o) M) s H locs → lv_has ls 9 [(0, .ref b), (1, .ref (qx 0)), (2, .ref (qm 0)), (3, .ref qo), (4, .int (nI (4 * j)))] → W p l e room_1 s m #[Value.ref b] below meth c H locs (30 + j * 8) (500 + j * 48) Q (F0 m 1912 ls []) := by
  have hj5 : j ≤ 511 := by omega
  obtain ⟨R, r, M1, hf1, hf2, hag⟩ := op_commonTags (xs (4 * j + 1)) h
  intro H locs ls hw hl
  refine lv_aload_n C.1 C.2.1 dL_law_1912 rfl (lv_at hl 1 rfl) ?_
  refine lv_aload_n C.1 C.2.1 dL_law_1913 rfl (lv_at hl 0 rfl) ?_
  refine lv_iload C.1 C.2.1 dL_law_1914 (lv_at hl 4 rfl) ?_
  refine lv_iconst (v := 1) C.1 C.2.1 dL_law_1916 (by decide) ?_
  refine lv_iadd C.1 C.2.1 dL_law_1917 ?_
  refine g_sld C hX hbl hL hw (4 * j + 1) (sx1 (4 * j)) (by omega) dL_law_1918 ?_
  refine lv_aload_n C.1 C.2.1 dL_law_1919 rfl (lv_at hl 3 rfl) ?_
  refine g_lh (rest := []) (As := [.ref (qx 0), .int (xs (4 * j + 1)), .ref qo]) (rm := ({ frames := 8, cells := 1, slots := 6, locals := 132 } : Room)) C E Z hw FH_commonTags kz_L (ctL_commonTags l hT (cI := cI) (cL := cL) (D := D) (q := qx) (qo := qo) X o (xs (4 * j + 1)) _ hf1 (fun e he => by simpa using agR_E hag e he)) km_L_220 rfl hl.1 rfl (Nat.le_of_ble_eq_true rfl) ⟨(Nat.le_of_ble_eq_true rfl), (Nat.le_of_ble_eq_true rfl)⟩ ⟨by (try dsimp only [room_1]); omega, by (try dsimp only [room_1]); omega⟩ dL_law_1920 (fun k u hp H locs hw => ?_)
  refine lv_istore (lv' := [(5, .int k), (0, .ref b), (1, .ref (qx 0)), (2, .ref (qm 0)), (3, .ref qo), (4, .int (nI (4 * j)))]) C.1 C.2.1 dL_law_1923 hl (by decide) rfl (fun ls hl => ?_)
  refine lv_aload_n C.1 C.2.1 dL_law_1925 rfl (lv_at hl 3 rfl) ?_
  refine lv_aload_n C.1 C.2.1 dL_law_1926 rfl (lv_at hl 1 rfl) ?_
  refine lv_iload C.1 C.2.1 dL_law_1927 (lv_at hl 5 rfl) ?_
  refine lv_iconst (v := 1) C.1 C.2.1 dL_law_1929 (by decide) ?_
  refine lv_iadd C.1 C.2.1 dL_law_1930 ?_
  refine g_sld C hX hbl hL hw (4 * j + 1) (sx1 (4 * j)) (by omega) dL_law_1931 ?_
  refine g_lmi (rest := []) hw (g_runV (rm := ({ frames := 2, cells := 0, slots := 0, locals := 45 } : Room)) (As := [.int (xs (4 * j + 1))]) (rest := []) C E.E (gW_sub1 (LW_m hw)) F_X4_commonTags (ctX4_commonTags l (cI := cI) (D := D) (q := qm) M (xs (4 * j + 1)) _ hf2) km_L_222 0 rfl rfl rfl hl.1 rfl (Nat.le_of_ble_eq_true rfl) ⟨(Nat.le_of_ble_eq_true rfl), (Nat.le_of_ble_eq_true rfl)⟩ ⟨by (try dsimp only [room_1]); omega, by (try dsimp only [room_1]); omega⟩ dL_law_1932) (fun H locs hw => ?_)
  refine lv_istore (lv' := [(6, .int r), (5, .int k), (0, .ref b), (1, .ref (qx 0)), (2, .ref (qm 0)), (3, .ref qo), (4, .int (nI (4 * j)))]) C.1 C.2.1 dL_law_1935 hl (by decide) rfl (fun ls hl => ?_)
  refine lv_aload_n C.1 C.2.1 dL_law_1937 rfl (lv_at hl 4 rfl) ?_
  refine g_lmi (rest := []) hw (g_runV (rm := ({ frames := 0, cells := 0, slots := 0, locals := 0 } : Room)) (As := []) (rest := []) C E.E (gW_sub1 (LW_m hw)) F_X4_thrown (ctX4_thrown l (cI := cI) (D := D) (q := qm) M1 _ (r1 := M1 10 0) rfl) km_L_133 0 rfl rfl rfl hl.1 rfl (Nat.le_of_ble_eq_true rfl) ⟨(Nat.le_of_ble_eq_true rfl), (Nat.le_of_ble_eq_true rfl)⟩ ⟨by (try dsimp only [room_1]); omega, by (try dsimp only [room_1]); omega⟩ dL_law_1938) (fun H locs hw => ?_)
  refine lv_iload C.1 C.2.1 dL_law_1941 (lv_at hl 1 rfl) ?_
  rcases finR (fun r => Int32.toInt64 r) (by decide) hag hp with ⟨rfl, hk, X1, rfl, h1⟩ | ⟨hk0, hk, X1, rfl, h1⟩
  · refine lv_icmp_eq (tgt := 1948) C.1 C.2.1 dL_law_1943 (by decide) (fun _ => ?_) (fun hc => absurd hk hc)
    refine lv_iload C.1 C.2.1 dL_law_1948 (lv_at hl 1 rfl) ?_
    refine lv_if_ne (tgt := 1965) C.1 C.2.1 dL_law_1950 (by decide) (fun hc => absurd rfl hc) (fun _ => ?_)
    refine lv_aload_n C.1 C.2.1 dL_law_1953 rfl (lv_at hl 5 rfl) ?_
    refine lv_iconst (v := 0) C.1 C.2.1 dL_law_1954 (by decide) ?_
    refine g_lout C E hw dL_law_1955 ?_
    refine lv_iload C.1 C.2.1 dL_law_1956 (lv_at hl 0 rfl) ?_
    refine lv_i2l (v := Int32.toInt64 r) C.1 C.2.1 dL_law_1958 rfl ?_
    refine g_lcmp2 C rfl dL_law_1959 ?_
    refine lv_if_eq (tgt := 1965) C.1 C.2.1 dL_law_1960 (by decide) (fun _ => ?_) (fun hc => absurd rfl hc)
    refine lv_goto (tgt := 2491) C.1 C.2.1 dL_law_1965 (by decide) ?_
    refine W.widen (k := 30 + (j + 1) * 8) (n := 500 + (j + 1) * 48) (by (try dsimp only); omega) (by (try dsimp only); omega) ?_
    exact hn _ _ _ h1 _ _ _ hw (lv_sub hl [2, 3, 4, 5, 6] rfl)
  · refine lv_icmp_eq (tgt := 1948) C.1 C.2.1 dL_law_1943 (by decide) (fun _ => ?_) (fun hc => absurd hk hc)
    refine lv_iload C.1 C.2.1 dL_law_1948 (lv_at hl 1 rfl) ?_
    refine lv_if_ne (tgt := 1965) C.1 C.2.1 dL_law_1950 (by decide) (fun _ => ?_) (fun hc => absurd hc hk0)
    refine lv_goto (tgt := 2491) C.1 C.2.1 dL_law_1965 (by decide) ?_
    refine W.widen (k := 30 + (j + 1) * 8) (n := 500 + (j + 1) * 48) (by (try dsimp only); omega) (by (try dsimp only); omega) ?_
    exact hn _ _ _ h1 _ _ _ hw (lv_sub hl [2, 3, 4, 5, 6] rfl)
set_option maxHeartbeats 4000000 in
set_option maxRecDepth 100000 in
theorem law_29 {p : Program} {l : Launch} {e : Env} {s : State} {m : MethodId} {below : List Frame} {meth : Method} {c : Code} {b : Nat} (C : Ctx p s m #[Value.ref b] meth c cL_law 9 RL ret) {D : va_G} {cI cL : ClassId} {qx qm : Nat → Nat} {qo L : Nat} {xs : Nat → Int32} (E : gEL D cI cL s) (Z : gZ (va_A [] s.heap.size) s s.heap) (hT : l.stackTraces = false) (hX : va_X b L xs s s.heap) (hbl : b < s.heap.size) (hL : L ≤ 2048) (j : Nat) (hj : 4 * j + 4 ≤ L) {Q : State → Prop} {X M : St} {o : Nat → Int64} (h : Rel X M) (hn : ∀ (X M : St) (o : Nat → Int64), Rel X M → ∀ (H : Heap) (locs : List Loc) (ls : Array Slot), gW D [] (LW cI cL qx qm qo (X, o) M) s H locs → lv_has ls 9 [(0, .ref b), (1, .ref (qx 0)), (2, .ref (qm 0)), (3, .ref qo), (4, .int (nI (4 * j)))] → W p l e room_1 s m #[Value.ref b] below meth c H locs (30 + (j + 1) * 8) (500 + (j + 1) * 48) Q (F0 m 2491 ls [])) : ∀ (H : Heap) (locs : List Loc) (ls : Array Slot), gW D [] (LW cI cL qx qm qo (X, o) M) s H locs → lv_has ls 9 [(0, .ref b), (1, .ref (qx 0)), (2, .ref (qm 0)), (3, .ref qo), (4, .int (nI (4 * j)))] → W p l e room_1 s m #[Value.ref b] below meth c H locs (30 + j * 8) (500 + j * 48) Q (F0 m 1968 ls []) := by
  have hj5 : j ≤ 511 := by omega
  obtain ⟨R, r, M1, hf1, hf2, hag⟩ := op_matchSame (xs (4 * j + 1)) (xs (4 * j + 2)) h
  intro H locs ls hw hl
  refine lv_aload_n C.1 C.2.1 dL_law_1968 rfl (lv_at hl 1 rfl) ?_
  refine lv_aload_n C.1 C.2.1 dL_law_1969 rfl (lv_at hl 0 rfl) ?_
  refine lv_iload C.1 C.2.1 dL_law_1970 (lv_at hl 4 rfl) ?_
  refine lv_iconst (v := 1) C.1 C.2.1 dL_law_1972 (by decide) ?_
  refine lv_iadd C.1 C.2.1 dL_law_1973 ?_
  refine g_sld C hX hbl hL hw (4 * j + 1) (sx1 (4 * j)) (by omega) dL_law_1974 ?_
  refine lv_aload_n C.1 C.2.1 dL_law_1975 rfl (lv_at hl 0 rfl) ?_
  refine lv_iload C.1 C.2.1 dL_law_1976 (lv_at hl 4 rfl) ?_
  refine lv_iconst (v := 2) C.1 C.2.1 dL_law_1978 (by decide) ?_
  refine lv_iadd C.1 C.2.1 dL_law_1979 ?_
  refine g_sld C hX hbl hL hw (4 * j + 2) (sx2 (4 * j)) (by omega) dL_law_1980 ?_
  refine lv_aload_n C.1 C.2.1 dL_law_1981 rfl (lv_at hl 3 rfl) ?_
  refine g_lh (rest := []) (As := [.ref (qx 0), .int (xs (4 * j + 1)), .int (xs (4 * j + 2)), .ref qo]) (rm := ({ frames := 8, cells := 2, slots := 12, locals := 133 } : Room)) C E Z hw FH_matchSame kz_L (ctL_matchSame l hT (cI := cI) (cL := cL) (D := D) (q := qx) (qo := qo) X o (xs (4 * j + 1)) (xs (4 * j + 2)) _ hf1 (fun e he => by simpa using agR_E hag e he)) km_L_223 rfl hl.1 rfl (Nat.le_of_ble_eq_true rfl) ⟨(Nat.le_of_ble_eq_true rfl), (Nat.le_of_ble_eq_true rfl)⟩ ⟨by (try dsimp only [room_1]); omega, by (try dsimp only [room_1]); omega⟩ dL_law_1982 (fun k u hp H locs hw => ?_)
  refine lv_istore (lv' := [(5, .int k), (0, .ref b), (1, .ref (qx 0)), (2, .ref (qm 0)), (3, .ref qo), (4, .int (nI (4 * j)))]) C.1 C.2.1 dL_law_1985 hl (by decide) rfl (fun ls hl => ?_)
  refine lv_aload_n C.1 C.2.1 dL_law_1987 rfl (lv_at hl 3 rfl) ?_
  refine lv_aload_n C.1 C.2.1 dL_law_1988 rfl (lv_at hl 1 rfl) ?_
  refine lv_iload C.1 C.2.1 dL_law_1989 (lv_at hl 5 rfl) ?_
  refine lv_iconst (v := 1) C.1 C.2.1 dL_law_1991 (by decide) ?_
  refine lv_iadd C.1 C.2.1 dL_law_1992 ?_
  refine g_sld C hX hbl hL hw (4 * j + 1) (sx1 (4 * j)) (by omega) dL_law_1993 ?_
  refine lv_aload_n C.1 C.2.1 dL_law_1994 rfl (lv_at hl 1 rfl) ?_
  refine lv_iload C.1 C.2.1 dL_law_1995 (lv_at hl 5 rfl) ?_
  refine lv_iconst (v := 2) C.1 C.2.1 dL_law_1997 (by decide) ?_
  refine lv_iadd C.1 C.2.1 dL_law_1998 ?_
  refine g_sld C hX hbl hL hw (4 * j + 2) (sx2 (4 * j)) (by omega) dL_law_1999 ?_
  refine g_lmi (rest := []) hw (g_runV (rm := ({ frames := 2, cells := 0, slots := 0, locals := 45 } : Room)) (As := [.int (xs (4 * j + 1)), .int (xs (4 * j + 2))]) (rest := []) C E.E (gW_sub1 (LW_m hw)) F_X4_matchSame (ctX4_matchSame l (cI := cI) (D := D) (q := qm) M (xs (4 * j + 1)) (xs (4 * j + 2)) _ hf2) km_L_225 0 rfl rfl rfl hl.1 rfl (Nat.le_of_ble_eq_true rfl) ⟨(Nat.le_of_ble_eq_true rfl), (Nat.le_of_ble_eq_true rfl)⟩ ⟨by (try dsimp only [room_1]); omega, by (try dsimp only [room_1]); omega⟩ dL_law_2000) (fun H locs hw => ?_)
  refine lv_istore (lv' := [(6, .int r), (5, .int k), (0, .ref b), (1, .ref (qx 0)), (2, .ref (qm 0)), (3, .ref qo), (4, .int (nI (4 * j)))]) C.1 C.2.1 dL_law_2003 hl (by decide) rfl (fun ls hl => ?_)
  refine lv_aload_n C.1 C.2.1 dL_law_2005 rfl (lv_at hl 4 rfl) ?_
  refine g_lmi (rest := []) hw (g_runV (rm := ({ frames := 0, cells := 0, slots := 0, locals := 0 } : Room)) (As := []) (rest := []) C E.E (gW_sub1 (LW_m hw)) F_X4_thrown (ctX4_thrown l (cI := cI) (D := D) (q := qm) M1 _ (r1 := M1 10 0) rfl) km_L_133 0 rfl rfl rfl hl.1 rfl (Nat.le_of_ble_eq_true rfl) ⟨(Nat.le_of_ble_eq_true rfl), (Nat.le_of_ble_eq_true rfl)⟩ ⟨by (try dsimp only [room_1]); omega, by (try dsimp only [room_1]); omega⟩ dL_law_2006) (fun H locs hw => ?_)
  refine lv_iload C.1 C.2.1 dL_law_2009 (lv_at hl 1 rfl) ?_
  rcases finR (fun r => if r = 0 then 0 else 1) (by decide) hag hp with ⟨rfl, hk, X1, rfl, h1⟩ | ⟨hk0, hk, X1, rfl, h1⟩
  · refine lv_icmp_eq (tgt := 2016) C.1 C.2.1 dL_law_2011 (by decide) (fun _ => ?_) (fun hc => absurd hk hc)
    refine lv_iload C.1 C.2.1 dL_law_2016 (lv_at hl 1 rfl) ?_
    refine lv_if_ne (tgt := 2040) C.1 C.2.1 dL_law_2018 (by decide) (fun hc => absurd rfl hc) (fun _ => ?_)
    refine lv_aload_n C.1 C.2.1 dL_law_2021 rfl (lv_at hl 5 rfl) ?_
    refine lv_iconst (v := 0) C.1 C.2.1 dL_law_2022 (by decide) ?_
    refine g_lout C E hw dL_law_2023 ?_
    refine lv_iload C.1 C.2.1 dL_law_2024 (lv_at hl 0 rfl) ?_
    refine lv_if_eq (tgt := 2033) C.1 C.2.1 dL_law_2026 (by decide) (fun hc => ?_) (fun hc => ?_)
    · refine lv_lconst (v := 0) C.1 C.2.1 dL_law_2033 (by decide) ?_
      refine g_lcmp2 C (show (if r = 0 then (0 : Int64) else 1) = 0 by rw [if_pos hc]) dL_law_2034 ?_
      refine lv_if_eq (tgt := 2040) C.1 C.2.1 dL_law_2035 (by decide) (fun _ => ?_) (fun hc => absurd rfl hc)
      refine lv_goto (tgt := 2491) C.1 C.2.1 dL_law_2040 (by decide) ?_
      refine W.widen (k := 30 + (j + 1) * 8) (n := 500 + (j + 1) * 48) (by (try dsimp only); omega) (by (try dsimp only); omega) ?_
      exact hn _ _ _ h1 _ _ _ hw (lv_sub hl [2, 3, 4, 5, 6] rfl)
    · refine lv_lconst (v := 1) C.1 C.2.1 dL_law_2029 (by decide) ?_
      refine lv_goto (tgt := 2034) C.1 C.2.1 dL_law_2030 (by decide) ?_
      refine g_lcmp2 C (show (if r = 0 then (0 : Int64) else 1) = 1 by rw [if_neg hc]) dL_law_2034 ?_
      refine lv_if_eq (tgt := 2040) C.1 C.2.1 dL_law_2035 (by decide) (fun _ => ?_) (fun hc => absurd rfl hc)
      refine lv_goto (tgt := 2491) C.1 C.2.1 dL_law_2040 (by decide) ?_
      refine W.widen (k := 30 + (j + 1) * 8) (n := 500 + (j + 1) * 48) (by (try dsimp only); omega) (by (try dsimp only); omega) ?_
      exact hn _ _ _ h1 _ _ _ hw (lv_sub hl [2, 3, 4, 5, 6] rfl)
  · refine lv_icmp_eq (tgt := 2016) C.1 C.2.1 dL_law_2011 (by decide) (fun _ => ?_) (fun hc => absurd hk hc)
    refine lv_iload C.1 C.2.1 dL_law_2016 (lv_at hl 1 rfl) ?_
    refine lv_if_ne (tgt := 2040) C.1 C.2.1 dL_law_2018 (by decide) (fun _ => ?_) (fun hc => absurd hc hk0)
    refine lv_goto (tgt := 2491) C.1 C.2.1 dL_law_2040 (by decide) ?_
    refine W.widen (k := 30 + (j + 1) * 8) (n := 500 + (j + 1) * 48) (by (try dsimp only); omega) (by (try dsimp only); omega) ?_
    exact hn _ _ _ h1 _ _ _ hw (lv_sub hl [2, 3, 4, 5, 6] rfl)
set_option maxHeartbeats 4000000 in
set_option maxRecDepth 100000 in
theorem law_30 {p : Program} {l : Launch} {e : Env} {s : State} {m : MethodId} {below : List Frame} {meth : Method} {c : Code} {b : Nat} (C : Ctx p s m #[Value.ref b] meth c cL_law 9 RL ret) {D : va_G} {cI cL : ClassId} {qx qm : Nat → Nat} {qo L : Nat} {xs : Nat → Int32} (E : gEL D cI cL s) (Z : gZ (va_A [] s.heap.size) s s.heap) (hT : l.stackTraces = false) (hX : va_X b L xs s s.heap) (hbl : b < s.heap.size) (hL : L ≤ 2048) (j : Nat) (hj : 4 * j + 4 ≤ L) {Q : State → Prop} {X M : St} {o : Nat → Int64} (h : Rel X M) (hn : ∀ (X M : St) (o : Nat → Int64), Rel X M → ∀ (H : Heap) (locs : List Loc) (ls : Array Slot), gW D [] (LW cI cL qx qm qo (X, o) M) s H locs → lv_has ls 9 [(0, .ref b), (1, .ref (qx 0)), (2, .ref (qm 0)), (3, .ref qo), (4, .int (nI (4 * j)))] → W p l e room_1 s m #[Value.ref b] below meth c H locs (30 + (j + 1) * 8) (500 + (j + 1) * 48) Q (F0 m 2491 ls [])) : ∀ (H : Heap) (locs : List Loc) (ls : Array Slot), gW D [] (LW cI cL qx qm qo (X, o) M) s H locs → lv_has ls 9 [(0, .ref b), (1, .ref (qx 0)), (2, .ref (qm 0)), (3, .ref qo), (4, .int (nI (4 * j)))] → W p l e room_1 s m #[Value.ref b] below meth c H locs (30 + j * 8) (500 + j * 48) Q (F0 m 2043 ls []) := by
  have hj5 : j ≤ 511 := by omega
  obtain ⟨R, r, M1, hf1, hf2, hag⟩ := op_coverSize (xs (4 * j + 1)) h
  intro H locs ls hw hl
  refine lv_aload_n C.1 C.2.1 dL_law_2043 rfl (lv_at hl 1 rfl) ?_
  refine lv_aload_n C.1 C.2.1 dL_law_2044 rfl (lv_at hl 0 rfl) ?_
  refine lv_iload C.1 C.2.1 dL_law_2045 (lv_at hl 4 rfl) ?_
  refine lv_iconst (v := 1) C.1 C.2.1 dL_law_2047 (by decide) ?_
  refine lv_iadd C.1 C.2.1 dL_law_2048 ?_
  refine g_sld C hX hbl hL hw (4 * j + 1) (sx1 (4 * j)) (by omega) dL_law_2049 ?_
  refine lv_aload_n C.1 C.2.1 dL_law_2050 rfl (lv_at hl 3 rfl) ?_
  refine g_lh (rest := []) (As := [.ref (qx 0), .int (xs (4 * j + 1)), .ref qo]) (rm := ({ frames := 24, cells := 1, slots := 6, locals := 893 } : Room)) C E Z hw FH_coverSize kz_L (ctL_coverSize l hT (cI := cI) (cL := cL) (D := D) (q := qx) (qo := qo) X o (xs (4 * j + 1)) _ hf1 (fun e S1 he => by simpa using agW_E hag e S1 he)) km_L_226 rfl hl.1 rfl (Nat.le_of_ble_eq_true rfl) ⟨(Nat.le_of_ble_eq_true rfl), (Nat.le_of_ble_eq_true rfl)⟩ ⟨by (try dsimp only [room_1]); omega, by (try dsimp only [room_1]); omega⟩ dL_law_2051 (fun k u hp H locs hw => ?_)
  refine lv_istore (lv' := [(5, .int k), (0, .ref b), (1, .ref (qx 0)), (2, .ref (qm 0)), (3, .ref qo), (4, .int (nI (4 * j)))]) C.1 C.2.1 dL_law_2054 hl (by decide) rfl (fun ls hl => ?_)
  refine lv_aload_n C.1 C.2.1 dL_law_2056 rfl (lv_at hl 3 rfl) ?_
  refine lv_aload_n C.1 C.2.1 dL_law_2057 rfl (lv_at hl 1 rfl) ?_
  refine lv_iload C.1 C.2.1 dL_law_2058 (lv_at hl 5 rfl) ?_
  refine lv_iconst (v := 1) C.1 C.2.1 dL_law_2060 (by decide) ?_
  refine lv_iadd C.1 C.2.1 dL_law_2061 ?_
  refine g_sld C hX hbl hL hw (4 * j + 1) (sx1 (4 * j)) (by omega) dL_law_2062 ?_
  refine g_lmi (rest := []) hw (g_runV (rm := ({ frames := 24, cells := 0, slots := 0, locals := 891 } : Room)) (As := [.int (xs (4 * j + 1))]) (rest := []) C E.E (gW_sub1 (LW_m hw)) F_X4_coverSize (ctX4_coverSize l (cI := cI) (D := D) (q := qm) M (xs (4 * j + 1)) _ hf2) km_L_228 0 rfl rfl rfl hl.1 rfl (Nat.le_of_ble_eq_true rfl) ⟨(Nat.le_of_ble_eq_true rfl), (Nat.le_of_ble_eq_true rfl)⟩ ⟨by (try dsimp only [room_1]); omega, by (try dsimp only [room_1]); omega⟩ dL_law_2063) (fun H locs hw => ?_)
  refine lv_istore (lv' := [(6, .int r), (5, .int k), (0, .ref b), (1, .ref (qx 0)), (2, .ref (qm 0)), (3, .ref qo), (4, .int (nI (4 * j)))]) C.1 C.2.1 dL_law_2066 hl (by decide) rfl (fun ls hl => ?_)
  refine lv_aload_n C.1 C.2.1 dL_law_2068 rfl (lv_at hl 4 rfl) ?_
  refine g_lmi (rest := []) hw (g_runV (rm := ({ frames := 0, cells := 0, slots := 0, locals := 0 } : Room)) (As := []) (rest := []) C E.E (gW_sub1 (LW_m hw)) F_X4_thrown (ctX4_thrown l (cI := cI) (D := D) (q := qm) M1 _ (r1 := M1 10 0) rfl) km_L_133 0 rfl rfl rfl hl.1 rfl (Nat.le_of_ble_eq_true rfl) ⟨(Nat.le_of_ble_eq_true rfl), (Nat.le_of_ble_eq_true rfl)⟩ ⟨by (try dsimp only [room_1]); omega, by (try dsimp only [room_1]); omega⟩ dL_law_2069) (fun H locs hw => ?_)
  refine lv_iload C.1 C.2.1 dL_law_2072 (lv_at hl 1 rfl) ?_
  rcases finW (fun r => Int32.toInt64 r) (by decide) hag hp with ⟨rfl, hk, X1, rfl, h1⟩ | ⟨hk0, hk, X1, rfl, h1⟩
  · refine lv_icmp_eq (tgt := 2079) C.1 C.2.1 dL_law_2074 (by decide) (fun _ => ?_) (fun hc => absurd hk hc)
    refine lv_iload C.1 C.2.1 dL_law_2079 (lv_at hl 1 rfl) ?_
    refine lv_if_ne (tgt := 2096) C.1 C.2.1 dL_law_2081 (by decide) (fun hc => absurd rfl hc) (fun _ => ?_)
    refine lv_aload_n C.1 C.2.1 dL_law_2084 rfl (lv_at hl 5 rfl) ?_
    refine lv_iconst (v := 0) C.1 C.2.1 dL_law_2085 (by decide) ?_
    refine g_lout C E hw dL_law_2086 ?_
    refine lv_iload C.1 C.2.1 dL_law_2087 (lv_at hl 0 rfl) ?_
    refine lv_i2l (v := Int32.toInt64 r) C.1 C.2.1 dL_law_2089 rfl ?_
    refine g_lcmp2 C rfl dL_law_2090 ?_
    refine lv_if_eq (tgt := 2096) C.1 C.2.1 dL_law_2091 (by decide) (fun _ => ?_) (fun hc => absurd rfl hc)
    refine lv_goto (tgt := 2491) C.1 C.2.1 dL_law_2096 (by decide) ?_
    refine W.widen (k := 30 + (j + 1) * 8) (n := 500 + (j + 1) * 48) (by (try dsimp only); omega) (by (try dsimp only); omega) ?_
    exact hn _ _ _ h1 _ _ _ hw (lv_sub hl [2, 3, 4, 5, 6] rfl)
  · refine lv_icmp_eq (tgt := 2079) C.1 C.2.1 dL_law_2074 (by decide) (fun _ => ?_) (fun hc => absurd hk hc)
    refine lv_iload C.1 C.2.1 dL_law_2079 (lv_at hl 1 rfl) ?_
    refine lv_if_ne (tgt := 2096) C.1 C.2.1 dL_law_2081 (by decide) (fun _ => ?_) (fun hc => absurd hc hk0)
    refine lv_goto (tgt := 2491) C.1 C.2.1 dL_law_2096 (by decide) ?_
    refine W.widen (k := 30 + (j + 1) * 8) (n := 500 + (j + 1) * 48) (by (try dsimp only); omega) (by (try dsimp only); omega) ?_
    exact hn _ _ _ h1 _ _ _ hw (lv_sub hl [2, 3, 4, 5, 6] rfl)
set_option maxHeartbeats 4000000 in
set_option maxRecDepth 100000 in
theorem law_31 {p : Program} {l : Launch} {e : Env} {s : State} {m : MethodId} {below : List Frame} {meth : Method} {c : Code} {b : Nat} (C : Ctx p s m #[Value.ref b] meth c cL_law 9 RL ret) {D : va_G} {cI cL : ClassId} {qx qm : Nat → Nat} {qo L : Nat} {xs : Nat → Int32} (E : gEL D cI cL s) (Z : gZ (va_A [] s.heap.size) s s.heap) (hT : l.stackTraces = false) (hX : va_X b L xs s s.heap) (hbl : b < s.heap.size) (hL : L ≤ 2048) (j : Nat) (hj : 4 * j + 4 ≤ L) {Q : State → Prop} {X M : St} {o : Nat → Int64} (h : Rel X M) (hn : ∀ (X M : St) (o : Nat → Int64), Rel X M → ∀ (H : Heap) (locs : List Loc) (ls : Array Slot), gW D [] (LW cI cL qx qm qo (X, o) M) s H locs → lv_has ls 9 [(0, .ref b), (1, .ref (qx 0)), (2, .ref (qm 0)), (3, .ref qo), (4, .int (nI (4 * j)))] → W p l e room_1 s m #[Value.ref b] below meth c H locs (30 + (j + 1) * 8) (500 + (j + 1) * 48) Q (F0 m 2491 ls [])) : ∀ (H : Heap) (locs : List Loc) (ls : Array Slot), gW D [] (LW cI cL qx qm qo (X, o) M) s H locs → lv_has ls 9 [(0, .ref b), (1, .ref (qx 0)), (2, .ref (qm 0)), (3, .ref qo), (4, .int (nI (4 * j)))] → W p l e room_1 s m #[Value.ref b] below meth c H locs (30 + j * 8) (500 + j * 48) Q (F0 m 2099 ls []) := by
  have hj5 : j ≤ 511 := by omega
  obtain ⟨R, r, M1, hf1, hf2, hag⟩ := op_coverTag (xs (4 * j + 1)) (xs (4 * j + 2)) h
  intro H locs ls hw hl
  refine lv_aload_n C.1 C.2.1 dL_law_2099 rfl (lv_at hl 1 rfl) ?_
  refine lv_aload_n C.1 C.2.1 dL_law_2100 rfl (lv_at hl 0 rfl) ?_
  refine lv_iload C.1 C.2.1 dL_law_2101 (lv_at hl 4 rfl) ?_
  refine lv_iconst (v := 1) C.1 C.2.1 dL_law_2103 (by decide) ?_
  refine lv_iadd C.1 C.2.1 dL_law_2104 ?_
  refine g_sld C hX hbl hL hw (4 * j + 1) (sx1 (4 * j)) (by omega) dL_law_2105 ?_
  refine lv_aload_n C.1 C.2.1 dL_law_2106 rfl (lv_at hl 0 rfl) ?_
  refine lv_iload C.1 C.2.1 dL_law_2107 (lv_at hl 4 rfl) ?_
  refine lv_iconst (v := 2) C.1 C.2.1 dL_law_2109 (by decide) ?_
  refine lv_iadd C.1 C.2.1 dL_law_2110 ?_
  refine g_sld C hX hbl hL hw (4 * j + 2) (sx2 (4 * j)) (by omega) dL_law_2111 ?_
  refine lv_aload_n C.1 C.2.1 dL_law_2112 rfl (lv_at hl 3 rfl) ?_
  refine g_lh (rest := []) (As := [.ref (qx 0), .int (xs (4 * j + 1)), .int (xs (4 * j + 2)), .ref qo]) (rm := ({ frames := 24, cells := 2, slots := 12, locals := 895 } : Room)) C E Z hw FH_coverTag kz_L (ctL_coverTag l hT (cI := cI) (cL := cL) (D := D) (q := qx) (qo := qo) X o (xs (4 * j + 1)) (xs (4 * j + 2)) _ hf1 (fun e S1 he => by simpa using agW_E hag e S1 he)) km_L_229 rfl hl.1 rfl (Nat.le_of_ble_eq_true rfl) ⟨(Nat.le_of_ble_eq_true rfl), (Nat.le_of_ble_eq_true rfl)⟩ ⟨by (try dsimp only [room_1]); omega, by (try dsimp only [room_1]); omega⟩ dL_law_2113 (fun k u hp H locs hw => ?_)
  refine lv_istore (lv' := [(5, .int k), (0, .ref b), (1, .ref (qx 0)), (2, .ref (qm 0)), (3, .ref qo), (4, .int (nI (4 * j)))]) C.1 C.2.1 dL_law_2116 hl (by decide) rfl (fun ls hl => ?_)
  refine lv_aload_n C.1 C.2.1 dL_law_2118 rfl (lv_at hl 3 rfl) ?_
  refine lv_aload_n C.1 C.2.1 dL_law_2119 rfl (lv_at hl 1 rfl) ?_
  refine lv_iload C.1 C.2.1 dL_law_2120 (lv_at hl 5 rfl) ?_
  refine lv_iconst (v := 1) C.1 C.2.1 dL_law_2122 (by decide) ?_
  refine lv_iadd C.1 C.2.1 dL_law_2123 ?_
  refine g_sld C hX hbl hL hw (4 * j + 1) (sx1 (4 * j)) (by omega) dL_law_2124 ?_
  refine lv_aload_n C.1 C.2.1 dL_law_2125 rfl (lv_at hl 1 rfl) ?_
  refine lv_iload C.1 C.2.1 dL_law_2126 (lv_at hl 5 rfl) ?_
  refine lv_iconst (v := 2) C.1 C.2.1 dL_law_2128 (by decide) ?_
  refine lv_iadd C.1 C.2.1 dL_law_2129 ?_
  refine g_sld C hX hbl hL hw (4 * j + 2) (sx2 (4 * j)) (by omega) dL_law_2130 ?_
  refine g_lmi (rest := []) hw (g_runV (rm := ({ frames := 24, cells := 0, slots := 0, locals := 891 } : Room)) (As := [.int (xs (4 * j + 1)), .int (xs (4 * j + 2))]) (rest := []) C E.E (gW_sub1 (LW_m hw)) F_X4_coverTag (ctX4_coverTag l (cI := cI) (D := D) (q := qm) M (xs (4 * j + 1)) (xs (4 * j + 2)) _ hf2) km_L_231 0 rfl rfl rfl hl.1 rfl (Nat.le_of_ble_eq_true rfl) ⟨(Nat.le_of_ble_eq_true rfl), (Nat.le_of_ble_eq_true rfl)⟩ ⟨by (try dsimp only [room_1]); omega, by (try dsimp only [room_1]); omega⟩ dL_law_2131) (fun H locs hw => ?_)
  refine lv_istore (lv' := [(6, .int r), (5, .int k), (0, .ref b), (1, .ref (qx 0)), (2, .ref (qm 0)), (3, .ref qo), (4, .int (nI (4 * j)))]) C.1 C.2.1 dL_law_2134 hl (by decide) rfl (fun ls hl => ?_)
  refine lv_aload_n C.1 C.2.1 dL_law_2136 rfl (lv_at hl 4 rfl) ?_
  refine g_lmi (rest := []) hw (g_runV (rm := ({ frames := 0, cells := 0, slots := 0, locals := 0 } : Room)) (As := []) (rest := []) C E.E (gW_sub1 (LW_m hw)) F_X4_thrown (ctX4_thrown l (cI := cI) (D := D) (q := qm) M1 _ (r1 := M1 10 0) rfl) km_L_133 0 rfl rfl rfl hl.1 rfl (Nat.le_of_ble_eq_true rfl) ⟨(Nat.le_of_ble_eq_true rfl), (Nat.le_of_ble_eq_true rfl)⟩ ⟨by (try dsimp only [room_1]); omega, by (try dsimp only [room_1]); omega⟩ dL_law_2137) (fun H locs hw => ?_)
  refine lv_iload C.1 C.2.1 dL_law_2140 (lv_at hl 1 rfl) ?_
  rcases finW (fun r => Int32.toInt64 r) (by decide) hag hp with ⟨rfl, hk, X1, rfl, h1⟩ | ⟨hk0, hk, X1, rfl, h1⟩
  · refine lv_icmp_eq (tgt := 2147) C.1 C.2.1 dL_law_2142 (by decide) (fun _ => ?_) (fun hc => absurd hk hc)
    refine lv_iload C.1 C.2.1 dL_law_2147 (lv_at hl 1 rfl) ?_
    refine lv_if_ne (tgt := 2164) C.1 C.2.1 dL_law_2149 (by decide) (fun hc => absurd rfl hc) (fun _ => ?_)
    refine lv_aload_n C.1 C.2.1 dL_law_2152 rfl (lv_at hl 5 rfl) ?_
    refine lv_iconst (v := 0) C.1 C.2.1 dL_law_2153 (by decide) ?_
    refine g_lout C E hw dL_law_2154 ?_
    refine lv_iload C.1 C.2.1 dL_law_2155 (lv_at hl 0 rfl) ?_
    refine lv_i2l (v := Int32.toInt64 r) C.1 C.2.1 dL_law_2157 rfl ?_
    refine g_lcmp2 C rfl dL_law_2158 ?_
    refine lv_if_eq (tgt := 2164) C.1 C.2.1 dL_law_2159 (by decide) (fun _ => ?_) (fun hc => absurd rfl hc)
    refine lv_goto (tgt := 2491) C.1 C.2.1 dL_law_2164 (by decide) ?_
    refine W.widen (k := 30 + (j + 1) * 8) (n := 500 + (j + 1) * 48) (by (try dsimp only); omega) (by (try dsimp only); omega) ?_
    exact hn _ _ _ h1 _ _ _ hw (lv_sub hl [2, 3, 4, 5, 6] rfl)
  · refine lv_icmp_eq (tgt := 2147) C.1 C.2.1 dL_law_2142 (by decide) (fun _ => ?_) (fun hc => absurd hk hc)
    refine lv_iload C.1 C.2.1 dL_law_2147 (lv_at hl 1 rfl) ?_
    refine lv_if_ne (tgt := 2164) C.1 C.2.1 dL_law_2149 (by decide) (fun _ => ?_) (fun hc => absurd hc hk0)
    refine lv_goto (tgt := 2491) C.1 C.2.1 dL_law_2164 (by decide) ?_
    refine W.widen (k := 30 + (j + 1) * 8) (n := 500 + (j + 1) * 48) (by (try dsimp only); omega) (by (try dsimp only); omega) ?_
    exact hn _ _ _ h1 _ _ _ hw (lv_sub hl [2, 3, 4, 5, 6] rfl)
set_option maxHeartbeats 4000000 in
set_option maxRecDepth 100000 in
theorem law_32 {p : Program} {l : Launch} {e : Env} {s : State} {m : MethodId} {below : List Frame} {meth : Method} {c : Code} {b : Nat} (C : Ctx p s m #[Value.ref b] meth c cL_law 9 RL ret) {D : va_G} {cI cL : ClassId} {qx qm : Nat → Nat} {qo L : Nat} {xs : Nat → Int32} (E : gEL D cI cL s) (Z : gZ (va_A [] s.heap.size) s s.heap) (hT : l.stackTraces = false) (hX : va_X b L xs s s.heap) (hbl : b < s.heap.size) (hL : L ≤ 2048) (j : Nat) (hj : 4 * j + 4 ≤ L) {Q : State → Prop} {X M : St} {o : Nat → Int64} (h : Rel X M) (hn : ∀ (X M : St) (o : Nat → Int64), Rel X M → ∀ (H : Heap) (locs : List Loc) (ls : Array Slot), gW D [] (LW cI cL qx qm qo (X, o) M) s H locs → lv_has ls 9 [(0, .ref b), (1, .ref (qx 0)), (2, .ref (qm 0)), (3, .ref qo), (4, .int (nI (4 * j)))] → W p l e room_1 s m #[Value.ref b] below meth c H locs (30 + (j + 1) * 8) (500 + (j + 1) * 48) Q (F0 m 2491 ls [])) : ∀ (H : Heap) (locs : List Loc) (ls : Array Slot), gW D [] (LW cI cL qx qm qo (X, o) M) s H locs → lv_has ls 9 [(0, .ref b), (1, .ref (qx 0)), (2, .ref (qm 0)), (3, .ref qo), (4, .int (nI (4 * j)))] → W p l e room_1 s m #[Value.ref b] below meth c H locs (30 + j * 8) (500 + j * 48) Q (F0 m 2167 ls []) := by
  have hj5 : j ≤ 511 := by omega
  obtain ⟨r, M1, hf1, hf2, h1⟩ := op_tags h
  intro H locs ls hw hl
  refine lv_aload_n C.1 C.2.1 dL_law_2167 rfl (lv_at hl 1 rfl) ?_
  refine g_lxi (rest := []) hw (g_runV (rm := ({ frames := 0, cells := 0, slots := 0, locals := 0 } : Room)) (As := []) (rest := []) C E.E (gW_sub1 (LW_x hw)) F_X3_tags (ctX3_tags l (cI := cI) (D := D) (q := qx) X _ hf1) km_L_232 0 rfl rfl rfl hl.1 rfl (Nat.le_of_ble_eq_true rfl) ⟨(Nat.le_of_ble_eq_true rfl), (Nat.le_of_ble_eq_true rfl)⟩ ⟨by (try dsimp only [room_1]); omega, by (try dsimp only [room_1]); omega⟩ dL_law_2168) (fun H locs hw => ?_)
  refine lv_aload_n C.1 C.2.1 dL_law_2171 rfl (lv_at hl 2 rfl) ?_
  refine g_lmi (rest := [.int r]) hw (g_runV (rm := ({ frames := 0, cells := 0, slots := 0, locals := 0 } : Room)) (As := []) (rest := [.int r]) C E.E (gW_sub1 (LW_m hw)) F_X4_tags (ctX4_tags l (cI := cI) (D := D) (q := qm) M _ hf2) km_L_235 0 rfl rfl rfl hl.1 rfl (Nat.le_of_ble_eq_true rfl) ⟨(Nat.le_of_ble_eq_true rfl), (Nat.le_of_ble_eq_true rfl)⟩ ⟨by (try dsimp only [room_1]); omega, by (try dsimp only [room_1]); omega⟩ dL_law_2172) (fun H locs hw => ?_)
  refine lv_icmp_eq (tgt := 2491) C.1 C.2.1 dL_law_2175 (by decide) (fun _ => ?_) (fun hc => absurd rfl hc)
  refine W.widen (k := 30 + (j + 1) * 8) (n := 500 + (j + 1) * 48) (by (try dsimp only); omega) (by (try dsimp only); omega) ?_
  exact hn _ _ _ h1 _ _ _ hw (lv_sub hl [0, 1, 2, 3, 4] rfl)
set_option maxHeartbeats 4000000 in
set_option maxRecDepth 100000 in
theorem law_33 {p : Program} {l : Launch} {e : Env} {s : State} {m : MethodId} {below : List Frame} {meth : Method} {c : Code} {b : Nat} (C : Ctx p s m #[Value.ref b] meth c cL_law 9 RL ret) {D : va_G} {cI cL : ClassId} {qx qm : Nat → Nat} {qo L : Nat} {xs : Nat → Int32} (E : gEL D cI cL s) (Z : gZ (va_A [] s.heap.size) s s.heap) (hT : l.stackTraces = false) (hX : va_X b L xs s s.heap) (hbl : b < s.heap.size) (hL : L ≤ 2048) (j : Nat) (hj : 4 * j + 4 ≤ L) {Q : State → Prop} {X M : St} {o : Nat → Int64} (h : Rel X M) (hn : ∀ (X M : St) (o : Nat → Int64), Rel X M → ∀ (H : Heap) (locs : List Loc) (ls : Array Slot), gW D [] (LW cI cL qx qm qo (X, o) M) s H locs → lv_has ls 9 [(0, .ref b), (1, .ref (qx 0)), (2, .ref (qm 0)), (3, .ref qo), (4, .int (nI (4 * j)))] → W p l e room_1 s m #[Value.ref b] below meth c H locs (30 + (j + 1) * 8) (500 + (j + 1) * 48) Q (F0 m 2491 ls [])) : ∀ (H : Heap) (locs : List Loc) (ls : Array Slot), gW D [] (LW cI cL qx qm qo (X, o) M) s H locs → lv_has ls 9 [(0, .ref b), (1, .ref (qx 0)), (2, .ref (qm 0)), (3, .ref qo), (4, .int (nI (4 * j)))] → W p l e room_1 s m #[Value.ref b] below meth c H locs (30 + j * 8) (500 + j * 48) Q (F0 m 2180 ls []) := by
  have hj5 : j ≤ 511 := by omega
  obtain ⟨r, M1, hf1, hf2, h1⟩ := op_dreams h
  intro H locs ls hw hl
  refine lv_aload_n C.1 C.2.1 dL_law_2180 rfl (lv_at hl 1 rfl) ?_
  refine g_lxi (rest := []) hw (g_runV (rm := ({ frames := 0, cells := 0, slots := 0, locals := 0 } : Room)) (As := []) (rest := []) C E.E (gW_sub1 (LW_x hw)) F_X3_dreams (ctX3_dreams l (cI := cI) (D := D) (q := qx) X _ hf1) km_L_236 0 rfl rfl rfl hl.1 rfl (Nat.le_of_ble_eq_true rfl) ⟨(Nat.le_of_ble_eq_true rfl), (Nat.le_of_ble_eq_true rfl)⟩ ⟨by (try dsimp only [room_1]); omega, by (try dsimp only [room_1]); omega⟩ dL_law_2181) (fun H locs hw => ?_)
  refine lv_aload_n C.1 C.2.1 dL_law_2184 rfl (lv_at hl 2 rfl) ?_
  refine g_lmi (rest := [.int r]) hw (g_runV (rm := ({ frames := 0, cells := 0, slots := 0, locals := 0 } : Room)) (As := []) (rest := [.int r]) C E.E (gW_sub1 (LW_m hw)) F_X4_dreams (ctX4_dreams l (cI := cI) (D := D) (q := qm) M _ hf2) km_L_239 0 rfl rfl rfl hl.1 rfl (Nat.le_of_ble_eq_true rfl) ⟨(Nat.le_of_ble_eq_true rfl), (Nat.le_of_ble_eq_true rfl)⟩ ⟨by (try dsimp only [room_1]); omega, by (try dsimp only [room_1]); omega⟩ dL_law_2185) (fun H locs hw => ?_)
  refine lv_icmp_eq (tgt := 2491) C.1 C.2.1 dL_law_2188 (by decide) (fun _ => ?_) (fun hc => absurd rfl hc)
  refine W.widen (k := 30 + (j + 1) * 8) (n := 500 + (j + 1) * 48) (by (try dsimp only); omega) (by (try dsimp only); omega) ?_
  exact hn _ _ _ h1 _ _ _ hw (lv_sub hl [0, 1, 2, 3, 4] rfl)
set_option maxHeartbeats 4000000 in
set_option maxRecDepth 100000 in
theorem law_34 {p : Program} {l : Launch} {e : Env} {s : State} {m : MethodId} {below : List Frame} {meth : Method} {c : Code} {b : Nat} (C : Ctx p s m #[Value.ref b] meth c cL_law 9 RL ret) {D : va_G} {cI cL : ClassId} {qx qm : Nat → Nat} {qo L : Nat} {xs : Nat → Int32} (E : gEL D cI cL s) (Z : gZ (va_A [] s.heap.size) s s.heap) (hT : l.stackTraces = false) (hX : va_X b L xs s s.heap) (hbl : b < s.heap.size) (hL : L ≤ 2048) (j : Nat) (hj : 4 * j + 4 ≤ L) {Q : State → Prop} {X M : St} {o : Nat → Int64} (h : Rel X M) (hn : ∀ (X M : St) (o : Nat → Int64), Rel X M → ∀ (H : Heap) (locs : List Loc) (ls : Array Slot), gW D [] (LW cI cL qx qm qo (X, o) M) s H locs → lv_has ls 9 [(0, .ref b), (1, .ref (qx 0)), (2, .ref (qm 0)), (3, .ref qo), (4, .int (nI (4 * j)))] → W p l e room_1 s m #[Value.ref b] below meth c H locs (30 + (j + 1) * 8) (500 + (j + 1) * 48) Q (F0 m 2491 ls [])) : ∀ (H : Heap) (locs : List Loc) (ls : Array Slot), gW D [] (LW cI cL qx qm qo (X, o) M) s H locs → lv_has ls 9 [(0, .ref b), (1, .ref (qx 0)), (2, .ref (qm 0)), (3, .ref qo), (4, .int (nI (4 * j)))] → W p l e room_1 s m #[Value.ref b] below meth c H locs (30 + j * 8) (500 + j * 48) Q (F0 m 2193 ls []) := by
  have hj5 : j ≤ 511 := by omega
  obtain ⟨r, M1, hf1, hf2, h1⟩ := op_terms h
  intro H locs ls hw hl
  refine lv_aload_n C.1 C.2.1 dL_law_2193 rfl (lv_at hl 1 rfl) ?_
  refine g_lxi (rest := []) hw (g_runV (rm := ({ frames := 0, cells := 0, slots := 0, locals := 0 } : Room)) (As := []) (rest := []) C E.E (gW_sub1 (LW_x hw)) F_X3_terms (ctX3_terms l (cI := cI) (D := D) (q := qx) X _ hf1) km_L_240 0 rfl rfl rfl hl.1 rfl (Nat.le_of_ble_eq_true rfl) ⟨(Nat.le_of_ble_eq_true rfl), (Nat.le_of_ble_eq_true rfl)⟩ ⟨by (try dsimp only [room_1]); omega, by (try dsimp only [room_1]); omega⟩ dL_law_2194) (fun H locs hw => ?_)
  refine lv_aload_n C.1 C.2.1 dL_law_2197 rfl (lv_at hl 2 rfl) ?_
  refine g_lmi (rest := [.int r]) hw (g_runV (rm := ({ frames := 0, cells := 0, slots := 0, locals := 0 } : Room)) (As := []) (rest := [.int r]) C E.E (gW_sub1 (LW_m hw)) F_X4_terms (ctX4_terms l (cI := cI) (D := D) (q := qm) M _ hf2) km_L_243 0 rfl rfl rfl hl.1 rfl (Nat.le_of_ble_eq_true rfl) ⟨(Nat.le_of_ble_eq_true rfl), (Nat.le_of_ble_eq_true rfl)⟩ ⟨by (try dsimp only [room_1]); omega, by (try dsimp only [room_1]); omega⟩ dL_law_2198) (fun H locs hw => ?_)
  refine lv_icmp_eq (tgt := 2491) C.1 C.2.1 dL_law_2201 (by decide) (fun _ => ?_) (fun hc => absurd rfl hc)
  refine W.widen (k := 30 + (j + 1) * 8) (n := 500 + (j + 1) * 48) (by (try dsimp only); omega) (by (try dsimp only); omega) ?_
  exact hn _ _ _ h1 _ _ _ hw (lv_sub hl [0, 1, 2, 3, 4] rfl)
set_option maxHeartbeats 4000000 in
set_option maxRecDepth 100000 in
theorem law_35 {p : Program} {l : Launch} {e : Env} {s : State} {m : MethodId} {below : List Frame} {meth : Method} {c : Code} {b : Nat} (C : Ctx p s m #[Value.ref b] meth c cL_law 9 RL ret) {D : va_G} {cI cL : ClassId} {qx qm : Nat → Nat} {qo L : Nat} {xs : Nat → Int32} (E : gEL D cI cL s) (Z : gZ (va_A [] s.heap.size) s s.heap) (hT : l.stackTraces = false) (hX : va_X b L xs s s.heap) (hbl : b < s.heap.size) (hL : L ≤ 2048) (j : Nat) (hj : 4 * j + 4 ≤ L) {Q : State → Prop} {X M : St} {o : Nat → Int64} (h : Rel X M) (hn : ∀ (X M : St) (o : Nat → Int64), Rel X M → ∀ (H : Heap) (locs : List Loc) (ls : Array Slot), gW D [] (LW cI cL qx qm qo (X, o) M) s H locs → lv_has ls 9 [(0, .ref b), (1, .ref (qx 0)), (2, .ref (qm 0)), (3, .ref qo), (4, .int (nI (4 * j)))] → W p l e room_1 s m #[Value.ref b] below meth c H locs (30 + (j + 1) * 8) (500 + (j + 1) * 48) Q (F0 m 2491 ls [])) : ∀ (H : Heap) (locs : List Loc) (ls : Array Slot), gW D [] (LW cI cL qx qm qo (X, o) M) s H locs → lv_has ls 9 [(0, .ref b), (1, .ref (qx 0)), (2, .ref (qm 0)), (3, .ref qo), (4, .int (nI (4 * j)))] → W p l e room_1 s m #[Value.ref b] below meth c H locs (30 + j * 8) (500 + j * 48) Q (F0 m 2206 ls []) := by
  have hj5 : j ≤ 511 := by omega
  obtain ⟨r, M1, hf1, hf2, h1⟩ := op_nights h
  intro H locs ls hw hl
  refine lv_aload_n C.1 C.2.1 dL_law_2206 rfl (lv_at hl 1 rfl) ?_
  refine g_lxi (rest := []) hw (g_runV (rm := ({ frames := 0, cells := 0, slots := 0, locals := 0 } : Room)) (As := []) (rest := []) C E.E (gW_sub1 (LW_x hw)) F_X3_nights (ctX3_nights l (cI := cI) (D := D) (q := qx) X _ hf1) km_L_244 0 rfl rfl rfl hl.1 rfl (Nat.le_of_ble_eq_true rfl) ⟨(Nat.le_of_ble_eq_true rfl), (Nat.le_of_ble_eq_true rfl)⟩ ⟨by (try dsimp only [room_1]); omega, by (try dsimp only [room_1]); omega⟩ dL_law_2207) (fun H locs hw => ?_)
  refine lv_aload_n C.1 C.2.1 dL_law_2210 rfl (lv_at hl 2 rfl) ?_
  refine g_lmi (rest := [.int r]) hw (g_runV (rm := ({ frames := 0, cells := 0, slots := 0, locals := 0 } : Room)) (As := []) (rest := [.int r]) C E.E (gW_sub1 (LW_m hw)) F_X4_nights (ctX4_nights l (cI := cI) (D := D) (q := qm) M _ hf2) km_L_247 0 rfl rfl rfl hl.1 rfl (Nat.le_of_ble_eq_true rfl) ⟨(Nat.le_of_ble_eq_true rfl), (Nat.le_of_ble_eq_true rfl)⟩ ⟨by (try dsimp only [room_1]); omega, by (try dsimp only [room_1]); omega⟩ dL_law_2211) (fun H locs hw => ?_)
  refine lv_icmp_eq (tgt := 2491) C.1 C.2.1 dL_law_2214 (by decide) (fun _ => ?_) (fun hc => absurd rfl hc)
  refine W.widen (k := 30 + (j + 1) * 8) (n := 500 + (j + 1) * 48) (by (try dsimp only); omega) (by (try dsimp only); omega) ?_
  exact hn _ _ _ h1 _ _ _ hw (lv_sub hl [0, 1, 2, 3, 4] rfl)
set_option maxHeartbeats 4000000 in
set_option maxRecDepth 100000 in
theorem law_36 {p : Program} {l : Launch} {e : Env} {s : State} {m : MethodId} {below : List Frame} {meth : Method} {c : Code} {b : Nat} (C : Ctx p s m #[Value.ref b] meth c cL_law 9 RL ret) {D : va_G} {cI cL : ClassId} {qx qm : Nat → Nat} {qo L : Nat} {xs : Nat → Int32} (E : gEL D cI cL s) (Z : gZ (va_A [] s.heap.size) s s.heap) (hT : l.stackTraces = false) (hX : va_X b L xs s s.heap) (hbl : b < s.heap.size) (hL : L ≤ 2048) (j : Nat) (hj : 4 * j + 4 ≤ L) {Q : State → Prop} {X M : St} {o : Nat → Int64} (h : Rel X M) (hn : ∀ (X M : St) (o : Nat → Int64), Rel X M → ∀ (H : Heap) (locs : List Loc) (ls : Array Slot), gW D [] (LW cI cL qx qm qo (X, o) M) s H locs → lv_has ls 9 [(0, .ref b), (1, .ref (qx 0)), (2, .ref (qm 0)), (3, .ref qo), (4, .int (nI (4 * j)))] → W p l e room_1 s m #[Value.ref b] below meth c H locs (30 + (j + 1) * 8) (500 + (j + 1) * 48) Q (F0 m 2491 ls [])) : ∀ (H : Heap) (locs : List Loc) (ls : Array Slot), gW D [] (LW cI cL qx qm qo (X, o) M) s H locs → lv_has ls 9 [(0, .ref b), (1, .ref (qx 0)), (2, .ref (qm 0)), (3, .ref qo), (4, .int (nI (4 * j)))] → W p l e room_1 s m #[Value.ref b] below meth c H locs (30 + j * 8) (500 + j * 48) Q (F0 m 2219 ls []) := by
  have hj5 : j ≤ 511 := by omega
  obtain ⟨r, M1, hf1, hf2, h1⟩ := op_fadedDreams h
  intro H locs ls hw hl
  refine lv_aload_n C.1 C.2.1 dL_law_2219 rfl (lv_at hl 1 rfl) ?_
  refine g_lxi (rest := []) hw (g_runV (rm := ({ frames := 3, cells := 0, slots := 0, locals := 67 } : Room)) (As := []) (rest := []) C E.E (gW_sub1 (LW_x hw)) F_X3_fadedDreams (ctX3_fadedDreams l (cI := cI) (D := D) (q := qx) X _ hf1) km_L_248 0 rfl rfl rfl hl.1 rfl (Nat.le_of_ble_eq_true rfl) ⟨(Nat.le_of_ble_eq_true rfl), (Nat.le_of_ble_eq_true rfl)⟩ ⟨by (try dsimp only [room_1]); omega, by (try dsimp only [room_1]); omega⟩ dL_law_2220) (fun H locs hw => ?_)
  refine lv_aload_n C.1 C.2.1 dL_law_2223 rfl (lv_at hl 2 rfl) ?_
  refine g_lmi (rest := [.int r]) hw (g_runV (rm := ({ frames := 3, cells := 0, slots := 0, locals := 67 } : Room)) (As := []) (rest := [.int r]) C E.E (gW_sub1 (LW_m hw)) F_X4_fadedDreams (ctX4_fadedDreams l (cI := cI) (D := D) (q := qm) M _ hf2) km_L_251 0 rfl rfl rfl hl.1 rfl (Nat.le_of_ble_eq_true rfl) ⟨(Nat.le_of_ble_eq_true rfl), (Nat.le_of_ble_eq_true rfl)⟩ ⟨by (try dsimp only [room_1]); omega, by (try dsimp only [room_1]); omega⟩ dL_law_2224) (fun H locs hw => ?_)
  refine lv_icmp_eq (tgt := 2491) C.1 C.2.1 dL_law_2227 (by decide) (fun _ => ?_) (fun hc => absurd rfl hc)
  refine W.widen (k := 30 + (j + 1) * 8) (n := 500 + (j + 1) * 48) (by (try dsimp only); omega) (by (try dsimp only); omega) ?_
  exact hn _ _ _ h1 _ _ _ hw (lv_sub hl [0, 1, 2, 3, 4] rfl)
set_option maxHeartbeats 4000000 in
set_option maxRecDepth 100000 in
theorem law_37 {p : Program} {l : Launch} {e : Env} {s : State} {m : MethodId} {below : List Frame} {meth : Method} {c : Code} {b : Nat} (C : Ctx p s m #[Value.ref b] meth c cL_law 9 RL ret) {D : va_G} {cI cL : ClassId} {qx qm : Nat → Nat} {qo L : Nat} {xs : Nat → Int32} (E : gEL D cI cL s) (Z : gZ (va_A [] s.heap.size) s s.heap) (hT : l.stackTraces = false) (hX : va_X b L xs s s.heap) (hbl : b < s.heap.size) (hL : L ≤ 2048) (j : Nat) (hj : 4 * j + 4 ≤ L) {Q : State → Prop} {X M : St} {o : Nat → Int64} (h : Rel X M) (hn : ∀ (X M : St) (o : Nat → Int64), Rel X M → ∀ (H : Heap) (locs : List Loc) (ls : Array Slot), gW D [] (LW cI cL qx qm qo (X, o) M) s H locs → lv_has ls 9 [(0, .ref b), (1, .ref (qx 0)), (2, .ref (qm 0)), (3, .ref qo), (4, .int (nI (4 * j)))] → W p l e room_1 s m #[Value.ref b] below meth c H locs (30 + (j + 1) * 8) (500 + (j + 1) * 48) Q (F0 m 2491 ls [])) : ∀ (H : Heap) (locs : List Loc) (ls : Array Slot), gW D [] (LW cI cL qx qm qo (X, o) M) s H locs → lv_has ls 9 [(0, .ref b), (1, .ref (qx 0)), (2, .ref (qm 0)), (3, .ref qo), (4, .int (nI (4 * j)))] → W p l e room_1 s m #[Value.ref b] below meth c H locs (30 + j * 8) (500 + j * 48) Q (F0 m 2232 ls []) := by
  have hj5 : j ≤ 511 := by omega
  obtain ⟨R, r, M1, hf1, hf2, hag⟩ := op_fadedAfter (xs (4 * j + 1)) h
  intro H locs ls hw hl
  refine lv_aload_n C.1 C.2.1 dL_law_2232 rfl (lv_at hl 1 rfl) ?_
  refine lv_aload_n C.1 C.2.1 dL_law_2233 rfl (lv_at hl 0 rfl) ?_
  refine lv_iload C.1 C.2.1 dL_law_2234 (lv_at hl 4 rfl) ?_
  refine lv_iconst (v := 1) C.1 C.2.1 dL_law_2236 (by decide) ?_
  refine lv_iadd C.1 C.2.1 dL_law_2237 ?_
  refine g_sld C hX hbl hL hw (4 * j + 1) (sx1 (4 * j)) (by omega) dL_law_2238 ?_
  refine lv_aload_n C.1 C.2.1 dL_law_2239 rfl (lv_at hl 3 rfl) ?_
  refine g_lh (rest := []) (As := [.ref (qx 0), .int (xs (4 * j + 1)), .ref qo]) (rm := ({ frames := 8, cells := 1, slots := 6, locals := 132 } : Room)) C E Z hw FH_fadedAfter kz_L (ctL_fadedAfter l hT (cI := cI) (cL := cL) (D := D) (q := qx) (qo := qo) X o (xs (4 * j + 1)) _ hf1 (fun e he => by simpa using agR_E hag e he)) km_L_252 rfl hl.1 rfl (Nat.le_of_ble_eq_true rfl) ⟨(Nat.le_of_ble_eq_true rfl), (Nat.le_of_ble_eq_true rfl)⟩ ⟨by (try dsimp only [room_1]); omega, by (try dsimp only [room_1]); omega⟩ dL_law_2240 (fun k u hp H locs hw => ?_)
  refine lv_istore (lv' := [(5, .int k), (0, .ref b), (1, .ref (qx 0)), (2, .ref (qm 0)), (3, .ref qo), (4, .int (nI (4 * j)))]) C.1 C.2.1 dL_law_2243 hl (by decide) rfl (fun ls hl => ?_)
  refine lv_aload_n C.1 C.2.1 dL_law_2245 rfl (lv_at hl 3 rfl) ?_
  refine lv_aload_n C.1 C.2.1 dL_law_2246 rfl (lv_at hl 1 rfl) ?_
  refine lv_iload C.1 C.2.1 dL_law_2247 (lv_at hl 5 rfl) ?_
  refine lv_iconst (v := 1) C.1 C.2.1 dL_law_2249 (by decide) ?_
  refine lv_iadd C.1 C.2.1 dL_law_2250 ?_
  refine g_sld C hX hbl hL hw (4 * j + 1) (sx1 (4 * j)) (by omega) dL_law_2251 ?_
  refine g_lmi (rest := []) hw (g_runV (rm := ({ frames := 3, cells := 0, slots := 0, locals := 67 } : Room)) (As := [.int (xs (4 * j + 1))]) (rest := []) C E.E (gW_sub1 (LW_m hw)) F_X4_fadedAfter (ctX4_fadedAfter l (cI := cI) (D := D) (q := qm) M (xs (4 * j + 1)) _ hf2) km_L_254 0 rfl rfl rfl hl.1 rfl (Nat.le_of_ble_eq_true rfl) ⟨(Nat.le_of_ble_eq_true rfl), (Nat.le_of_ble_eq_true rfl)⟩ ⟨by (try dsimp only [room_1]); omega, by (try dsimp only [room_1]); omega⟩ dL_law_2252) (fun H locs hw => ?_)
  refine lv_istore (lv' := [(6, .int r), (5, .int k), (0, .ref b), (1, .ref (qx 0)), (2, .ref (qm 0)), (3, .ref qo), (4, .int (nI (4 * j)))]) C.1 C.2.1 dL_law_2255 hl (by decide) rfl (fun ls hl => ?_)
  refine lv_aload_n C.1 C.2.1 dL_law_2257 rfl (lv_at hl 4 rfl) ?_
  refine g_lmi (rest := []) hw (g_runV (rm := ({ frames := 0, cells := 0, slots := 0, locals := 0 } : Room)) (As := []) (rest := []) C E.E (gW_sub1 (LW_m hw)) F_X4_thrown (ctX4_thrown l (cI := cI) (D := D) (q := qm) M1 _ (r1 := M1 10 0) rfl) km_L_133 0 rfl rfl rfl hl.1 rfl (Nat.le_of_ble_eq_true rfl) ⟨(Nat.le_of_ble_eq_true rfl), (Nat.le_of_ble_eq_true rfl)⟩ ⟨by (try dsimp only [room_1]); omega, by (try dsimp only [room_1]); omega⟩ dL_law_2258) (fun H locs hw => ?_)
  refine lv_iload C.1 C.2.1 dL_law_2261 (lv_at hl 1 rfl) ?_
  rcases finR (fun r => Int32.toInt64 r) (by decide) hag hp with ⟨rfl, hk, X1, rfl, h1⟩ | ⟨hk0, hk, X1, rfl, h1⟩
  · refine lv_icmp_eq (tgt := 2268) C.1 C.2.1 dL_law_2263 (by decide) (fun _ => ?_) (fun hc => absurd hk hc)
    refine lv_iload C.1 C.2.1 dL_law_2268 (lv_at hl 1 rfl) ?_
    refine lv_if_ne (tgt := 2285) C.1 C.2.1 dL_law_2270 (by decide) (fun hc => absurd rfl hc) (fun _ => ?_)
    refine lv_aload_n C.1 C.2.1 dL_law_2273 rfl (lv_at hl 5 rfl) ?_
    refine lv_iconst (v := 0) C.1 C.2.1 dL_law_2274 (by decide) ?_
    refine g_lout C E hw dL_law_2275 ?_
    refine lv_iload C.1 C.2.1 dL_law_2276 (lv_at hl 0 rfl) ?_
    refine lv_i2l (v := Int32.toInt64 r) C.1 C.2.1 dL_law_2278 rfl ?_
    refine g_lcmp2 C rfl dL_law_2279 ?_
    refine lv_if_eq (tgt := 2285) C.1 C.2.1 dL_law_2280 (by decide) (fun _ => ?_) (fun hc => absurd rfl hc)
    refine lv_goto (tgt := 2491) C.1 C.2.1 dL_law_2285 (by decide) ?_
    refine W.widen (k := 30 + (j + 1) * 8) (n := 500 + (j + 1) * 48) (by (try dsimp only); omega) (by (try dsimp only); omega) ?_
    exact hn _ _ _ h1 _ _ _ hw (lv_sub hl [2, 3, 4, 5, 6] rfl)
  · refine lv_icmp_eq (tgt := 2268) C.1 C.2.1 dL_law_2263 (by decide) (fun _ => ?_) (fun hc => absurd hk hc)
    refine lv_iload C.1 C.2.1 dL_law_2268 (lv_at hl 1 rfl) ?_
    refine lv_if_ne (tgt := 2285) C.1 C.2.1 dL_law_2270 (by decide) (fun _ => ?_) (fun hc => absurd hc hk0)
    refine lv_goto (tgt := 2491) C.1 C.2.1 dL_law_2285 (by decide) ?_
    refine W.widen (k := 30 + (j + 1) * 8) (n := 500 + (j + 1) * 48) (by (try dsimp only); omega) (by (try dsimp only); omega) ?_
    exact hn _ _ _ h1 _ _ _ hw (lv_sub hl [2, 3, 4, 5, 6] rfl)
set_option maxHeartbeats 4000000 in
set_option maxRecDepth 100000 in
theorem law_38 {p : Program} {l : Launch} {e : Env} {s : State} {m : MethodId} {below : List Frame} {meth : Method} {c : Code} {b : Nat} (C : Ctx p s m #[Value.ref b] meth c cL_law 9 RL ret) {D : va_G} {cI cL : ClassId} {qx qm : Nat → Nat} {qo L : Nat} {xs : Nat → Int32} (E : gEL D cI cL s) (Z : gZ (va_A [] s.heap.size) s s.heap) (hT : l.stackTraces = false) (hX : va_X b L xs s s.heap) (hbl : b < s.heap.size) (hL : L ≤ 2048) (j : Nat) (hj : 4 * j + 4 ≤ L) {Q : State → Prop} {X M : St} {o : Nat → Int64} (h : Rel X M) (hn : ∀ (X M : St) (o : Nat → Int64), Rel X M → ∀ (H : Heap) (locs : List Loc) (ls : Array Slot), gW D [] (LW cI cL qx qm qo (X, o) M) s H locs → lv_has ls 9 [(0, .ref b), (1, .ref (qx 0)), (2, .ref (qm 0)), (3, .ref qo), (4, .int (nI (4 * j)))] → W p l e room_1 s m #[Value.ref b] below meth c H locs (30 + (j + 1) * 8) (500 + (j + 1) * 48) Q (F0 m 2491 ls [])) : ∀ (H : Heap) (locs : List Loc) (ls : Array Slot), gW D [] (LW cI cL qx qm qo (X, o) M) s H locs → lv_has ls 9 [(0, .ref b), (1, .ref (qx 0)), (2, .ref (qm 0)), (3, .ref qo), (4, .int (nI (4 * j)))] → W p l e room_1 s m #[Value.ref b] below meth c H locs (30 + j * 8) (500 + j * 48) Q (F0 m 2288 ls []) := by
  have hj5 : j ≤ 511 := by omega
  obtain ⟨R, r, M1, hf1, hf2, hag⟩ := op_matchesIfUnder (xs (4 * j + 1)) (xs (4 * j + 2)) (xs (4 * j + 3)) h
  intro H locs ls hw hl
  refine lv_aload_n C.1 C.2.1 dL_law_2288 rfl (lv_at hl 1 rfl) ?_
  refine lv_aload_n C.1 C.2.1 dL_law_2289 rfl (lv_at hl 0 rfl) ?_
  refine lv_iload C.1 C.2.1 dL_law_2290 (lv_at hl 4 rfl) ?_
  refine lv_iconst (v := 1) C.1 C.2.1 dL_law_2292 (by decide) ?_
  refine lv_iadd C.1 C.2.1 dL_law_2293 ?_
  refine g_sld C hX hbl hL hw (4 * j + 1) (sx1 (4 * j)) (by omega) dL_law_2294 ?_
  refine lv_aload_n C.1 C.2.1 dL_law_2295 rfl (lv_at hl 0 rfl) ?_
  refine lv_iload C.1 C.2.1 dL_law_2296 (lv_at hl 4 rfl) ?_
  refine lv_iconst (v := 2) C.1 C.2.1 dL_law_2298 (by decide) ?_
  refine lv_iadd C.1 C.2.1 dL_law_2299 ?_
  refine g_sld C hX hbl hL hw (4 * j + 2) (sx2 (4 * j)) (by omega) dL_law_2300 ?_
  refine lv_aload_n C.1 C.2.1 dL_law_2301 rfl (lv_at hl 0 rfl) ?_
  refine lv_iload C.1 C.2.1 dL_law_2302 (lv_at hl 4 rfl) ?_
  refine lv_iconst (v := 3) C.1 C.2.1 dL_law_2304 (by decide) ?_
  refine lv_iadd C.1 C.2.1 dL_law_2305 ?_
  refine g_sld C hX hbl hL hw (4 * j + 3) (sx3 (4 * j)) (by omega) dL_law_2306 ?_
  refine lv_aload_n C.1 C.2.1 dL_law_2307 rfl (lv_at hl 3 rfl) ?_
  refine g_lh (rest := []) (As := [.ref (qx 0), .int (xs (4 * j + 1)), .int (xs (4 * j + 2)), .int (xs (4 * j + 3)), .ref qo]) (rm := ({ frames := 9, cells := 5, slots := 30, locals := 156 } : Room)) C E Z hw FH_matchesIfUnder kz_L (ctL_matchesIfUnder l hT (cI := cI) (cL := cL) (D := D) (q := qx) (qo := qo) X o (xs (4 * j + 1)) (xs (4 * j + 2)) (xs (4 * j + 3)) _ hf1 (fun e S1 he => by simpa using agW_E hag e S1 he)) km_L_255 rfl hl.1 rfl (Nat.le_of_ble_eq_true rfl) ⟨(Nat.le_of_ble_eq_true rfl), (Nat.le_of_ble_eq_true rfl)⟩ ⟨by (try dsimp only [room_1]); omega, by (try dsimp only [room_1]); omega⟩ dL_law_2308 (fun k u hp H locs hw => ?_)
  refine lv_istore (lv' := [(5, .int k), (0, .ref b), (1, .ref (qx 0)), (2, .ref (qm 0)), (3, .ref qo), (4, .int (nI (4 * j)))]) C.1 C.2.1 dL_law_2311 hl (by decide) rfl (fun ls hl => ?_)
  refine lv_aload_n C.1 C.2.1 dL_law_2313 rfl (lv_at hl 3 rfl) ?_
  refine lv_aload_n C.1 C.2.1 dL_law_2314 rfl (lv_at hl 1 rfl) ?_
  refine lv_iload C.1 C.2.1 dL_law_2315 (lv_at hl 5 rfl) ?_
  refine lv_iconst (v := 1) C.1 C.2.1 dL_law_2317 (by decide) ?_
  refine lv_iadd C.1 C.2.1 dL_law_2318 ?_
  refine g_sld C hX hbl hL hw (4 * j + 1) (sx1 (4 * j)) (by omega) dL_law_2319 ?_
  refine lv_aload_n C.1 C.2.1 dL_law_2320 rfl (lv_at hl 1 rfl) ?_
  refine lv_iload C.1 C.2.1 dL_law_2321 (lv_at hl 5 rfl) ?_
  refine lv_iconst (v := 2) C.1 C.2.1 dL_law_2323 (by decide) ?_
  refine lv_iadd C.1 C.2.1 dL_law_2324 ?_
  refine g_sld C hX hbl hL hw (4 * j + 2) (sx2 (4 * j)) (by omega) dL_law_2325 ?_
  refine lv_aload_n C.1 C.2.1 dL_law_2326 rfl (lv_at hl 1 rfl) ?_
  refine lv_iload C.1 C.2.1 dL_law_2327 (lv_at hl 5 rfl) ?_
  refine lv_iconst (v := 3) C.1 C.2.1 dL_law_2329 (by decide) ?_
  refine lv_iadd C.1 C.2.1 dL_law_2330 ?_
  refine g_sld C hX hbl hL hw (4 * j + 3) (sx3 (4 * j)) (by omega) dL_law_2331 ?_
  refine g_lmi (rest := []) hw (g_runV (rm := ({ frames := 3, cells := 0, slots := 0, locals := 69 } : Room)) (As := [.int (xs (4 * j + 1)), .int (xs (4 * j + 2)), .int (xs (4 * j + 3))]) (rest := []) C E.E (gW_sub1 (LW_m hw)) F_X4_matchesIfUnder (ctX4_matchesIfUnder l (cI := cI) (D := D) (q := qm) M (xs (4 * j + 1)) (xs (4 * j + 2)) (xs (4 * j + 3)) _ hf2) km_L_258 0 rfl rfl rfl hl.1 rfl (Nat.le_of_ble_eq_true rfl) ⟨(Nat.le_of_ble_eq_true rfl), (Nat.le_of_ble_eq_true rfl)⟩ ⟨by (try dsimp only [room_1]); omega, by (try dsimp only [room_1]); omega⟩ dL_law_2332) (fun H locs hw => ?_)
  refine lv_istore (lv' := [(6, .int r), (5, .int k), (0, .ref b), (1, .ref (qx 0)), (2, .ref (qm 0)), (3, .ref qo), (4, .int (nI (4 * j)))]) C.1 C.2.1 dL_law_2335 hl (by decide) rfl (fun ls hl => ?_)
  refine lv_aload_n C.1 C.2.1 dL_law_2337 rfl (lv_at hl 4 rfl) ?_
  refine g_lmi (rest := []) hw (g_runV (rm := ({ frames := 0, cells := 0, slots := 0, locals := 0 } : Room)) (As := []) (rest := []) C E.E (gW_sub1 (LW_m hw)) F_X4_thrown (ctX4_thrown l (cI := cI) (D := D) (q := qm) M1 _ (r1 := M1 10 0) rfl) km_L_133 0 rfl rfl rfl hl.1 rfl (Nat.le_of_ble_eq_true rfl) ⟨(Nat.le_of_ble_eq_true rfl), (Nat.le_of_ble_eq_true rfl)⟩ ⟨by (try dsimp only [room_1]); omega, by (try dsimp only [room_1]); omega⟩ dL_law_2338) (fun H locs hw => ?_)
  refine lv_iload C.1 C.2.1 dL_law_2341 (lv_at hl 1 rfl) ?_
  rcases finW (fun r => Int32.toInt64 r) (by decide) hag hp with ⟨rfl, hk, X1, rfl, h1⟩ | ⟨hk0, hk, X1, rfl, h1⟩
  · refine lv_icmp_eq (tgt := 2348) C.1 C.2.1 dL_law_2343 (by decide) (fun _ => ?_) (fun hc => absurd hk hc)
    refine lv_iload C.1 C.2.1 dL_law_2348 (lv_at hl 1 rfl) ?_
    refine lv_if_ne (tgt := 2365) C.1 C.2.1 dL_law_2350 (by decide) (fun hc => absurd rfl hc) (fun _ => ?_)
    refine lv_aload_n C.1 C.2.1 dL_law_2353 rfl (lv_at hl 5 rfl) ?_
    refine lv_iconst (v := 0) C.1 C.2.1 dL_law_2354 (by decide) ?_
    refine g_lout C E hw dL_law_2355 ?_
    refine lv_iload C.1 C.2.1 dL_law_2356 (lv_at hl 0 rfl) ?_
    refine lv_i2l (v := Int32.toInt64 r) C.1 C.2.1 dL_law_2358 rfl ?_
    refine g_lcmp2 C rfl dL_law_2359 ?_
    refine lv_if_eq (tgt := 2365) C.1 C.2.1 dL_law_2360 (by decide) (fun _ => ?_) (fun hc => absurd rfl hc)
    refine lv_goto (tgt := 2491) C.1 C.2.1 dL_law_2365 (by decide) ?_
    refine W.widen (k := 30 + (j + 1) * 8) (n := 500 + (j + 1) * 48) (by (try dsimp only); omega) (by (try dsimp only); omega) ?_
    exact hn _ _ _ h1 _ _ _ hw (lv_sub hl [2, 3, 4, 5, 6] rfl)
  · refine lv_icmp_eq (tgt := 2348) C.1 C.2.1 dL_law_2343 (by decide) (fun _ => ?_) (fun hc => absurd hk hc)
    refine lv_iload C.1 C.2.1 dL_law_2348 (lv_at hl 1 rfl) ?_
    refine lv_if_ne (tgt := 2365) C.1 C.2.1 dL_law_2350 (by decide) (fun _ => ?_) (fun hc => absurd hc hk0)
    refine lv_goto (tgt := 2491) C.1 C.2.1 dL_law_2365 (by decide) ?_
    refine W.widen (k := 30 + (j + 1) * 8) (n := 500 + (j + 1) * 48) (by (try dsimp only); omega) (by (try dsimp only); omega) ?_
    exact hn _ _ _ h1 _ _ _ hw (lv_sub hl [2, 3, 4, 5, 6] rfl)
set_option maxHeartbeats 4000000 in
set_option maxRecDepth 100000 in
theorem law_39 {p : Program} {l : Launch} {e : Env} {s : State} {m : MethodId} {below : List Frame} {meth : Method} {c : Code} {b : Nat} (C : Ctx p s m #[Value.ref b] meth c cL_law 9 RL ret) {D : va_G} {cI cL : ClassId} {qx qm : Nat → Nat} {qo L : Nat} {xs : Nat → Int32} (E : gEL D cI cL s) (Z : gZ (va_A [] s.heap.size) s s.heap) (hT : l.stackTraces = false) (hX : va_X b L xs s s.heap) (hbl : b < s.heap.size) (hL : L ≤ 2048) (j : Nat) (hj : 4 * j + 4 ≤ L) {Q : State → Prop} {X M : St} {o : Nat → Int64} (h : Rel X M) (hn : ∀ (X M : St) (o : Nat → Int64), Rel X M → ∀ (H : Heap) (locs : List Loc) (ls : Array Slot), gW D [] (LW cI cL qx qm qo (X, o) M) s H locs → lv_has ls 9 [(0, .ref b), (1, .ref (qx 0)), (2, .ref (qm 0)), (3, .ref qo), (4, .int (nI (4 * j)))] → W p l e room_1 s m #[Value.ref b] below meth c H locs (30 + (j + 1) * 8) (500 + (j + 1) * 48) Q (F0 m 2491 ls [])) : ∀ (H : Heap) (locs : List Loc) (ls : Array Slot), gW D [] (LW cI cL qx qm qo (X, o) M) s H locs → lv_has ls 9 [(0, .ref b), (1, .ref (qx 0)), (2, .ref (qm 0)), (3, .ref qo), (4, .int (nI (4 * j)))] → W p l e room_1 s m #[Value.ref b] below meth c H locs (30 + j * 8) (500 + j * 48) Q (F0 m 2368 ls []) := by
  have hj5 : j ≤ 511 := by omega
  obtain ⟨R, r, M1, hf1, hf2, hag⟩ := op_bestParent (xs (4 * j + 1)) (xs (4 * j + 2)) h
  intro H locs ls hw hl
  refine lv_aload_n C.1 C.2.1 dL_law_2368 rfl (lv_at hl 1 rfl) ?_
  refine lv_aload_n C.1 C.2.1 dL_law_2369 rfl (lv_at hl 0 rfl) ?_
  refine lv_iload C.1 C.2.1 dL_law_2370 (lv_at hl 4 rfl) ?_
  refine lv_iconst (v := 1) C.1 C.2.1 dL_law_2372 (by decide) ?_
  refine lv_iadd C.1 C.2.1 dL_law_2373 ?_
  refine g_sld C hX hbl hL hw (4 * j + 1) (sx1 (4 * j)) (by omega) dL_law_2374 ?_
  refine lv_aload_n C.1 C.2.1 dL_law_2375 rfl (lv_at hl 0 rfl) ?_
  refine lv_iload C.1 C.2.1 dL_law_2376 (lv_at hl 4 rfl) ?_
  refine lv_iconst (v := 2) C.1 C.2.1 dL_law_2378 (by decide) ?_
  refine lv_iadd C.1 C.2.1 dL_law_2379 ?_
  refine g_sld C hX hbl hL hw (4 * j + 2) (sx2 (4 * j)) (by omega) dL_law_2380 ?_
  refine lv_aload_n C.1 C.2.1 dL_law_2381 rfl (lv_at hl 3 rfl) ?_
  refine g_lh (rest := []) (As := [.ref (qx 0), .int (xs (4 * j + 1)), .int (xs (4 * j + 2)), .ref qo]) (rm := ({ frames := 8, cells := 2, slots := 12, locals := 141 } : Room)) C E Z hw FH_bestParent kz_L (ctL_bestParent l hT (cI := cI) (cL := cL) (D := D) (q := qx) (qo := qo) X o (xs (4 * j + 1)) (xs (4 * j + 2)) _ hf1 (fun e S1 he => by simpa using agW_E hag e S1 he)) km_L_259 rfl hl.1 rfl (Nat.le_of_ble_eq_true rfl) ⟨(Nat.le_of_ble_eq_true rfl), (Nat.le_of_ble_eq_true rfl)⟩ ⟨by (try dsimp only [room_1]); omega, by (try dsimp only [room_1]); omega⟩ dL_law_2382 (fun k u hp H locs hw => ?_)
  refine lv_istore (lv' := [(5, .int k), (0, .ref b), (1, .ref (qx 0)), (2, .ref (qm 0)), (3, .ref qo), (4, .int (nI (4 * j)))]) C.1 C.2.1 dL_law_2385 hl (by decide) rfl (fun ls hl => ?_)
  refine lv_aload_n C.1 C.2.1 dL_law_2387 rfl (lv_at hl 3 rfl) ?_
  refine lv_aload_n C.1 C.2.1 dL_law_2388 rfl (lv_at hl 1 rfl) ?_
  refine lv_iload C.1 C.2.1 dL_law_2389 (lv_at hl 5 rfl) ?_
  refine lv_iconst (v := 1) C.1 C.2.1 dL_law_2391 (by decide) ?_
  refine lv_iadd C.1 C.2.1 dL_law_2392 ?_
  refine g_sld C hX hbl hL hw (4 * j + 1) (sx1 (4 * j)) (by omega) dL_law_2393 ?_
  refine lv_aload_n C.1 C.2.1 dL_law_2394 rfl (lv_at hl 1 rfl) ?_
  refine lv_iload C.1 C.2.1 dL_law_2395 (lv_at hl 5 rfl) ?_
  refine lv_iconst (v := 2) C.1 C.2.1 dL_law_2397 (by decide) ?_
  refine lv_iadd C.1 C.2.1 dL_law_2398 ?_
  refine g_sld C hX hbl hL hw (4 * j + 2) (sx2 (4 * j)) (by omega) dL_law_2399 ?_
  refine g_lmi (rest := []) hw (g_runV (rm := ({ frames := 3, cells := 0, slots := 0, locals := 69 } : Room)) (As := [.int (xs (4 * j + 1)), .int (xs (4 * j + 2))]) (rest := []) C E.E (gW_sub1 (LW_m hw)) F_X4_bestParent (ctX4_bestParent l (cI := cI) (D := D) (q := qm) M (xs (4 * j + 1)) (xs (4 * j + 2)) _ hf2) km_L_261 0 rfl rfl rfl hl.1 rfl (Nat.le_of_ble_eq_true rfl) ⟨(Nat.le_of_ble_eq_true rfl), (Nat.le_of_ble_eq_true rfl)⟩ ⟨by (try dsimp only [room_1]); omega, by (try dsimp only [room_1]); omega⟩ dL_law_2400) (fun H locs hw => ?_)
  refine lv_istore (lv' := [(6, .int r), (5, .int k), (0, .ref b), (1, .ref (qx 0)), (2, .ref (qm 0)), (3, .ref qo), (4, .int (nI (4 * j)))]) C.1 C.2.1 dL_law_2403 hl (by decide) rfl (fun ls hl => ?_)
  refine lv_aload_n C.1 C.2.1 dL_law_2405 rfl (lv_at hl 4 rfl) ?_
  refine g_lmi (rest := []) hw (g_runV (rm := ({ frames := 0, cells := 0, slots := 0, locals := 0 } : Room)) (As := []) (rest := []) C E.E (gW_sub1 (LW_m hw)) F_X4_thrown (ctX4_thrown l (cI := cI) (D := D) (q := qm) M1 _ (r1 := M1 10 0) rfl) km_L_133 0 rfl rfl rfl hl.1 rfl (Nat.le_of_ble_eq_true rfl) ⟨(Nat.le_of_ble_eq_true rfl), (Nat.le_of_ble_eq_true rfl)⟩ ⟨by (try dsimp only [room_1]); omega, by (try dsimp only [room_1]); omega⟩ dL_law_2406) (fun H locs hw => ?_)
  refine lv_iload C.1 C.2.1 dL_law_2409 (lv_at hl 1 rfl) ?_
  rcases finW (fun r => Int32.toInt64 r) (by decide) hag hp with ⟨rfl, hk, X1, rfl, h1⟩ | ⟨hk0, hk, X1, rfl, h1⟩
  · refine lv_icmp_eq (tgt := 2416) C.1 C.2.1 dL_law_2411 (by decide) (fun _ => ?_) (fun hc => absurd hk hc)
    refine lv_iload C.1 C.2.1 dL_law_2416 (lv_at hl 1 rfl) ?_
    refine lv_if_ne (tgt := 2433) C.1 C.2.1 dL_law_2418 (by decide) (fun hc => absurd rfl hc) (fun _ => ?_)
    refine lv_aload_n C.1 C.2.1 dL_law_2421 rfl (lv_at hl 5 rfl) ?_
    refine lv_iconst (v := 0) C.1 C.2.1 dL_law_2422 (by decide) ?_
    refine g_lout C E hw dL_law_2423 ?_
    refine lv_iload C.1 C.2.1 dL_law_2424 (lv_at hl 0 rfl) ?_
    refine lv_i2l (v := Int32.toInt64 r) C.1 C.2.1 dL_law_2426 rfl ?_
    refine g_lcmp2 C rfl dL_law_2427 ?_
    refine lv_if_eq (tgt := 2433) C.1 C.2.1 dL_law_2428 (by decide) (fun _ => ?_) (fun hc => absurd rfl hc)
    refine lv_goto (tgt := 2491) C.1 C.2.1 dL_law_2433 (by decide) ?_
    refine W.widen (k := 30 + (j + 1) * 8) (n := 500 + (j + 1) * 48) (by (try dsimp only); omega) (by (try dsimp only); omega) ?_
    exact hn _ _ _ h1 _ _ _ hw (lv_sub hl [2, 3, 4, 5, 6] rfl)
  · refine lv_icmp_eq (tgt := 2416) C.1 C.2.1 dL_law_2411 (by decide) (fun _ => ?_) (fun hc => absurd hk hc)
    refine lv_iload C.1 C.2.1 dL_law_2416 (lv_at hl 1 rfl) ?_
    refine lv_if_ne (tgt := 2433) C.1 C.2.1 dL_law_2418 (by decide) (fun _ => ?_) (fun hc => absurd hc hk0)
    refine lv_goto (tgt := 2491) C.1 C.2.1 dL_law_2433 (by decide) ?_
    refine W.widen (k := 30 + (j + 1) * 8) (n := 500 + (j + 1) * 48) (by (try dsimp only); omega) (by (try dsimp only); omega) ?_
    exact hn _ _ _ h1 _ _ _ hw (lv_sub hl [2, 3, 4, 5, 6] rfl)
set_option maxHeartbeats 4000000 in
set_option maxRecDepth 100000 in
theorem law_40 {p : Program} {l : Launch} {e : Env} {s : State} {m : MethodId} {below : List Frame} {meth : Method} {c : Code} {b : Nat} (C : Ctx p s m #[Value.ref b] meth c cL_law 9 RL ret) {D : va_G} {cI cL : ClassId} {qx qm : Nat → Nat} {qo L : Nat} {xs : Nat → Int32} (E : gEL D cI cL s) (Z : gZ (va_A [] s.heap.size) s s.heap) (hT : l.stackTraces = false) (hX : va_X b L xs s s.heap) (hbl : b < s.heap.size) (hL : L ≤ 2048) (j : Nat) (hj : 4 * j + 4 ≤ L) {Q : State → Prop} {X M : St} {o : Nat → Int64} (h : Rel X M) (hn : ∀ (X M : St) (o : Nat → Int64), Rel X M → ∀ (H : Heap) (locs : List Loc) (ls : Array Slot), gW D [] (LW cI cL qx qm qo (X, o) M) s H locs → lv_has ls 9 [(0, .ref b), (1, .ref (qx 0)), (2, .ref (qm 0)), (3, .ref qo), (4, .int (nI (4 * j)))] → W p l e room_1 s m #[Value.ref b] below meth c H locs (30 + (j + 1) * 8) (500 + (j + 1) * 48) Q (F0 m 2491 ls [])) : ∀ (H : Heap) (locs : List Loc) (ls : Array Slot), gW D [] (LW cI cL qx qm qo (X, o) M) s H locs → lv_has ls 9 [(0, .ref b), (1, .ref (qx 0)), (2, .ref (qm 0)), (3, .ref qo), (4, .int (nI (4 * j)))] → W p l e room_1 s m #[Value.ref b] below meth c H locs (30 + j * 8) (500 + j * 48) Q (F0 m 2436 ls []) := by
  have hj5 : j ≤ 511 := by omega
  obtain ⟨r, M1, hf1, hf2, h1, hr⟩ := op_meanVividness h
  intro H locs ls hw hl
  refine lv_aload_n C.1 C.2.1 dL_law_2436 rfl (lv_at hl 1 rfl) ?_
  refine g_lxd (rest := []) hw (g_runV (rm := ({ frames := 0, cells := 0, slots := 0, locals := 0 } : Room)) (As := []) (rest := []) C E.E (gW_sub1 (LW_x hw)) F_X3_meanVividness (ctX3_meanVividness l (cI := cI) (D := D) (q := qx) X _ hf1) km_L_262 0 rfl rfl rfl hl.1 rfl (Nat.le_of_ble_eq_true rfl) ⟨(Nat.le_of_ble_eq_true rfl), (Nat.le_of_ble_eq_true rfl)⟩ ⟨by (try dsimp only [room_1]); omega, by (try dsimp only [room_1]); omega⟩ dL_law_2437) (fun H locs hw => ?_)
  refine lv_dstore (lv' := [(5, .double r), (0, .ref b), (1, .ref (qx 0)), (2, .ref (qm 0)), (3, .ref qo), (4, .int (nI (4 * j)))]) C.1 C.2.1 dL_law_2440 hl (by decide) rfl (fun ls hl => ?_)
  refine lv_aload_n C.1 C.2.1 dL_law_2442 rfl (lv_at hl 3 rfl) ?_
  refine g_lmd (rest := []) hw (g_runV (rm := ({ frames := 0, cells := 0, slots := 0, locals := 0 } : Room)) (As := []) (rest := []) C E.E (gW_sub1 (LW_m hw)) F_X4_meanVividness (ctX4_meanVividness l (cI := cI) (D := D) (q := qm) M _ hf2) km_L_266 0 rfl rfl rfl hl.1 rfl (Nat.le_of_ble_eq_true rfl) ⟨(Nat.le_of_ble_eq_true rfl), (Nat.le_of_ble_eq_true rfl)⟩ ⟨by (try dsimp only [room_1]); omega, by (try dsimp only [room_1]); omega⟩ dL_law_2443) (fun H locs hw => ?_)
  refine lv_dstore (lv' := [(7, .double r), (5, .double r), (0, .ref b), (1, .ref (qx 0)), (2, .ref (qm 0)), (3, .ref qo), (4, .int (nI (4 * j)))]) C.1 C.2.1 dL_law_2446 hl (by decide) rfl (fun ls hl => ?_)
  refine lv_dload C.1 C.2.1 dL_law_2448 (lv_at hl 1 rfl) ?_
  refine lv_dload C.1 C.2.1 dL_law_2450 (lv_at hl 0 rfl) ?_
  refine g_dcmp C hr dL_law_2452 ?_
  refine lv_if_eq (tgt := 2474) C.1 C.2.1 dL_law_2453 (by decide) (fun _ => ?_) (fun hc => absurd rfl hc)
  refine lv_goto (tgt := 2491) C.1 C.2.1 dL_law_2474 (by decide) ?_
  refine W.widen (k := 30 + (j + 1) * 8) (n := 500 + (j + 1) * 48) (by (try dsimp only); omega) (by (try dsimp only); omega) ?_
  exact hn _ _ _ h1 _ _ _ hw (lv_sub hl [2, 3, 4, 5, 6] rfl)
set_option maxHeartbeats 4000000 in
set_option maxRecDepth 100000 in
theorem law_41 {p : Program} {l : Launch} {e : Env} {s : State} {m : MethodId} {below : List Frame} {meth : Method} {c : Code} {b : Nat} (C : Ctx p s m #[Value.ref b] meth c cL_law 9 RL ret) {D : va_G} {cI cL : ClassId} {qx qm : Nat → Nat} {qo L : Nat} {xs : Nat → Int32} (E : gEL D cI cL s) (Z : gZ (va_A [] s.heap.size) s s.heap) (hT : l.stackTraces = false) (hX : va_X b L xs s s.heap) (hbl : b < s.heap.size) (hL : L ≤ 2048) (j : Nat) (hj : 4 * j + 4 ≤ L) {Q : State → Prop} {X M : St} {o : Nat → Int64} (h : Rel X M) (hn : ∀ (X M : St) (o : Nat → Int64), Rel X M → ∀ (H : Heap) (locs : List Loc) (ls : Array Slot), gW D [] (LW cI cL qx qm qo (X, o) M) s H locs → lv_has ls 9 [(0, .ref b), (1, .ref (qx 0)), (2, .ref (qm 0)), (3, .ref qo), (4, .int (nI (4 * j)))] → W p l e room_1 s m #[Value.ref b] below meth c H locs (30 + (j + 1) * 8) (500 + (j + 1) * 48) Q (F0 m 2491 ls [])) : ∀ (H : Heap) (locs : List Loc) (ls : Array Slot), gW D [] (LW cI cL qx qm qo (X, o) M) s H locs → lv_has ls 9 [(0, .ref b), (1, .ref (qx 0)), (2, .ref (qm 0)), (3, .ref qo), (4, .int (nI (4 * j)))] → W p l e room_1 s m #[Value.ref b] below meth c H locs (30 + j * 8) (500 + j * 48) Q (F0 m 2477 ls []) := by
  have hj5 : j ≤ 511 := by omega
  obtain ⟨r, X1, M1, hf1, hf2, h1⟩ := op_digest h
  intro H locs ls hw hl
  refine lv_aload_n C.1 C.2.1 dL_law_2477 rfl (lv_at hl 1 rfl) ?_
  refine g_lxl (rest := []) hw (g_runV (rm := ({ frames := 24, cells := 0, slots := 0, locals := 900 } : Room)) (As := []) (rest := []) C E.E (gW_sub1 (LW_x hw)) F_X3_digest (ctX3_digest l (cI := cI) (D := D) (q := qx) X _ hf1) km_L_267 0 rfl rfl rfl hl.1 rfl (Nat.le_of_ble_eq_true rfl) ⟨(Nat.le_of_ble_eq_true rfl), (Nat.le_of_ble_eq_true rfl)⟩ ⟨by (try dsimp only [room_1]); omega, by (try dsimp only [room_1]); omega⟩ dL_law_2478) (fun H locs hw => ?_)
  refine lv_aload_n C.1 C.2.1 dL_law_2481 rfl (lv_at hl 2 rfl) ?_
  refine g_lml (rest := [.long r]) hw (g_runV (rm := ({ frames := 24, cells := 1, slots := 5, locals := 891 } : Room)) (As := []) (rest := [.long r]) C E.E (gW_sub1 (LW_m hw)) F_X4_digest (ctX4_digest l (cI := cI) (D := D) (q := qm) M _ hf2) km_L_271 0 rfl rfl rfl hl.1 rfl (Nat.le_of_ble_eq_true rfl) ⟨(Nat.le_of_ble_eq_true rfl), (Nat.le_of_ble_eq_true rfl)⟩ ⟨by (try dsimp only [room_1]); omega, by (try dsimp only [room_1]); omega⟩ dL_law_2482) (fun H locs hw => ?_)
  refine g_lcmp C dL_law_2485 ?_
  refine lv_if_eq (tgt := 2491) C.1 C.2.1 dL_law_2486 (by decide) (fun _ => ?_) (fun hc => absurd rfl hc)
  refine W.widen (k := 30 + (j + 1) * 8) (n := 500 + (j + 1) * 48) (by (try dsimp only); omega) (by (try dsimp only); omega) ?_
  exact hn _ _ _ h1 _ _ _ hw (lv_sub hl [0, 1, 2, 3, 4] rfl)
