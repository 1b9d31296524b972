/-! ===== THE LAW: its cases ===== -/
theorem in_k {L i : Nat} (k : Nat) (hk : k < 6) (h : i + 6 ≤ L) (hL : L ≤ 3072) : vp_in (nI i + nI k) L := by
  rw [nI_add]; exact vp_in_nI (by omega) (by omega)
def Sp_append (Inv : St → St → Prop) : Prop := ∀ (qk qm : St) (v1 v2 v3 v4 v5 : Int32), Inv qk qm → ∃ (z : Int32) (qk2 : St) (qm2 : St), K_append qk v1 v2 v3 v4 v5 = some (z, qk2) ∧ M_append qm v1 v2 v3 v4 v5 = some (z, qm2) ∧ Inv qk2 qm2
theorem lc_append {X : Lv} (C : Lx X) {i : Nat} (hi : i + 6 ≤ lL X) (hL : lL X ≤ 3072) {Inv : St → St → Prop} (hs : Sp_append Inv) {qk qm : St} (hI : Inv qk qm) (hn : ∀ qk qm : St, Inv qk qm → Lt X 1521 [(0, .ref (lb X)), (1, .ref (lad X 0)), (2, .ref (lam X 0)), (3, .int (nI i))] [] qk qm) : Lt X 252 [(0, .ref (lb X)), (1, .ref (lad X 0)), (2, .ref (lam X 0)), (3, .int (nI i))] [] qk qm := by
  refine l_aload C 1 rfl rfl dL_law_252 ?_
  refine l_aload C 0 rfl rfl dL_law_253 ?_
  refine l_iload C 3 rfl rfl dL_law_254 ?_
  refine l_iconst (v := 1) C (by decide) dL_law_255 ?_
  refine l_iadd C dL_law_256 ?_
  refine l_sld C (in_k 1 (by decide) hi hL) dL_law_257 ?_
  refine l_aload C 0 rfl rfl dL_law_258 ?_
  refine l_iload C 3 rfl rfl dL_law_259 ?_
  refine l_iconst (v := 2) C (by decide) dL_law_260 ?_
  refine l_iadd C dL_law_261 ?_
  refine l_sld C (in_k 2 (by decide) hi hL) dL_law_262 ?_
  refine l_aload C 0 rfl rfl dL_law_263 ?_
  refine l_iload C 3 rfl rfl dL_law_264 ?_
  refine l_iconst (v := 3) C (by decide) dL_law_265 ?_
  refine l_iadd C dL_law_266 ?_
  refine l_sld C (in_k 3 (by decide) hi hL) dL_law_267 ?_
  refine l_aload C 0 rfl rfl dL_law_268 ?_
  refine l_iload C 3 rfl rfl dL_law_269 ?_
  refine l_iconst (v := 4) C (by decide) dL_law_270 ?_
  refine l_iadd C dL_law_271 ?_
  refine l_sld C (in_k 4 (by decide) hi hL) dL_law_272 ?_
  refine l_aload C 0 rfl rfl dL_law_273 ?_
  refine l_iload C 3 rfl rfl dL_law_274 ?_
  refine l_iconst (v := 5) C (by decide) dL_law_275 ?_
  refine l_iadd C dL_law_276 ?_
  refine l_sld C (in_k 5 (by decide) hi hL) dL_law_277 ?_
  obtain ⟨z, qk2, qm2, hk, hm, hI2⟩ := hs qk qm (lxs X (nI i + nI 1).toNatClampNeg) (lxs X (nI i + nI 2).toNatClampNeg) (lxs X (nI i + nI 3).toNatClampNeg) (lxs X (nI i + nI 4).toNatClampNeg) (lxs X (nI i + nI 5).toNatClampNeg) hI
  refine l_callK (as := [.int (lxs X (nI i + nI 1).toNatClampNeg), .int (lxs X (nI i + nI 2).toNatClampNeg), .int (lxs X (nI i + nI 3).toNatClampNeg), .int (lxs X (nI i + nI 4).toNatClampNeg), .int (lxs X (nI i + nI 5).toNatClampNeg)]) C (c_K_append hk) rfl (gd_V (tg 540 (by decide +kernel) rfl) (tg 541 (by decide +kernel) rfl) (tg 542 (by decide +kernel) rfl) (tg 115 (by decide +kernel) rfl) (tg 543 (by decide +kernel) rfl)) ⟨rfl, rfl, Nat.le_of_ble_eq_true rfl, Nat.le_of_ble_eq_true rfl⟩ (by show Option.map _ (parseMethodDescriptor yX10_append.desc) = some 5; decide +kernel) (Nat.le_of_ble_eq_true rfl) rfl dL_law_278 ?_
  refine l_aload C 2 rfl rfl dL_law_281 ?_
  refine l_aload C 0 rfl rfl dL_law_282 ?_
  refine l_iload C 3 rfl rfl dL_law_283 ?_
  refine l_iconst (v := 1) C (by decide) dL_law_284 ?_
  refine l_iadd C dL_law_285 ?_
  refine l_sld C (in_k 1 (by decide) hi hL) dL_law_286 ?_
  refine l_aload C 0 rfl rfl dL_law_287 ?_
  refine l_iload C 3 rfl rfl dL_law_288 ?_
  refine l_iconst (v := 2) C (by decide) dL_law_289 ?_
  refine l_iadd C dL_law_290 ?_
  refine l_sld C (in_k 2 (by decide) hi hL) dL_law_291 ?_
  refine l_aload C 0 rfl rfl dL_law_292 ?_
  refine l_iload C 3 rfl rfl dL_law_293 ?_
  refine l_iconst (v := 3) C (by decide) dL_law_294 ?_
  refine l_iadd C dL_law_295 ?_
  refine l_sld C (in_k 3 (by decide) hi hL) dL_law_296 ?_
  refine l_aload C 0 rfl rfl dL_law_297 ?_
  refine l_iload C 3 rfl rfl dL_law_298 ?_
  refine l_iconst (v := 4) C (by decide) dL_law_299 ?_
  refine l_iadd C dL_law_300 ?_
  refine l_sld C (in_k 4 (by decide) hi hL) dL_law_301 ?_
  refine l_aload C 0 rfl rfl dL_law_302 ?_
  refine l_iload C 3 rfl rfl dL_law_303 ?_
  refine l_iconst (v := 5) C (by decide) dL_law_304 ?_
  refine l_iadd C dL_law_305 ?_
  refine l_sld C (in_k 5 (by decide) hi hL) dL_law_306 ?_
  refine l_callM (as := [.int (lxs X (nI i + nI 1).toNatClampNeg), .int (lxs X (nI i + nI 2).toNatClampNeg), .int (lxs X (nI i + nI 3).toNatClampNeg), .int (lxs X (nI i + nI 4).toNatClampNeg), .int (lxs X (nI i + nI 5).toNatClampNeg)]) C (c_M_append hm) rfl (gd_V (tg 1316 (by decide +kernel) rfl) (tg 1317 (by decide +kernel) rfl) (tg 1318 (by decide +kernel) rfl) (tg 128 (by decide +kernel) rfl) (tg 1319 (by decide +kernel) rfl)) ⟨rfl, rfl, Nat.le_of_ble_eq_true rfl, Nat.le_of_ble_eq_true rfl⟩ (by show Option.map _ (parseMethodDescriptor yX11_append.desc) = some 5; decide +kernel) (Nat.le_of_ble_eq_true rfl) rfl dL_law_307 ?_
  exact l_icmp_eq C 1521 (by decide) dL_law_310 (fun _ => hn _ _ hI2) (fun h => absurd rfl h)
def Sp_truncate (Inv : St → St → Prop) : Prop := ∀ (qk qm : St) (v1 : Int32), Inv qk qm → ∃ (z : Int32) (qk2 : St) (qm2 : St), K_truncate qk v1 = some (z, qk2) ∧ M_truncate qm v1 = some (z, qm2) ∧ Inv qk2 qm2
theorem lc_truncate {X : Lv} (C : Lx X) {i : Nat} (hi : i + 6 ≤ lL X) (hL : lL X ≤ 3072) {Inv : St → St → Prop} (hs : Sp_truncate Inv) {qk qm : St} (hI : Inv qk qm) (hn : ∀ qk qm : St, Inv qk qm → Lt X 1521 [(0, .ref (lb X)), (1, .ref (lad X 0)), (2, .ref (lam X 0)), (3, .int (nI i))] [] qk qm) : Lt X 315 [(0, .ref (lb X)), (1, .ref (lad X 0)), (2, .ref (lam X 0)), (3, .int (nI i))] [] qk qm := by
  refine l_aload C 1 rfl rfl dL_law_315 ?_
  refine l_aload C 0 rfl rfl dL_law_316 ?_
  refine l_iload C 3 rfl rfl dL_law_317 ?_
  refine l_iconst (v := 1) C (by decide) dL_law_318 ?_
  refine l_iadd C dL_law_319 ?_
  refine l_sld C (in_k 1 (by decide) hi hL) dL_law_320 ?_
  obtain ⟨z, qk2, qm2, hk, hm, hI2⟩ := hs qk qm (lxs X (nI i + nI 1).toNatClampNeg) hI
  refine l_callK (as := [.int (lxs X (nI i + nI 1).toNatClampNeg)]) C (c_K_truncate hk) rfl (gd_V (tg 548 (by decide +kernel) rfl) (tg 549 (by decide +kernel) rfl) (tg 550 (by decide +kernel) rfl) (tg 115 (by decide +kernel) rfl) (tg 551 (by decide +kernel) rfl)) ⟨rfl, rfl, Nat.le_of_ble_eq_true rfl, Nat.le_of_ble_eq_true rfl⟩ (by show Option.map _ (parseMethodDescriptor yX10_truncate.desc) = some 1; decide +kernel) (Nat.le_of_ble_eq_true rfl) rfl dL_law_321 ?_
  refine l_aload C 2 rfl rfl dL_law_324 ?_
  refine l_aload C 0 rfl rfl dL_law_325 ?_
  refine l_iload C 3 rfl rfl dL_law_326 ?_
  refine l_iconst (v := 1) C (by decide) dL_law_327 ?_
  refine l_iadd C dL_law_328 ?_
  refine l_sld C (in_k 1 (by decide) hi hL) dL_law_329 ?_
  refine l_callM (as := [.int (lxs X (nI i + nI 1).toNatClampNeg)]) C (c_M_truncate hm) rfl (gd_V (tg 1324 (by decide +kernel) rfl) (tg 1325 (by decide +kernel) rfl) (tg 1326 (by decide +kernel) rfl) (tg 128 (by decide +kernel) rfl) (tg 1327 (by decide +kernel) rfl)) ⟨rfl, rfl, Nat.le_of_ble_eq_true rfl, Nat.le_of_ble_eq_true rfl⟩ (by show Option.map _ (parseMethodDescriptor yX11_truncate.desc) = some 1; decide +kernel) (Nat.le_of_ble_eq_true rfl) rfl dL_law_330 ?_
  exact l_icmp_eq C 1521 (by decide) dL_law_333 (fun _ => hn _ _ hI2) (fun h => absurd rfl h)
def Sp_load (Inv : St → St → Prop) : Prop := ∀ (qk qm : St), Inv qk qm → ∃ (z : Int32) (qk2 : St) (qm2 : St), K_load qk = some (z, qk2) ∧ M_load qm = some (z, qm2) ∧ Inv qk2 qm2
theorem lc_load {X : Lv} (C : Lx X) {i : Nat} (hi : i + 6 ≤ lL X) (hL : lL X ≤ 3072) {Inv : St → St → Prop} (hs : Sp_load Inv) {qk qm : St} (hI : Inv qk qm) (hn : ∀ qk qm : St, Inv qk qm → Lt X 1521 [(0, .ref (lb X)), (1, .ref (lad X 0)), (2, .ref (lam X 0)), (3, .int (nI i))] [] qk qm) : Lt X 338 [(0, .ref (lb X)), (1, .ref (lad X 0)), (2, .ref (lam X 0)), (3, .int (nI i))] [] qk qm := by
  refine l_aload C 1 rfl rfl dL_law_338 ?_
  obtain ⟨z, qk2, qm2, hk, hm, hI2⟩ := hs qk qm hI
  refine l_callK (as := []) C (c_K_load hk) rfl (gd_V (tg 552 (by decide +kernel) rfl) (tg 553 (by decide +kernel) rfl) (tg 554 (by decide +kernel) rfl) (tg 115 (by decide +kernel) rfl) (tg 555 (by decide +kernel) rfl)) ⟨rfl, rfl, Nat.le_of_ble_eq_true rfl, Nat.le_of_ble_eq_true rfl⟩ (by show Option.map _ (parseMethodDescriptor yX10_load.desc) = some 0; decide +kernel) (Nat.le_of_ble_eq_true rfl) rfl dL_law_339 ?_
  refine l_aload C 2 rfl rfl dL_law_342 ?_
  refine l_callM (as := []) C (c_M_load hm) rfl (gd_V (tg 1331 (by decide +kernel) rfl) (tg 1332 (by decide +kernel) rfl) (tg 1333 (by decide +kernel) rfl) (tg 128 (by decide +kernel) rfl) (tg 1334 (by decide +kernel) rfl)) ⟨rfl, rfl, Nat.le_of_ble_eq_true rfl, Nat.le_of_ble_eq_true rfl⟩ (by show Option.map _ (parseMethodDescriptor yX11_load.desc) = some 0; decide +kernel) (Nat.le_of_ble_eq_true rfl) rfl dL_law_343 ?_
  exact l_icmp_eq C 1521 (by decide) dL_law_346 (fun _ => hn _ _ hI2) (fun h => absurd rfl h)
def Sp_errorPosition (Inv : St → St → Prop) : Prop := ∀ (qk qm : St), Inv qk qm → ∃ (z : Int32), K_errorPosition qk = some z ∧ M_errorPosition qm = some z
theorem lc_errorPosition {X : Lv} (C : Lx X) {i : Nat} (hi : i + 6 ≤ lL X) (hL : lL X ≤ 3072) {Inv : St → St → Prop} (hs : Sp_errorPosition Inv) {qk qm : St} (hI : Inv qk qm) (hn : ∀ qk qm : St, Inv qk qm → Lt X 1521 [(0, .ref (lb X)), (1, .ref (lad X 0)), (2, .ref (lam X 0)), (3, .int (nI i))] [] qk qm) : Lt X 351 [(0, .ref (lb X)), (1, .ref (lad X 0)), (2, .ref (lam X 0)), (3, .int (nI i))] [] qk qm := by
  refine l_aload C 1 rfl rfl dL_law_351 ?_
  obtain ⟨z, hk, hm⟩ := hs qk qm hI
  refine l_callK (as := []) C (c_K_errorPosition hk) rfl (gd_V (tg 709 (by decide +kernel) rfl) (tg 710 (by decide +kernel) rfl) (tg 711 (by decide +kernel) rfl) (tg 115 (by decide +kernel) rfl) (tg 712 (by decide +kernel) rfl)) ⟨rfl, rfl, Nat.le_of_ble_eq_true rfl, Nat.le_of_ble_eq_true rfl⟩ (by show Option.map _ (parseMethodDescriptor yX10_errorPosition.desc) = some 0; decide +kernel) (Nat.le_of_ble_eq_true rfl) rfl dL_law_352 ?_
  refine l_aload C 2 rfl rfl dL_law_355 ?_
  refine l_callM (as := []) C (c_M_errorPosition hm) rfl (gd_V (tg 1394 (by decide +kernel) rfl) (tg 1395 (by decide +kernel) rfl) (tg 1396 (by decide +kernel) rfl) (tg 128 (by decide +kernel) rfl) (tg 1397 (by decide +kernel) rfl)) ⟨rfl, rfl, Nat.le_of_ble_eq_true rfl, Nat.le_of_ble_eq_true rfl⟩ (by show Option.map _ (parseMethodDescriptor yX11_errorPosition.desc) = some 0; decide +kernel) (Nat.le_of_ble_eq_true rfl) rfl dL_law_356 ?_
  exact l_icmp_eq C 1521 (by decide) dL_law_359 (fun _ => hn _ _ hI) (fun h => absurd rfl h)
def Sp_nodes (Inv : St → St → Prop) : Prop := ∀ (qk qm : St), Inv qk qm → ∃ (z : Int32), K_nodes qk = some z ∧ M_nodes qm = some z
theorem lc_nodes {X : Lv} (C : Lx X) {i : Nat} (hi : i + 6 ≤ lL X) (hL : lL X ≤ 3072) {Inv : St → St → Prop} (hs : Sp_nodes Inv) {qk qm : St} (hI : Inv qk qm) (hn : ∀ qk qm : St, Inv qk qm → Lt X 1521 [(0, .ref (lb X)), (1, .ref (lad X 0)), (2, .ref (lam X 0)), (3, .int (nI i))] [] qk qm) : Lt X 364 [(0, .ref (lb X)), (1, .ref (lad X 0)), (2, .ref (lam X 0)), (3, .int (nI i))] [] qk qm := by
  refine l_aload C 1 rfl rfl dL_law_364 ?_
  obtain ⟨z, hk, hm⟩ := hs qk qm hI
  refine l_callK (as := []) C (c_K_nodes hk) rfl (gd_V (tg 713 (by decide +kernel) rfl) (tg 714 (by decide +kernel) rfl) (tg 715 (by decide +kernel) rfl) (tg 115 (by decide +kernel) rfl) (tg 716 (by decide +kernel) rfl)) ⟨rfl, rfl, Nat.le_of_ble_eq_true rfl, Nat.le_of_ble_eq_true rfl⟩ (by show Option.map _ (parseMethodDescriptor yX10_nodes.desc) = some 0; decide +kernel) (Nat.le_of_ble_eq_true rfl) rfl dL_law_365 ?_
  refine l_aload C 2 rfl rfl dL_law_368 ?_
  refine l_callM (as := []) C (c_M_nodes hm) rfl (gd_V (tg 1627 (by decide +kernel) rfl) (tg 1628 (by decide +kernel) rfl) (tg 1629 (by decide +kernel) rfl) (tg 128 (by decide +kernel) rfl) (tg 1630 (by decide +kernel) rfl)) ⟨rfl, rfl, Nat.le_of_ble_eq_true rfl, Nat.le_of_ble_eq_true rfl⟩ (by show Option.map _ (parseMethodDescriptor yX11_nodes.desc) = some 0; decide +kernel) (Nat.le_of_ble_eq_true rfl) rfl dL_law_369 ?_
  exact l_icmp_eq C 1521 (by decide) dL_law_372 (fun _ => hn _ _ hI) (fun h => absurd rfl h)
def Sp_links (Inv : St → St → Prop) : Prop := ∀ (qk qm : St), Inv qk qm → ∃ (z : Int32), K_links qk = some z ∧ M_links qm = some z
theorem lc_links {X : Lv} (C : Lx X) {i : Nat} (hi : i + 6 ≤ lL X) (hL : lL X ≤ 3072) {Inv : St → St → Prop} (hs : Sp_links Inv) {qk qm : St} (hI : Inv qk qm) (hn : ∀ qk qm : St, Inv qk qm → Lt X 1521 [(0, .ref (lb X)), (1, .ref (lad X 0)), (2, .ref (lam X 0)), (3, .int (nI i))] [] qk qm) : Lt X 377 [(0, .ref (lb X)), (1, .ref (lad X 0)), (2, .ref (lam X 0)), (3, .int (nI i))] [] qk qm := by
  refine l_aload C 1 rfl rfl dL_law_377 ?_
  obtain ⟨z, hk, hm⟩ := hs qk qm hI
  refine l_callK (as := []) C (c_K_links hk) rfl (gd_V (tg 717 (by decide +kernel) rfl) (tg 718 (by decide +kernel) rfl) (tg 719 (by decide +kernel) rfl) (tg 115 (by decide +kernel) rfl) (tg 720 (by decide +kernel) rfl)) ⟨rfl, rfl, Nat.le_of_ble_eq_true rfl, Nat.le_of_ble_eq_true rfl⟩ (by show Option.map _ (parseMethodDescriptor yX10_links.desc) = some 0; decide +kernel) (Nat.le_of_ble_eq_true rfl) rfl dL_law_378 ?_
  refine l_aload C 2 rfl rfl dL_law_381 ?_
  refine l_callM (as := []) C (c_M_links hm) rfl (gd_V (tg 1631 (by decide +kernel) rfl) (tg 1632 (by decide +kernel) rfl) (tg 1633 (by decide +kernel) rfl) (tg 128 (by decide +kernel) rfl) (tg 1634 (by decide +kernel) rfl)) ⟨rfl, rfl, Nat.le_of_ble_eq_true rfl, Nat.le_of_ble_eq_true rfl⟩ (by show Option.map _ (parseMethodDescriptor yX11_links.desc) = some 0; decide +kernel) (Nat.le_of_ble_eq_true rfl) rfl dL_law_382 ?_
  exact l_icmp_eq C 1521 (by decide) dL_law_385 (fun _ => hn _ _ hI) (fun h => absurd rfl h)
def Sp_formats (Inv : St → St → Prop) : Prop := ∀ (qk qm : St), Inv qk qm → ∃ (z : Int32), K_formats qk = some z ∧ M_formats qm = some z
theorem lc_formats {X : Lv} (C : Lx X) {i : Nat} (hi : i + 6 ≤ lL X) (hL : lL X ≤ 3072) {Inv : St → St → Prop} (hs : Sp_formats Inv) {qk qm : St} (hI : Inv qk qm) (hn : ∀ qk qm : St, Inv qk qm → Lt X 1521 [(0, .ref (lb X)), (1, .ref (lad X 0)), (2, .ref (lam X 0)), (3, .int (nI i))] [] qk qm) : Lt X 390 [(0, .ref (lb X)), (1, .ref (lad X 0)), (2, .ref (lam X 0)), (3, .int (nI i))] [] qk qm := by
  refine l_aload C 1 rfl rfl dL_law_390 ?_
  obtain ⟨z, hk, hm⟩ := hs qk qm hI
  refine l_callK (as := []) C (c_K_formats hk) rfl (gd_V (tg 721 (by decide +kernel) rfl) (tg 722 (by decide +kernel) rfl) (tg 723 (by decide +kernel) rfl) (tg 115 (by decide +kernel) rfl) (tg 724 (by decide +kernel) rfl)) ⟨rfl, rfl, Nat.le_of_ble_eq_true rfl, Nat.le_of_ble_eq_true rfl⟩ (by show Option.map _ (parseMethodDescriptor yX10_formats.desc) = some 0; decide +kernel) (Nat.le_of_ble_eq_true rfl) rfl dL_law_391 ?_
  refine l_aload C 2 rfl rfl dL_law_394 ?_
  refine l_callM (as := []) C (c_M_formats hm) rfl (gd_V (tg 1635 (by decide +kernel) rfl) (tg 1636 (by decide +kernel) rfl) (tg 1637 (by decide +kernel) rfl) (tg 128 (by decide +kernel) rfl) (tg 1638 (by decide +kernel) rfl)) ⟨rfl, rfl, Nat.le_of_ble_eq_true rfl, Nat.le_of_ble_eq_true rfl⟩ (by show Option.map _ (parseMethodDescriptor yX11_formats.desc) = some 0; decide +kernel) (Nat.le_of_ble_eq_true rfl) rfl dL_law_395 ?_
  exact l_icmp_eq C 1521 (by decide) dL_law_398 (fun _ => hn _ _ hI) (fun h => absurd rfl h)
def Sp_layers (Inv : St → St → Prop) : Prop := ∀ (qk qm : St), Inv qk qm → ∃ (z : Int32), K_layers qk = some z ∧ M_layers qm = some z
theorem lc_layers {X : Lv} (C : Lx X) {i : Nat} (hi : i + 6 ≤ lL X) (hL : lL X ≤ 3072) {Inv : St → St → Prop} (hs : Sp_layers Inv) {qk qm : St} (hI : Inv qk qm) (hn : ∀ qk qm : St, Inv qk qm → Lt X 1521 [(0, .ref (lb X)), (1, .ref (lad X 0)), (2, .ref (lam X 0)), (3, .int (nI i))] [] qk qm) : Lt X 403 [(0, .ref (lb X)), (1, .ref (lad X 0)), (2, .ref (lam X 0)), (3, .int (nI i))] [] qk qm := by
  refine l_aload C 1 rfl rfl dL_law_403 ?_
  obtain ⟨z, hk, hm⟩ := hs qk qm hI
  refine l_callK (as := []) C (c_K_layers hk) rfl (gd_V (tg 725 (by decide +kernel) rfl) (tg 726 (by decide +kernel) rfl) (tg 727 (by decide +kernel) rfl) (tg 115 (by decide +kernel) rfl) (tg 728 (by decide +kernel) rfl)) ⟨rfl, rfl, Nat.le_of_ble_eq_true rfl, Nat.le_of_ble_eq_true rfl⟩ (by show Option.map _ (parseMethodDescriptor yX10_layers.desc) = some 0; decide +kernel) (Nat.le_of_ble_eq_true rfl) rfl dL_law_404 ?_
  refine l_aload C 2 rfl rfl dL_law_407 ?_
  refine l_callM (as := []) C (c_M_layers hm) rfl (gd_V (tg 1639 (by decide +kernel) rfl) (tg 1640 (by decide +kernel) rfl) (tg 1641 (by decide +kernel) rfl) (tg 128 (by decide +kernel) rfl) (tg 1642 (by decide +kernel) rfl)) ⟨rfl, rfl, Nat.le_of_ble_eq_true rfl, Nat.le_of_ble_eq_true rfl⟩ (by show Option.map _ (parseMethodDescriptor yX11_layers.desc) = some 0; decide +kernel) (Nat.le_of_ble_eq_true rfl) rfl dL_law_408 ?_
  exact l_icmp_eq C 1521 (by decide) dL_law_411 (fun _ => hn _ _ hI) (fun h => absurd rfl h)
def Sp_rate (Inv : St → St → Prop) : Prop := ∀ (qk qm : St) (v1 v2 : Int32), Inv qk qm → ∃ (z : Int32), K_rate qk v1 v2 = some z ∧ M_rate qm v1 v2 = some z
theorem lc_rate {X : Lv} (C : Lx X) {i : Nat} (hi : i + 6 ≤ lL X) (hL : lL X ≤ 3072) {Inv : St → St → Prop} (hs : Sp_rate Inv) {qk qm : St} (hI : Inv qk qm) (hn : ∀ qk qm : St, Inv qk qm → Lt X 1521 [(0, .ref (lb X)), (1, .ref (lad X 0)), (2, .ref (lam X 0)), (3, .int (nI i))] [] qk qm) : Lt X 416 [(0, .ref (lb X)), (1, .ref (lad X 0)), (2, .ref (lam X 0)), (3, .int (nI i))] [] qk qm := by
  refine l_aload C 1 rfl rfl dL_law_416 ?_
  refine l_aload C 0 rfl rfl dL_law_417 ?_
  refine l_iload C 3 rfl rfl dL_law_418 ?_
  refine l_iconst (v := 1) C (by decide) dL_law_419 ?_
  refine l_iadd C dL_law_420 ?_
  refine l_sld C (in_k 1 (by decide) hi hL) dL_law_421 ?_
  refine l_aload C 0 rfl rfl dL_law_422 ?_
  refine l_iload C 3 rfl rfl dL_law_423 ?_
  refine l_iconst (v := 2) C (by decide) dL_law_424 ?_
  refine l_iadd C dL_law_425 ?_
  refine l_sld C (in_k 2 (by decide) hi hL) dL_law_426 ?_
  obtain ⟨z, hk, hm⟩ := hs qk qm (lxs X (nI i + nI 1).toNatClampNeg) (lxs X (nI i + nI 2).toNatClampNeg) hI
  refine l_callK (as := [.int (lxs X (nI i + nI 1).toNatClampNeg), .int (lxs X (nI i + nI 2).toNatClampNeg)]) C (c_K_rate hk) rfl (gd_V (tg 729 (by decide +kernel) rfl) (tg 730 (by decide +kernel) rfl) (tg 731 (by decide +kernel) rfl) (tg 115 (by decide +kernel) rfl) (tg 732 (by decide +kernel) rfl)) ⟨rfl, rfl, Nat.le_of_ble_eq_true rfl, Nat.le_of_ble_eq_true rfl⟩ (by show Option.map _ (parseMethodDescriptor yX10_rate.desc) = some 2; decide +kernel) (Nat.le_of_ble_eq_true rfl) rfl dL_law_427 ?_
  refine l_aload C 2 rfl rfl dL_law_430 ?_
  refine l_aload C 0 rfl rfl dL_law_431 ?_
  refine l_iload C 3 rfl rfl dL_law_432 ?_
  refine l_iconst (v := 1) C (by decide) dL_law_433 ?_
  refine l_iadd C dL_law_434 ?_
  refine l_sld C (in_k 1 (by decide) hi hL) dL_law_435 ?_
  refine l_aload C 0 rfl rfl dL_law_436 ?_
  refine l_iload C 3 rfl rfl dL_law_437 ?_
  refine l_iconst (v := 2) C (by decide) dL_law_438 ?_
  refine l_iadd C dL_law_439 ?_
  refine l_sld C (in_k 2 (by decide) hi hL) dL_law_440 ?_
  refine l_callM (as := [.int (lxs X (nI i + nI 1).toNatClampNeg), .int (lxs X (nI i + nI 2).toNatClampNeg)]) C (c_M_rate hm) rfl (gd_V (tg 1643 (by decide +kernel) rfl) (tg 1644 (by decide +kernel) rfl) (tg 1645 (by decide +kernel) rfl) (tg 128 (by decide +kernel) rfl) (tg 1646 (by decide +kernel) rfl)) ⟨rfl, rfl, Nat.le_of_ble_eq_true rfl, Nat.le_of_ble_eq_true rfl⟩ (by show Option.map _ (parseMethodDescriptor yX11_rate.desc) = some 2; decide +kernel) (Nat.le_of_ble_eq_true rfl) rfl dL_law_441 ?_
  exact l_icmp_eq C 1521 (by decide) dL_law_444 (fun _ => hn _ _ hI) (fun h => absurd rfl h)
def Sp_linkBetween (Inv : St → St → Prop) : Prop := ∀ (qk qm : St) (v1 v2 : Int32), Inv qk qm → ∃ (z : Int32), K_linkBetween qk v1 v2 = some z ∧ M_linkBetween qm v1 v2 = some z
theorem lc_linkBetween {X : Lv} (C : Lx X) {i : Nat} (hi : i + 6 ≤ lL X) (hL : lL X ≤ 3072) {Inv : St → St → Prop} (hs : Sp_linkBetween Inv) {qk qm : St} (hI : Inv qk qm) (hn : ∀ qk qm : St, Inv qk qm → Lt X 1521 [(0, .ref (lb X)), (1, .ref (lad X 0)), (2, .ref (lam X 0)), (3, .int (nI i))] [] qk qm) : Lt X 449 [(0, .ref (lb X)), (1, .ref (lad X 0)), (2, .ref (lam X 0)), (3, .int (nI i))] [] qk qm := by
  refine l_aload C 1 rfl rfl dL_law_449 ?_
  refine l_aload C 0 rfl rfl dL_law_450 ?_
  refine l_iload C 3 rfl rfl dL_law_451 ?_
  refine l_iconst (v := 1) C (by decide) dL_law_452 ?_
  refine l_iadd C dL_law_453 ?_
  refine l_sld C (in_k 1 (by decide) hi hL) dL_law_454 ?_
  refine l_aload C 0 rfl rfl dL_law_455 ?_
  refine l_iload C 3 rfl rfl dL_law_456 ?_
  refine l_iconst (v := 2) C (by decide) dL_law_457 ?_
  refine l_iadd C dL_law_458 ?_
  refine l_sld C (in_k 2 (by decide) hi hL) dL_law_459 ?_
  obtain ⟨z, hk, hm⟩ := hs qk qm (lxs X (nI i + nI 1).toNatClampNeg) (lxs X (nI i + nI 2).toNatClampNeg) hI
  refine l_callK (as := [.int (lxs X (nI i + nI 1).toNatClampNeg), .int (lxs X (nI i + nI 2).toNatClampNeg)]) C (c_K_linkBetween hk) rfl (gd_V (tg 745 (by decide +kernel) rfl) (tg 746 (by decide +kernel) rfl) (tg 747 (by decide +kernel) rfl) (tg 115 (by decide +kernel) rfl) (tg 748 (by decide +kernel) rfl)) ⟨rfl, rfl, Nat.le_of_ble_eq_true rfl, Nat.le_of_ble_eq_true rfl⟩ (by show Option.map _ (parseMethodDescriptor yX10_linkBetween.desc) = some 2; decide +kernel) (Nat.le_of_ble_eq_true rfl) rfl dL_law_460 ?_
  refine l_aload C 2 rfl rfl dL_law_463 ?_
  refine l_aload C 0 rfl rfl dL_law_464 ?_
  refine l_iload C 3 rfl rfl dL_law_465 ?_
  refine l_iconst (v := 1) C (by decide) dL_law_466 ?_
  refine l_iadd C dL_law_467 ?_
  refine l_sld C (in_k 1 (by decide) hi hL) dL_law_468 ?_
  refine l_aload C 0 rfl rfl dL_law_469 ?_
  refine l_iload C 3 rfl rfl dL_law_470 ?_
  refine l_iconst (v := 2) C (by decide) dL_law_471 ?_
  refine l_iadd C dL_law_472 ?_
  refine l_sld C (in_k 2 (by decide) hi hL) dL_law_473 ?_
  refine l_callM (as := [.int (lxs X (nI i + nI 1).toNatClampNeg), .int (lxs X (nI i + nI 2).toNatClampNeg)]) C (c_M_linkBetween hm) rfl (gd_V (tg 1647 (by decide +kernel) rfl) (tg 1648 (by decide +kernel) rfl) (tg 1649 (by decide +kernel) rfl) (tg 128 (by decide +kernel) rfl) (tg 1650 (by decide +kernel) rfl)) ⟨rfl, rfl, Nat.le_of_ble_eq_true rfl, Nat.le_of_ble_eq_true rfl⟩ (by show Option.map _ (parseMethodDescriptor yX11_linkBetween.desc) = some 2; decide +kernel) (Nat.le_of_ble_eq_true rfl) rfl dL_law_474 ?_
  exact l_icmp_eq C 1521 (by decide) dL_law_477 (fun _ => hn _ _ hI) (fun h => absurd rfl h)
def Sp_capacity (Inv : St → St → Prop) : Prop := ∀ (qk qm : St) (v1 : Int32), Inv qk qm → ∃ (z : Int32), K_capacity qk v1 = some z ∧ M_capacity qm v1 = some z
theorem lc_capacity {X : Lv} (C : Lx X) {i : Nat} (hi : i + 6 ≤ lL X) (hL : lL X ≤ 3072) {Inv : St → St → Prop} (hs : Sp_capacity Inv) {qk qm : St} (hI : Inv qk qm) (hn : ∀ qk qm : St, Inv qk qm → Lt X 1521 [(0, .ref (lb X)), (1, .ref (lad X 0)), (2, .ref (lam X 0)), (3, .int (nI i))] [] qk qm) : Lt X 482 [(0, .ref (lb X)), (1, .ref (lad X 0)), (2, .ref (lam X 0)), (3, .int (nI i))] [] qk qm := by
  refine l_aload C 1 rfl rfl dL_law_482 ?_
  refine l_aload C 0 rfl rfl dL_law_483 ?_
  refine l_iload C 3 rfl rfl dL_law_484 ?_
  refine l_iconst (v := 1) C (by decide) dL_law_485 ?_
  refine l_iadd C dL_law_486 ?_
  refine l_sld C (in_k 1 (by decide) hi hL) dL_law_487 ?_
  obtain ⟨z, hk, hm⟩ := hs qk qm (lxs X (nI i + nI 1).toNatClampNeg) hI
  refine l_callK (as := [.int (lxs X (nI i + nI 1).toNatClampNeg)]) C (c_K_capacity hk) rfl (gd_V (tg 753 (by decide +kernel) rfl) (tg 754 (by decide +kernel) rfl) (tg 755 (by decide +kernel) rfl) (tg 115 (by decide +kernel) rfl) (tg 756 (by decide +kernel) rfl)) ⟨rfl, rfl, Nat.le_of_ble_eq_true rfl, Nat.le_of_ble_eq_true rfl⟩ (by show Option.map _ (parseMethodDescriptor yX10_capacity.desc) = some 1; decide +kernel) (Nat.le_of_ble_eq_true rfl) rfl dL_law_488 ?_
  refine l_aload C 2 rfl rfl dL_law_491 ?_
  refine l_aload C 0 rfl rfl dL_law_492 ?_
  refine l_iload C 3 rfl rfl dL_law_493 ?_
  refine l_iconst (v := 1) C (by decide) dL_law_494 ?_
  refine l_iadd C dL_law_495 ?_
  refine l_sld C (in_k 1 (by decide) hi hL) dL_law_496 ?_
  refine l_callM (as := [.int (lxs X (nI i + nI 1).toNatClampNeg)]) C (c_M_capacity hm) rfl (gd_V (tg 1651 (by decide +kernel) rfl) (tg 1652 (by decide +kernel) rfl) (tg 1653 (by decide +kernel) rfl) (tg 128 (by decide +kernel) rfl) (tg 1654 (by decide +kernel) rfl)) ⟨rfl, rfl, Nat.le_of_ble_eq_true rfl, Nat.le_of_ble_eq_true rfl⟩ (by show Option.map _ (parseMethodDescriptor yX11_capacity.desc) = some 1; decide +kernel) (Nat.le_of_ble_eq_true rfl) rfl dL_law_497 ?_
  exact l_icmp_eq C 1521 (by decide) dL_law_500 (fun _ => hn _ _ hI) (fun h => absurd rfl h)
def Sp_isOpen (Inv : St → St → Prop) : Prop := ∀ (qk qm : St) (v1 : Int32), Inv qk qm → ∃ (z : Int32), K_isOpen qk v1 = some z ∧ M_isOpen qm v1 = some z
theorem lc_isOpen {X : Lv} (C : Lx X) {i : Nat} (hi : i + 6 ≤ lL X) (hL : lL X ≤ 3072) {Inv : St → St → Prop} (hs : Sp_isOpen Inv) {qk qm : St} (hI : Inv qk qm) (hn : ∀ qk qm : St, Inv qk qm → Lt X 1521 [(0, .ref (lb X)), (1, .ref (lad X 0)), (2, .ref (lam X 0)), (3, .int (nI i))] [] qk qm) : Lt X 505 [(0, .ref (lb X)), (1, .ref (lad X 0)), (2, .ref (lam X 0)), (3, .int (nI i))] [] qk qm := by
  refine l_aload C 1 rfl rfl dL_law_505 ?_
  refine l_aload C 0 rfl rfl dL_law_506 ?_
  refine l_iload C 3 rfl rfl dL_law_507 ?_
  refine l_iconst (v := 1) C (by decide) dL_law_508 ?_
  refine l_iadd C dL_law_509 ?_
  refine l_sld C (in_k 1 (by decide) hi hL) dL_law_510 ?_
  obtain ⟨z, hk, hm⟩ := hs qk qm (lxs X (nI i + nI 1).toNatClampNeg) hI
  refine l_callK (as := [.int (lxs X (nI i + nI 1).toNatClampNeg)]) C (c_K_isOpen hk) rfl (gd_V (tg 761 (by decide +kernel) rfl) (tg 762 (by decide +kernel) rfl) (tg 763 (by decide +kernel) rfl) (tg 115 (by decide +kernel) rfl) (tg 764 (by decide +kernel) rfl)) ⟨rfl, rfl, Nat.le_of_ble_eq_true rfl, Nat.le_of_ble_eq_true rfl⟩ (by show Option.map _ (parseMethodDescriptor yX10_isOpen.desc) = some 1; decide +kernel) (Nat.le_of_ble_eq_true rfl) rfl dL_law_511 ?_
  refine l_aload C 2 rfl rfl dL_law_514 ?_
  refine l_aload C 0 rfl rfl dL_law_515 ?_
  refine l_iload C 3 rfl rfl dL_law_516 ?_
  refine l_iconst (v := 1) C (by decide) dL_law_517 ?_
  refine l_iadd C dL_law_518 ?_
  refine l_sld C (in_k 1 (by decide) hi hL) dL_law_519 ?_
  refine l_callM (as := [.int (lxs X (nI i + nI 1).toNatClampNeg)]) C (c_M_isOpen hm) rfl (gd_V (tg 1655 (by decide +kernel) rfl) (tg 1656 (by decide +kernel) rfl) (tg 1657 (by decide +kernel) rfl) (tg 128 (by decide +kernel) rfl) (tg 1658 (by decide +kernel) rfl)) ⟨rfl, rfl, Nat.le_of_ble_eq_true rfl, Nat.le_of_ble_eq_true rfl⟩ (by show Option.map _ (parseMethodDescriptor yX11_isOpen.desc) = some 1; decide +kernel) (Nat.le_of_ble_eq_true rfl) rfl dL_law_520 ?_
  exact l_icmp_eq C 1521 (by decide) dL_law_523 (fun _ => hn _ _ hI) (fun h => absurd rfl h)
def Sp_addReceiver (Inv : St → St → Prop) : Prop := ∀ (qk qm : St) (v1 v2 v3 : Int32), Inv qk qm → ∃ (z : Int32) (qk2 : St) (qm2 : St), K_addReceiver qk v1 v2 v3 = some (z, qk2) ∧ M_addReceiver qm v1 v2 v3 = some (z, qm2) ∧ Inv qk2 qm2
theorem lc_addReceiver {X : Lv} (C : Lx X) {i : Nat} (hi : i + 6 ≤ lL X) (hL : lL X ≤ 3072) {Inv : St → St → Prop} (hs : Sp_addReceiver Inv) {qk qm : St} (hI : Inv qk qm) (hn : ∀ qk qm : St, Inv qk qm → Lt X 1521 [(0, .ref (lb X)), (1, .ref (lad X 0)), (2, .ref (lam X 0)), (3, .int (nI i))] [] qk qm) : Lt X 528 [(0, .ref (lb X)), (1, .ref (lad X 0)), (2, .ref (lam X 0)), (3, .int (nI i))] [] qk qm := by
  refine l_aload C 1 rfl rfl dL_law_528 ?_
  refine l_aload C 0 rfl rfl dL_law_529 ?_
  refine l_iload C 3 rfl rfl dL_law_530 ?_
  refine l_iconst (v := 1) C (by decide) dL_law_531 ?_
  refine l_iadd C dL_law_532 ?_
  refine l_sld C (in_k 1 (by decide) hi hL) dL_law_533 ?_
  refine l_aload C 0 rfl rfl dL_law_534 ?_
  refine l_iload C 3 rfl rfl dL_law_535 ?_
  refine l_iconst (v := 2) C (by decide) dL_law_536 ?_
  refine l_iadd C dL_law_537 ?_
  refine l_sld C (in_k 2 (by decide) hi hL) dL_law_538 ?_
  refine l_aload C 0 rfl rfl dL_law_539 ?_
  refine l_iload C 3 rfl rfl dL_law_540 ?_
  refine l_iconst (v := 3) C (by decide) dL_law_541 ?_
  refine l_iadd C dL_law_542 ?_
  refine l_sld C (in_k 3 (by decide) hi hL) dL_law_543 ?_
  obtain ⟨z, qk2, qm2, hk, hm, hI2⟩ := hs qk qm (lxs X (nI i + nI 1).toNatClampNeg) (lxs X (nI i + nI 2).toNatClampNeg) (lxs X (nI i + nI 3).toNatClampNeg) hI
  refine l_callK (as := [.int (lxs X (nI i + nI 1).toNatClampNeg), .int (lxs X (nI i + nI 2).toNatClampNeg), .int (lxs X (nI i + nI 3).toNatClampNeg)]) C (c_K_addReceiver hk) rfl (gd_V (tg 765 (by decide +kernel) rfl) (tg 766 (by decide +kernel) rfl) (tg 767 (by decide +kernel) rfl) (tg 115 (by decide +kernel) rfl) (tg 768 (by decide +kernel) rfl)) ⟨rfl, rfl, Nat.le_of_ble_eq_true rfl, Nat.le_of_ble_eq_true rfl⟩ (by show Option.map _ (parseMethodDescriptor yX10_addReceiver.desc) = some 3; decide +kernel) (Nat.le_of_ble_eq_true rfl) rfl dL_law_544 ?_
  refine l_aload C 2 rfl rfl dL_law_547 ?_
  refine l_aload C 0 rfl rfl dL_law_548 ?_
  refine l_iload C 3 rfl rfl dL_law_549 ?_
  refine l_iconst (v := 1) C (by decide) dL_law_550 ?_
  refine l_iadd C dL_law_551 ?_
  refine l_sld C (in_k 1 (by decide) hi hL) dL_law_552 ?_
  refine l_aload C 0 rfl rfl dL_law_553 ?_
  refine l_iload C 3 rfl rfl dL_law_554 ?_
  refine l_iconst (v := 2) C (by decide) dL_law_555 ?_
  refine l_iadd C dL_law_556 ?_
  refine l_sld C (in_k 2 (by decide) hi hL) dL_law_557 ?_
  refine l_aload C 0 rfl rfl dL_law_558 ?_
  refine l_iload C 3 rfl rfl dL_law_559 ?_
  refine l_iconst (v := 3) C (by decide) dL_law_560 ?_
  refine l_iadd C dL_law_561 ?_
  refine l_sld C (in_k 3 (by decide) hi hL) dL_law_562 ?_
  refine l_callM (as := [.int (lxs X (nI i + nI 1).toNatClampNeg), .int (lxs X (nI i + nI 2).toNatClampNeg), .int (lxs X (nI i + nI 3).toNatClampNeg)]) C (c_M_addReceiver hm) rfl (gd_V (tg 1402 (by decide +kernel) rfl) (tg 1403 (by decide +kernel) rfl) (tg 1404 (by decide +kernel) rfl) (tg 128 (by decide +kernel) rfl) (tg 1405 (by decide +kernel) rfl)) ⟨rfl, rfl, Nat.le_of_ble_eq_true rfl, Nat.le_of_ble_eq_true rfl⟩ (by show Option.map _ (parseMethodDescriptor yX11_addReceiver.desc) = some 3; decide +kernel) (Nat.le_of_ble_eq_true rfl) rfl dL_law_563 ?_
  exact l_icmp_eq C 1521 (by decide) dL_law_566 (fun _ => hn _ _ hI2) (fun h => absurd rfl h)
def Sp_leave (Inv : St → St → Prop) : Prop := ∀ (qk qm : St) (v1 : Int32), Inv qk qm → ∃ (z : Int32) (qk2 : St) (qm2 : St), K_leave qk v1 = some (z, qk2) ∧ M_leave qm v1 = some (z, qm2) ∧ Inv qk2 qm2
theorem lc_leave {X : Lv} (C : Lx X) {i : Nat} (hi : i + 6 ≤ lL X) (hL : lL X ≤ 3072) {Inv : St → St → Prop} (hs : Sp_leave Inv) {qk qm : St} (hI : Inv qk qm) (hn : ∀ qk qm : St, Inv qk qm → Lt X 1521 [(0, .ref (lb X)), (1, .ref (lad X 0)), (2, .ref (lam X 0)), (3, .int (nI i))] [] qk qm) : Lt X 571 [(0, .ref (lb X)), (1, .ref (lad X 0)), (2, .ref (lam X 0)), (3, .int (nI i))] [] qk qm := by
  refine l_aload C 1 rfl rfl dL_law_571 ?_
  refine l_aload C 0 rfl rfl dL_law_572 ?_
  refine l_iload C 3 rfl rfl dL_law_573 ?_
  refine l_iconst (v := 1) C (by decide) dL_law_574 ?_
  refine l_iadd C dL_law_575 ?_
  refine l_sld C (in_k 1 (by decide) hi hL) dL_law_576 ?_
  obtain ⟨z, qk2, qm2, hk, hm, hI2⟩ := hs qk qm (lxs X (nI i + nI 1).toNatClampNeg) hI
  refine l_callK (as := [.int (lxs X (nI i + nI 1).toNatClampNeg)]) C (c_K_leave hk) rfl (gd_V (tg 886 (by decide +kernel) rfl) (tg 887 (by decide +kernel) rfl) (tg 888 (by decide +kernel) rfl) (tg 115 (by decide +kernel) rfl) (tg 889 (by decide +kernel) rfl)) ⟨rfl, rfl, Nat.le_of_ble_eq_true rfl, Nat.le_of_ble_eq_true rfl⟩ (by show Option.map _ (parseMethodDescriptor yX10_leave.desc) = some 1; decide +kernel) (Nat.le_of_ble_eq_true rfl) rfl dL_law_577 ?_
  refine l_aload C 2 rfl rfl dL_law_580 ?_
  refine l_aload C 0 rfl rfl dL_law_581 ?_
  refine l_iload C 3 rfl rfl dL_law_582 ?_
  refine l_iconst (v := 1) C (by decide) dL_law_583 ?_
  refine l_iadd C dL_law_584 ?_
  refine l_sld C (in_k 1 (by decide) hi hL) dL_law_585 ?_
  refine l_callM (as := [.int (lxs X (nI i + nI 1).toNatClampNeg)]) C (c_M_leave hm) rfl (gd_V (tg 1518 (by decide +kernel) rfl) (tg 1519 (by decide +kernel) rfl) (tg 1520 (by decide +kernel) rfl) (tg 128 (by decide +kernel) rfl) (tg 1521 (by decide +kernel) rfl)) ⟨rfl, rfl, Nat.le_of_ble_eq_true rfl, Nat.le_of_ble_eq_true rfl⟩ (by show Option.map _ (parseMethodDescriptor yX11_leave.desc) = some 1; decide +kernel) (Nat.le_of_ble_eq_true rfl) rfl dL_law_586 ?_
  exact l_icmp_eq C 1521 (by decide) dL_law_589 (fun _ => hn _ _ hI2) (fun h => absurd rfl h)
def Sp_setWanted (Inv : St → St → Prop) : Prop := ∀ (qk qm : St) (v1 v2 : Int32), Inv qk qm → ∃ (z : Int32) (qk2 : St) (qm2 : St), K_setWanted qk v1 v2 = some (z, qk2) ∧ M_setWanted qm v1 v2 = some (z, qm2) ∧ Inv qk2 qm2
theorem lc_setWanted {X : Lv} (C : Lx X) {i : Nat} (hi : i + 6 ≤ lL X) (hL : lL X ≤ 3072) {Inv : St → St → Prop} (hs : Sp_setWanted Inv) {qk qm : St} (hI : Inv qk qm) (hn : ∀ qk qm : St, Inv qk qm → Lt X 1521 [(0, .ref (lb X)), (1, .ref (lad X 0)), (2, .ref (lam X 0)), (3, .int (nI i))] [] qk qm) : Lt X 594 [(0, .ref (lb X)), (1, .ref (lad X 0)), (2, .ref (lam X 0)), (3, .int (nI i))] [] qk qm := by
  refine l_aload C 1 rfl rfl dL_law_594 ?_
  refine l_aload C 0 rfl rfl dL_law_595 ?_
  refine l_iload C 3 rfl rfl dL_law_596 ?_
  refine l_iconst (v := 1) C (by decide) dL_law_597 ?_
  refine l_iadd C dL_law_598 ?_
  refine l_sld C (in_k 1 (by decide) hi hL) dL_law_599 ?_
  refine l_aload C 0 rfl rfl dL_law_600 ?_
  refine l_iload C 3 rfl rfl dL_law_601 ?_
  refine l_iconst (v := 2) C (by decide) dL_law_602 ?_
  refine l_iadd C dL_law_603 ?_
  refine l_sld C (in_k 2 (by decide) hi hL) dL_law_604 ?_
  obtain ⟨z, qk2, qm2, hk, hm, hI2⟩ := hs qk qm (lxs X (nI i + nI 1).toNatClampNeg) (lxs X (nI i + nI 2).toNatClampNeg) hI
  refine l_callK (as := [.int (lxs X (nI i + nI 1).toNatClampNeg), .int (lxs X (nI i + nI 2).toNatClampNeg)]) C (c_K_setWanted hk) rfl (gd_V (tg 912 (by decide +kernel) rfl) (tg 913 (by decide +kernel) rfl) (tg 914 (by decide +kernel) rfl) (tg 115 (by decide +kernel) rfl) (tg 915 (by decide +kernel) rfl)) ⟨rfl, rfl, Nat.le_of_ble_eq_true rfl, Nat.le_of_ble_eq_true rfl⟩ (by show Option.map _ (parseMethodDescriptor yX10_setWanted.desc) = some 2; decide +kernel) (Nat.le_of_ble_eq_true rfl) rfl dL_law_605 ?_
  refine l_aload C 2 rfl rfl dL_law_608 ?_
  refine l_aload C 0 rfl rfl dL_law_609 ?_
  refine l_iload C 3 rfl rfl dL_law_610 ?_
  refine l_iconst (v := 1) C (by decide) dL_law_611 ?_
  refine l_iadd C dL_law_612 ?_
  refine l_sld C (in_k 1 (by decide) hi hL) dL_law_613 ?_
  refine l_aload C 0 rfl rfl dL_law_614 ?_
  refine l_iload C 3 rfl rfl dL_law_615 ?_
  refine l_iconst (v := 2) C (by decide) dL_law_616 ?_
  refine l_iadd C dL_law_617 ?_
  refine l_sld C (in_k 2 (by decide) hi hL) dL_law_618 ?_
  refine l_callM (as := [.int (lxs X (nI i + nI 1).toNatClampNeg), .int (lxs X (nI i + nI 2).toNatClampNeg)]) C (c_M_setWanted hm) rfl (gd_V (tg 1534 (by decide +kernel) rfl) (tg 1535 (by decide +kernel) rfl) (tg 1536 (by decide +kernel) rfl) (tg 128 (by decide +kernel) rfl) (tg 1537 (by decide +kernel) rfl)) ⟨rfl, rfl, Nat.le_of_ble_eq_true rfl, Nat.le_of_ble_eq_true rfl⟩ (by show Option.map _ (parseMethodDescriptor yX11_setWanted.desc) = some 2; decide +kernel) (Nat.le_of_ble_eq_true rfl) rfl dL_law_619 ?_
  exact l_icmp_eq C 1521 (by decide) dL_law_622 (fun _ => hn _ _ hI2) (fun h => absurd rfl h)
def Sp_raise (Inv : St → St → Prop) : Prop := ∀ (qk qm : St) (v1 : Int32), Inv qk qm → ∃ (z : Int32) (qk2 : St) (qm2 : St), K_raise qk v1 = some (z, qk2) ∧ M_raise qm v1 = some (z, qm2) ∧ Inv qk2 qm2
theorem lc_raise {X : Lv} (C : Lx X) {i : Nat} (hi : i + 6 ≤ lL X) (hL : lL X ≤ 3072) {Inv : St → St → Prop} (hs : Sp_raise Inv) {qk qm : St} (hI : Inv qk qm) (hn : ∀ qk qm : St, Inv qk qm → Lt X 1521 [(0, .ref (lb X)), (1, .ref (lad X 0)), (2, .ref (lam X 0)), (3, .int (nI i))] [] qk qm) : Lt X 627 [(0, .ref (lb X)), (1, .ref (lad X 0)), (2, .ref (lam X 0)), (3, .int (nI i))] [] qk qm := by
  refine l_aload C 1 rfl rfl dL_law_627 ?_
  refine l_aload C 0 rfl rfl dL_law_628 ?_
  refine l_iload C 3 rfl rfl dL_law_629 ?_
  refine l_iconst (v := 1) C (by decide) dL_law_630 ?_
  refine l_iadd C dL_law_631 ?_
  refine l_sld C (in_k 1 (by decide) hi hL) dL_law_632 ?_
  obtain ⟨z, qk2, qm2, hk, hm, hI2⟩ := hs qk qm (lxs X (nI i + nI 1).toNatClampNeg) hI
  refine l_callK (as := [.int (lxs X (nI i + nI 1).toNatClampNeg)]) C (c_K_raise hk) rfl (gd_V (tg 917 (by decide +kernel) rfl) (tg 918 (by decide +kernel) rfl) (tg 919 (by decide +kernel) rfl) (tg 115 (by decide +kernel) rfl) (tg 920 (by decide +kernel) rfl)) ⟨rfl, rfl, Nat.le_of_ble_eq_true rfl, Nat.le_of_ble_eq_true rfl⟩ (by show Option.map _ (parseMethodDescriptor yX10_raise.desc) = some 1; decide +kernel) (Nat.le_of_ble_eq_true rfl) rfl dL_law_633 ?_
  refine l_aload C 2 rfl rfl dL_law_636 ?_
  refine l_aload C 0 rfl rfl dL_law_637 ?_
  refine l_iload C 3 rfl rfl dL_law_638 ?_
  refine l_iconst (v := 1) C (by decide) dL_law_639 ?_
  refine l_iadd C dL_law_640 ?_
  refine l_sld C (in_k 1 (by decide) hi hL) dL_law_641 ?_
  refine l_callM (as := [.int (lxs X (nI i + nI 1).toNatClampNeg)]) C (c_M_raise hm) rfl (gd_V (tg 1538 (by decide +kernel) rfl) (tg 1539 (by decide +kernel) rfl) (tg 1540 (by decide +kernel) rfl) (tg 128 (by decide +kernel) rfl) (tg 1541 (by decide +kernel) rfl)) ⟨rfl, rfl, Nat.le_of_ble_eq_true rfl, Nat.le_of_ble_eq_true rfl⟩ (by show Option.map _ (parseMethodDescriptor yX11_raise.desc) = some 1; decide +kernel) (Nat.le_of_ble_eq_true rfl) rfl dL_law_642 ?_
  exact l_icmp_eq C 1521 (by decide) dL_law_645 (fun _ => hn _ _ hI2) (fun h => absurd rfl h)
def Sp_place (Inv : St → St → Prop) : Prop := ∀ (qk qm : St) (v1 v2 : Int32), Inv qk qm → ∃ (z : Int32) (qk2 : St) (qm2 : St), K_place qk v1 v2 = some (z, qk2) ∧ M_place qm v1 v2 = some (z, qm2) ∧ Inv qk2 qm2
theorem lc_place {X : Lv} (C : Lx X) {i : Nat} (hi : i + 6 ≤ lL X) (hL : lL X ≤ 3072) {Inv : St → St → Prop} (hs : Sp_place Inv) {qk qm : St} (hI : Inv qk qm) (hn : ∀ qk qm : St, Inv qk qm → Lt X 1521 [(0, .ref (lb X)), (1, .ref (lad X 0)), (2, .ref (lam X 0)), (3, .int (nI i))] [] qk qm) : Lt X 650 [(0, .ref (lb X)), (1, .ref (lad X 0)), (2, .ref (lam X 0)), (3, .int (nI i))] [] qk qm := by
  refine l_aload C 1 rfl rfl dL_law_650 ?_
  refine l_aload C 0 rfl rfl dL_law_651 ?_
  refine l_iload C 3 rfl rfl dL_law_652 ?_
  refine l_iconst (v := 1) C (by decide) dL_law_653 ?_
  refine l_iadd C dL_law_654 ?_
  refine l_sld C (in_k 1 (by decide) hi hL) dL_law_655 ?_
  refine l_aload C 0 rfl rfl dL_law_656 ?_
  refine l_iload C 3 rfl rfl dL_law_657 ?_
  refine l_iconst (v := 2) C (by decide) dL_law_658 ?_
  refine l_iadd C dL_law_659 ?_
  refine l_sld C (in_k 2 (by decide) hi hL) dL_law_660 ?_
  obtain ⟨z, qk2, qm2, hk, hm, hI2⟩ := hs qk qm (lxs X (nI i + nI 1).toNatClampNeg) (lxs X (nI i + nI 2).toNatClampNeg) hI
  refine l_callK (as := [.int (lxs X (nI i + nI 1).toNatClampNeg), .int (lxs X (nI i + nI 2).toNatClampNeg)]) C (c_K_place hk) rfl (gd_V (tg 923 (by decide +kernel) rfl) (tg 924 (by decide +kernel) rfl) (tg 925 (by decide +kernel) rfl) (tg 115 (by decide +kernel) rfl) (tg 926 (by decide +kernel) rfl)) ⟨rfl, rfl, Nat.le_of_ble_eq_true rfl, Nat.le_of_ble_eq_true rfl⟩ (by show Option.map _ (parseMethodDescriptor yX10_place.desc) = some 2; decide +kernel) (Nat.le_of_ble_eq_true rfl) rfl dL_law_661 ?_
  refine l_aload C 2 rfl rfl dL_law_664 ?_
  refine l_aload C 0 rfl rfl dL_law_665 ?_
  refine l_iload C 3 rfl rfl dL_law_666 ?_
  refine l_iconst (v := 1) C (by decide) dL_law_667 ?_
  refine l_iadd C dL_law_668 ?_
  refine l_sld C (in_k 1 (by decide) hi hL) dL_law_669 ?_
  refine l_aload C 0 rfl rfl dL_law_670 ?_
  refine l_iload C 3 rfl rfl dL_law_671 ?_
  refine l_iconst (v := 2) C (by decide) dL_law_672 ?_
  refine l_iadd C dL_law_673 ?_
  refine l_sld C (in_k 2 (by decide) hi hL) dL_law_674 ?_
  refine l_callM (as := [.int (lxs X (nI i + nI 1).toNatClampNeg), .int (lxs X (nI i + nI 2).toNatClampNeg)]) C (c_M_place hm) rfl (gd_V (tg 1550 (by decide +kernel) rfl) (tg 1551 (by decide +kernel) rfl) (tg 1552 (by decide +kernel) rfl) (tg 128 (by decide +kernel) rfl) (tg 1553 (by decide +kernel) rfl)) ⟨rfl, rfl, Nat.le_of_ble_eq_true rfl, Nat.le_of_ble_eq_true rfl⟩ (by show Option.map _ (parseMethodDescriptor yX11_place.desc) = some 2; decide +kernel) (Nat.le_of_ble_eq_true rfl) rfl dL_law_675 ?_
  exact l_icmp_eq C 1521 (by decide) dL_law_678 (fun _ => hn _ _ hI2) (fun h => absurd rfl h)
def Sp_remove (Inv : St → St → Prop) : Prop := ∀ (qk qm : St) (v1 v2 : Int32), Inv qk qm → ∃ (z : Int32) (qk2 : St) (qm2 : St), K_remove qk v1 v2 = some (z, qk2) ∧ M_remove qm v1 v2 = some (z, qm2) ∧ Inv qk2 qm2
theorem lc_remove {X : Lv} (C : Lx X) {i : Nat} (hi : i + 6 ≤ lL X) (hL : lL X ≤ 3072) {Inv : St → St → Prop} (hs : Sp_remove Inv) {qk qm : St} (hI : Inv qk qm) (hn : ∀ qk qm : St, Inv qk qm → Lt X 1521 [(0, .ref (lb X)), (1, .ref (lad X 0)), (2, .ref (lam X 0)), (3, .int (nI i))] [] qk qm) : Lt X 683 [(0, .ref (lb X)), (1, .ref (lad X 0)), (2, .ref (lam X 0)), (3, .int (nI i))] [] qk qm := by
  refine l_aload C 1 rfl rfl dL_law_683 ?_
  refine l_aload C 0 rfl rfl dL_law_684 ?_
  refine l_iload C 3 rfl rfl dL_law_685 ?_
  refine l_iconst (v := 1) C (by decide) dL_law_686 ?_
  refine l_iadd C dL_law_687 ?_
  refine l_sld C (in_k 1 (by decide) hi hL) dL_law_688 ?_
  refine l_aload C 0 rfl rfl dL_law_689 ?_
  refine l_iload C 3 rfl rfl dL_law_690 ?_
  refine l_iconst (v := 2) C (by decide) dL_law_691 ?_
  refine l_iadd C dL_law_692 ?_
  refine l_sld C (in_k 2 (by decide) hi hL) dL_law_693 ?_
  obtain ⟨z, qk2, qm2, hk, hm, hI2⟩ := hs qk qm (lxs X (nI i + nI 1).toNatClampNeg) (lxs X (nI i + nI 2).toNatClampNeg) hI
  refine l_callK (as := [.int (lxs X (nI i + nI 1).toNatClampNeg), .int (lxs X (nI i + nI 2).toNatClampNeg)]) C (c_K_remove hk) rfl (gd_V (tg 935 (by decide +kernel) rfl) (tg 936 (by decide +kernel) rfl) (tg 937 (by decide +kernel) rfl) (tg 115 (by decide +kernel) rfl) (tg 938 (by decide +kernel) rfl)) ⟨rfl, rfl, Nat.le_of_ble_eq_true rfl, Nat.le_of_ble_eq_true rfl⟩ (by show Option.map _ (parseMethodDescriptor yX10_remove.desc) = some 2; decide +kernel) (Nat.le_of_ble_eq_true rfl) rfl dL_law_694 ?_
  refine l_aload C 2 rfl rfl dL_law_697 ?_
  refine l_aload C 0 rfl rfl dL_law_698 ?_
  refine l_iload C 3 rfl rfl dL_law_699 ?_
  refine l_iconst (v := 1) C (by decide) dL_law_700 ?_
  refine l_iadd C dL_law_701 ?_
  refine l_sld C (in_k 1 (by decide) hi hL) dL_law_702 ?_
  refine l_aload C 0 rfl rfl dL_law_703 ?_
  refine l_iload C 3 rfl rfl dL_law_704 ?_
  refine l_iconst (v := 2) C (by decide) dL_law_705 ?_
  refine l_iadd C dL_law_706 ?_
  refine l_sld C (in_k 2 (by decide) hi hL) dL_law_707 ?_
  refine l_callM (as := [.int (lxs X (nI i + nI 1).toNatClampNeg), .int (lxs X (nI i + nI 2).toNatClampNeg)]) C (c_M_remove hm) rfl (gd_V (tg 1562 (by decide +kernel) rfl) (tg 1563 (by decide +kernel) rfl) (tg 1564 (by decide +kernel) rfl) (tg 128 (by decide +kernel) rfl) (tg 1565 (by decide +kernel) rfl)) ⟨rfl, rfl, Nat.le_of_ble_eq_true rfl, Nat.le_of_ble_eq_true rfl⟩ (by show Option.map _ (parseMethodDescriptor yX11_remove.desc) = some 2; decide +kernel) (Nat.le_of_ble_eq_true rfl) rfl dL_law_708 ?_
  exact l_icmp_eq C 1521 (by decide) dL_law_711 (fun _ => hn _ _ hI2) (fun h => absurd rfl h)
def Sp_setCapacity (Inv : St → St → Prop) : Prop := ∀ (qk qm : St) (v1 v2 : Int32), Inv qk qm → ∃ (z : Int32) (qk2 : St) (qm2 : St), K_setCapacity qk v1 v2 = some (z, qk2) ∧ M_setCapacity qm v1 v2 = some (z, qm2) ∧ Inv qk2 qm2
theorem lc_setCapacity {X : Lv} (C : Lx X) {i : Nat} (hi : i + 6 ≤ lL X) (hL : lL X ≤ 3072) {Inv : St → St → Prop} (hs : Sp_setCapacity Inv) {qk qm : St} (hI : Inv qk qm) (hn : ∀ qk qm : St, Inv qk qm → Lt X 1521 [(0, .ref (lb X)), (1, .ref (lad X 0)), (2, .ref (lam X 0)), (3, .int (nI i))] [] qk qm) : Lt X 716 [(0, .ref (lb X)), (1, .ref (lad X 0)), (2, .ref (lam X 0)), (3, .int (nI i))] [] qk qm := by
  refine l_aload C 1 rfl rfl dL_law_716 ?_
  refine l_aload C 0 rfl rfl dL_law_717 ?_
  refine l_iload C 3 rfl rfl dL_law_718 ?_
  refine l_iconst (v := 1) C (by decide) dL_law_719 ?_
  refine l_iadd C dL_law_720 ?_
  refine l_sld C (in_k 1 (by decide) hi hL) dL_law_721 ?_
  refine l_aload C 0 rfl rfl dL_law_722 ?_
  refine l_iload C 3 rfl rfl dL_law_723 ?_
  refine l_iconst (v := 2) C (by decide) dL_law_724 ?_
  refine l_iadd C dL_law_725 ?_
  refine l_sld C (in_k 2 (by decide) hi hL) dL_law_726 ?_
  obtain ⟨z, qk2, qm2, hk, hm, hI2⟩ := hs qk qm (lxs X (nI i + nI 1).toNatClampNeg) (lxs X (nI i + nI 2).toNatClampNeg) hI
  refine l_callK (as := [.int (lxs X (nI i + nI 1).toNatClampNeg), .int (lxs X (nI i + nI 2).toNatClampNeg)]) C (c_K_setCapacity hk) rfl (gd_V (tg 976 (by decide +kernel) rfl) (tg 977 (by decide +kernel) rfl) (tg 978 (by decide +kernel) rfl) (tg 115 (by decide +kernel) rfl) (tg 979 (by decide +kernel) rfl)) ⟨rfl, rfl, Nat.le_of_ble_eq_true rfl, Nat.le_of_ble_eq_true rfl⟩ (by show Option.map _ (parseMethodDescriptor yX10_setCapacity.desc) = some 2; decide +kernel) (Nat.le_of_ble_eq_true rfl) rfl dL_law_727 ?_
  refine l_aload C 2 rfl rfl dL_law_730 ?_
  refine l_aload C 0 rfl rfl dL_law_731 ?_
  refine l_iload C 3 rfl rfl dL_law_732 ?_
  refine l_iconst (v := 1) C (by decide) dL_law_733 ?_
  refine l_iadd C dL_law_734 ?_
  refine l_sld C (in_k 1 (by decide) hi hL) dL_law_735 ?_
  refine l_aload C 0 rfl rfl dL_law_736 ?_
  refine l_iload C 3 rfl rfl dL_law_737 ?_
  refine l_iconst (v := 2) C (by decide) dL_law_738 ?_
  refine l_iadd C dL_law_739 ?_
  refine l_sld C (in_k 2 (by decide) hi hL) dL_law_740 ?_
  refine l_callM (as := [.int (lxs X (nI i + nI 1).toNatClampNeg), .int (lxs X (nI i + nI 2).toNatClampNeg)]) C (c_M_setCapacity hm) rfl (gd_V (tg 1582 (by decide +kernel) rfl) (tg 1583 (by decide +kernel) rfl) (tg 1584 (by decide +kernel) rfl) (tg 128 (by decide +kernel) rfl) (tg 1585 (by decide +kernel) rfl)) ⟨rfl, rfl, Nat.le_of_ble_eq_true rfl, Nat.le_of_ble_eq_true rfl⟩ (by show Option.map _ (parseMethodDescriptor yX11_setCapacity.desc) = some 2; decide +kernel) (Nat.le_of_ble_eq_true rfl) rfl dL_law_741 ?_
  exact l_icmp_eq C 1521 (by decide) dL_law_744 (fun _ => hn _ _ hI2) (fun h => absurd rfl h)
def Sp_setOpen (Inv : St → St → Prop) : Prop := ∀ (qk qm : St) (v1 v2 : Int32), Inv qk qm → (v2 = 0 ∨ v2 = 1) → ∃ (z : Int32) (qk2 : St) (qm2 : St), K_setOpen qk v1 v2 = some (z, qk2) ∧ M_setOpen qm v1 v2 = some (z, qm2) ∧ Inv qk2 qm2
theorem lc_setOpen {X : Lv} (C : Lx X) {i : Nat} (hi : i + 6 ≤ lL X) (hL : lL X ≤ 3072) {Inv : St → St → Prop} (hs : Sp_setOpen Inv) {qk qm : St} (hI : Inv qk qm) (hn : ∀ qk qm : St, Inv qk qm → Lt X 1521 [(0, .ref (lb X)), (1, .ref (lad X 0)), (2, .ref (lam X 0)), (3, .int (nI i))] [] qk qm) : Lt X 749 [(0, .ref (lb X)), (1, .ref (lad X 0)), (2, .ref (lam X 0)), (3, .int (nI i))] [] qk qm := by
  by_cases hc : lxs X (nI i + nI 2).toNatClampNeg = 0
  · refine l_aload C 1 rfl rfl dL_law_749 ?_
    refine l_aload C 0 rfl rfl dL_law_750 ?_
    refine l_iload C 3 rfl rfl dL_law_751 ?_
    refine l_iconst (v := 1) C (by decide) dL_law_752 ?_
    refine l_iadd C dL_law_753 ?_
    refine l_sld C (in_k 1 (by decide) hi hL) dL_law_754 ?_
    refine l_aload C 0 rfl rfl dL_law_755 ?_
    refine l_iload C 3 rfl rfl dL_law_756 ?_
    refine l_iconst (v := 2) C (by decide) dL_law_757 ?_
    refine l_iadd C dL_law_758 ?_
    refine l_sld C (in_k 2 (by decide) hi hL) dL_law_759 ?_
    refine l_if_eq C 767 (by decide) dL_law_760 (fun _ => ?_) (fun h => absurd hc h)
    refine l_iconst (v := 0) C (by decide) dL_law_767 ?_
    obtain ⟨z, qk2, qm2, hk, hm, hI2⟩ := hs qk qm (lxs X (nI i + nI 1).toNatClampNeg) 0 hI (Or.inl rfl)
    refine l_callK (as := [.int (lxs X (nI i + nI 1).toNatClampNeg), .int 0]) C (c_K_setOpen hk) rfl (gd_V (tg 980 (by decide +kernel) rfl) (tg 981 (by decide +kernel) rfl) (tg 982 (by decide +kernel) rfl) (tg 115 (by decide +kernel) rfl) (tg 983 (by decide +kernel) rfl)) ⟨rfl, rfl, Nat.le_of_ble_eq_true rfl, Nat.le_of_ble_eq_true rfl⟩ (by show Option.map _ (parseMethodDescriptor yX10_setOpen.desc) = some 2; decide +kernel) (Nat.le_of_ble_eq_true rfl) rfl dL_law_768 ?_
    refine l_aload C 2 rfl rfl dL_law_771 ?_
    refine l_aload C 0 rfl rfl dL_law_772 ?_
    refine l_iload C 3 rfl rfl dL_law_773 ?_
    refine l_iconst (v := 1) C (by decide) dL_law_774 ?_
    refine l_iadd C dL_law_775 ?_
    refine l_sld C (in_k 1 (by decide) hi hL) dL_law_776 ?_
    refine l_aload C 0 rfl rfl dL_law_777 ?_
    refine l_iload C 3 rfl rfl dL_law_778 ?_
    refine l_iconst (v := 2) C (by decide) dL_law_779 ?_
    refine l_iadd C dL_law_780 ?_
    refine l_sld C (in_k 2 (by decide) hi hL) dL_law_781 ?_
    refine l_if_eq C 789 (by decide) dL_law_782 (fun _ => ?_) (fun h => absurd hc h)
    refine l_iconst (v := 0) C (by decide) dL_law_789 ?_
    refine l_callM (as := [.int (lxs X (nI i + nI 1).toNatClampNeg), .int 0]) C (c_M_setOpen hm) rfl (gd_V (tg 1591 (by decide +kernel) rfl) (tg 1592 (by decide +kernel) rfl) (tg 1593 (by decide +kernel) rfl) (tg 128 (by decide +kernel) rfl) (tg 1594 (by decide +kernel) rfl)) ⟨rfl, rfl, Nat.le_of_ble_eq_true rfl, Nat.le_of_ble_eq_true rfl⟩ (by show Option.map _ (parseMethodDescriptor yX11_setOpen.desc) = some 2; decide +kernel) (Nat.le_of_ble_eq_true rfl) rfl dL_law_790 ?_
    exact l_icmp_eq C 1521 (by decide) dL_law_793 (fun _ => hn _ _ hI2) (fun h => absurd rfl h)
  · refine l_aload C 1 rfl rfl dL_law_749 ?_
    refine l_aload C 0 rfl rfl dL_law_750 ?_
    refine l_iload C 3 rfl rfl dL_law_751 ?_
    refine l_iconst (v := 1) C (by decide) dL_law_752 ?_
    refine l_iadd C dL_law_753 ?_
    refine l_sld C (in_k 1 (by decide) hi hL) dL_law_754 ?_
    refine l_aload C 0 rfl rfl dL_law_755 ?_
    refine l_iload C 3 rfl rfl dL_law_756 ?_
    refine l_iconst (v := 2) C (by decide) dL_law_757 ?_
    refine l_iadd C dL_law_758 ?_
    refine l_sld C (in_k 2 (by decide) hi hL) dL_law_759 ?_
    refine l_if_eq C 767 (by decide) dL_law_760 (fun h => absurd h hc) (fun _ => ?_)
    refine l_iconst (v := 1) C (by decide) dL_law_763 ?_
    refine l_goto C 768 (by decide) dL_law_764 ?_
    obtain ⟨z, qk2, qm2, hk, hm, hI2⟩ := hs qk qm (lxs X (nI i + nI 1).toNatClampNeg) 1 hI (Or.inr rfl)
    refine l_callK (as := [.int (lxs X (nI i + nI 1).toNatClampNeg), .int 1]) C (c_K_setOpen hk) rfl (gd_V (tg 980 (by decide +kernel) rfl) (tg 981 (by decide +kernel) rfl) (tg 982 (by decide +kernel) rfl) (tg 115 (by decide +kernel) rfl) (tg 983 (by decide +kernel) rfl)) ⟨rfl, rfl, Nat.le_of_ble_eq_true rfl, Nat.le_of_ble_eq_true rfl⟩ (by show Option.map _ (parseMethodDescriptor yX10_setOpen.desc) = some 2; decide +kernel) (Nat.le_of_ble_eq_true rfl) rfl dL_law_768 ?_
    refine l_aload C 2 rfl rfl dL_law_771 ?_
    refine l_aload C 0 rfl rfl dL_law_772 ?_
    refine l_iload C 3 rfl rfl dL_law_773 ?_
    refine l_iconst (v := 1) C (by decide) dL_law_774 ?_
    refine l_iadd C dL_law_775 ?_
    refine l_sld C (in_k 1 (by decide) hi hL) dL_law_776 ?_
    refine l_aload C 0 rfl rfl dL_law_777 ?_
    refine l_iload C 3 rfl rfl dL_law_778 ?_
    refine l_iconst (v := 2) C (by decide) dL_law_779 ?_
    refine l_iadd C dL_law_780 ?_
    refine l_sld C (in_k 2 (by decide) hi hL) dL_law_781 ?_
    refine l_if_eq C 789 (by decide) dL_law_782 (fun h => absurd h hc) (fun _ => ?_)
    refine l_iconst (v := 1) C (by decide) dL_law_785 ?_
    refine l_goto C 790 (by decide) dL_law_786 ?_
    refine l_callM (as := [.int (lxs X (nI i + nI 1).toNatClampNeg), .int 1]) C (c_M_setOpen hm) rfl (gd_V (tg 1591 (by decide +kernel) rfl) (tg 1592 (by decide +kernel) rfl) (tg 1593 (by decide +kernel) rfl) (tg 128 (by decide +kernel) rfl) (tg 1594 (by decide +kernel) rfl)) ⟨rfl, rfl, Nat.le_of_ble_eq_true rfl, Nat.le_of_ble_eq_true rfl⟩ (by show Option.map _ (parseMethodDescriptor yX11_setOpen.desc) = some 2; decide +kernel) (Nat.le_of_ble_eq_true rfl) rfl dL_law_790 ?_
    exact l_icmp_eq C 1521 (by decide) dL_law_793 (fun _ => hn _ _ hI2) (fun h => absurd rfl h)
def Sp_improve (Inv : St → St → Prop) : Prop := ∀ (qk qm : St), Inv qk qm → ∃ (z : Int32) (qk2 : St) (qm2 : St), K_improve qk = some (z, qk2) ∧ M_improve qm = some (z, qm2) ∧ Inv qk2 qm2
theorem lc_improve {X : Lv} (C : Lx X) {i : Nat} (hi : i + 6 ≤ lL X) (hL : lL X ≤ 3072) {Inv : St → St → Prop} (hs : Sp_improve Inv) {qk qm : St} (hI : Inv qk qm) (hn : ∀ qk qm : St, Inv qk qm → Lt X 1521 [(0, .ref (lb X)), (1, .ref (lad X 0)), (2, .ref (lam X 0)), (3, .int (nI i))] [] qk qm) : Lt X 798 [(0, .ref (lb X)), (1, .ref (lad X 0)), (2, .ref (lam X 0)), (3, .int (nI i))] [] qk qm := by
  refine l_aload C 1 rfl rfl dL_law_798 ?_
  obtain ⟨z, qk2, qm2, hk, hm, hI2⟩ := hs qk qm hI
  refine l_callK (as := []) C (c_K_improve hk) rfl (gd_V (tg 1001 (by decide +kernel) rfl) (tg 1002 (by decide +kernel) rfl) (tg 1003 (by decide +kernel) rfl) (tg 115 (by decide +kernel) rfl) (tg 1004 (by decide +kernel) rfl)) ⟨rfl, rfl, Nat.le_of_ble_eq_true rfl, Nat.le_of_ble_eq_true rfl⟩ (by show Option.map _ (parseMethodDescriptor yX10_improve.desc) = some 0; decide +kernel) (Nat.le_of_ble_eq_true rfl) rfl dL_law_799 ?_
  refine l_aload C 2 rfl rfl dL_law_802 ?_
  refine l_callM (as := []) C (c_M_improve hm) rfl (gd_V (tg 1611 (by decide +kernel) rfl) (tg 1612 (by decide +kernel) rfl) (tg 1613 (by decide +kernel) rfl) (tg 128 (by decide +kernel) rfl) (tg 1614 (by decide +kernel) rfl)) ⟨rfl, rfl, Nat.le_of_ble_eq_true rfl, Nat.le_of_ble_eq_true rfl⟩ (by show Option.map _ (parseMethodDescriptor yX11_improve.desc) = some 0; decide +kernel) (Nat.le_of_ble_eq_true rfl) rfl dL_law_803 ?_
  exact l_icmp_eq C 1521 (by decide) dL_law_806 (fun _ => hn _ _ hI2) (fun h => absurd rfl h)
def Sp_rebuild (Inv : St → St → Prop) : Prop := ∀ (qk qm : St), Inv qk qm → ∃ (z : Int32) (qk2 : St) (qm2 : St), K_rebuild qk = some (z, qk2) ∧ M_rebuild qm = some (z, qm2) ∧ Inv qk2 qm2
theorem lc_rebuild {X : Lv} (C : Lx X) {i : Nat} (hi : i + 6 ≤ lL X) (hL : lL X ≤ 3072) {Inv : St → St → Prop} (hs : Sp_rebuild Inv) {qk qm : St} (hI : Inv qk qm) (hn : ∀ qk qm : St, Inv qk qm → Lt X 1521 [(0, .ref (lb X)), (1, .ref (lad X 0)), (2, .ref (lam X 0)), (3, .int (nI i))] [] qk qm) : Lt X 811 [(0, .ref (lb X)), (1, .ref (lad X 0)), (2, .ref (lam X 0)), (3, .int (nI i))] [] qk qm := by
  refine l_aload C 1 rfl rfl dL_law_811 ?_
  obtain ⟨z, qk2, qm2, hk, hm, hI2⟩ := hs qk qm hI
  refine l_callK (as := []) C (c_K_rebuild hk) rfl (gd_V (tg 1009 (by decide +kernel) rfl) (tg 1010 (by decide +kernel) rfl) (tg 1011 (by decide +kernel) rfl) (tg 115 (by decide +kernel) rfl) (tg 1012 (by decide +kernel) rfl)) ⟨rfl, rfl, Nat.le_of_ble_eq_true rfl, Nat.le_of_ble_eq_true rfl⟩ (by show Option.map _ (parseMethodDescriptor yX10_rebuild.desc) = some 0; decide +kernel) (Nat.le_of_ble_eq_true rfl) rfl dL_law_812 ?_
  refine l_aload C 2 rfl rfl dL_law_815 ?_
  refine l_callM (as := []) C (c_M_rebuild hm) rfl (gd_V (tg 1619 (by decide +kernel) rfl) (tg 1620 (by decide +kernel) rfl) (tg 1621 (by decide +kernel) rfl) (tg 128 (by decide +kernel) rfl) (tg 1622 (by decide +kernel) rfl)) ⟨rfl, rfl, Nat.le_of_ble_eq_true rfl, Nat.le_of_ble_eq_true rfl⟩ (by show Option.map _ (parseMethodDescriptor yX11_rebuild.desc) = some 0; decide +kernel) (Nat.le_of_ble_eq_true rfl) rfl dL_law_816 ?_
  exact l_icmp_eq C 1521 (by decide) dL_law_819 (fun _ => hn _ _ hI2) (fun h => absurd rfl h)
def Sp_undo (Inv : St → St → Prop) : Prop := ∀ (qk qm : St), Inv qk qm → ∃ (z : Int32) (qk2 : St) (qm2 : St), K_undo qk = some (z, qk2) ∧ M_undo qm = some (z, qm2) ∧ Inv qk2 qm2
theorem lc_undo {X : Lv} (C : Lx X) {i : Nat} (hi : i + 6 ≤ lL X) (hL : lL X ≤ 3072) {Inv : St → St → Prop} (hs : Sp_undo Inv) {qk qm : St} (hI : Inv qk qm) (hn : ∀ qk qm : St, Inv qk qm → Lt X 1521 [(0, .ref (lb X)), (1, .ref (lad X 0)), (2, .ref (lam X 0)), (3, .int (nI i))] [] qk qm) : Lt X 824 [(0, .ref (lb X)), (1, .ref (lad X 0)), (2, .ref (lam X 0)), (3, .int (nI i))] [] qk qm := by
  refine l_aload C 1 rfl rfl dL_law_824 ?_
  obtain ⟨z, qk2, qm2, hk, hm, hI2⟩ := hs qk qm hI
  refine l_callK (as := []) C (c_K_undo hk) rfl (gd_V (tg 1019 (by decide +kernel) rfl) (tg 1020 (by decide +kernel) rfl) (tg 1021 (by decide +kernel) rfl) (tg 115 (by decide +kernel) rfl) (tg 1022 (by decide +kernel) rfl)) ⟨rfl, rfl, Nat.le_of_ble_eq_true rfl, Nat.le_of_ble_eq_true rfl⟩ (by show Option.map _ (parseMethodDescriptor yX10_undo.desc) = some 0; decide +kernel) (Nat.le_of_ble_eq_true rfl) rfl dL_law_825 ?_
  refine l_aload C 2 rfl rfl dL_law_828 ?_
  refine l_callM (as := []) C (c_M_undo hm) rfl (gd_V (tg 1398 (by decide +kernel) rfl) (tg 1399 (by decide +kernel) rfl) (tg 1400 (by decide +kernel) rfl) (tg 128 (by decide +kernel) rfl) (tg 1401 (by decide +kernel) rfl)) ⟨rfl, rfl, Nat.le_of_ble_eq_true rfl, Nat.le_of_ble_eq_true rfl⟩ (by show Option.map _ (parseMethodDescriptor yX11_undo.desc) = some 0; decide +kernel) (Nat.le_of_ble_eq_true rfl) rfl dL_law_829 ?_
  exact l_icmp_eq C 1521 (by decide) dL_law_832 (fun _ => hn _ _ hI2) (fun h => absurd rfl h)
def Sp_receivers (Inv : St → St → Prop) : Prop := ∀ (qk qm : St), Inv qk qm → ∃ (z : Int32), K_receivers qk = some z ∧ M_receivers qm = some z
theorem lc_receivers {X : Lv} (C : Lx X) {i : Nat} (hi : i + 6 ≤ lL X) (hL : lL X ≤ 3072) {Inv : St → St → Prop} (hs : Sp_receivers Inv) {qk qm : St} (hI : Inv qk qm) (hn : ∀ qk qm : St, Inv qk qm → Lt X 1521 [(0, .ref (lb X)), (1, .ref (lad X 0)), (2, .ref (lam X 0)), (3, .int (nI i))] [] qk qm) : Lt X 837 [(0, .ref (lb X)), (1, .ref (lad X 0)), (2, .ref (lam X 0)), (3, .int (nI i))] [] qk qm := by
  refine l_aload C 1 rfl rfl dL_law_837 ?_
  obtain ⟨z, hk, hm⟩ := hs qk qm hI
  refine l_callK (as := []) C (c_K_receivers hk) rfl (gd_V (tg 1027 (by decide +kernel) rfl) (tg 1028 (by decide +kernel) rfl) (tg 1029 (by decide +kernel) rfl) (tg 115 (by decide +kernel) rfl) (tg 1030 (by decide +kernel) rfl)) ⟨rfl, rfl, Nat.le_of_ble_eq_true rfl, Nat.le_of_ble_eq_true rfl⟩ (by show Option.map _ (parseMethodDescriptor yX10_receivers.desc) = some 0; decide +kernel) (Nat.le_of_ble_eq_true rfl) rfl dL_law_838 ?_
  refine l_aload C 2 rfl rfl dL_law_841 ?_
  refine l_callM (as := []) C (c_M_receivers hm) rfl (gd_V (tg 1659 (by decide +kernel) rfl) (tg 1660 (by decide +kernel) rfl) (tg 1661 (by decide +kernel) rfl) (tg 128 (by decide +kernel) rfl) (tg 1662 (by decide +kernel) rfl)) ⟨rfl, rfl, Nat.le_of_ble_eq_true rfl, Nat.le_of_ble_eq_true rfl⟩ (by show Option.map _ (parseMethodDescriptor yX11_receivers.desc) = some 0; decide +kernel) (Nat.le_of_ble_eq_true rfl) rfl dL_law_842 ?_
  exact l_icmp_eq C 1521 (by decide) dL_law_845 (fun _ => hn _ _ hI) (fun h => absurd rfl h)
def Sp_hasLeft (Inv : St → St → Prop) : Prop := ∀ (qk qm : St) (v1 : Int32), Inv qk qm → ∃ (z : Int32), K_hasLeft qk v1 = some z ∧ M_hasLeft qm v1 = some z
theorem lc_hasLeft {X : Lv} (C : Lx X) {i : Nat} (hi : i + 6 ≤ lL X) (hL : lL X ≤ 3072) {Inv : St → St → Prop} (hs : Sp_hasLeft Inv) {qk qm : St} (hI : Inv qk qm) (hn : ∀ qk qm : St, Inv qk qm → Lt X 1521 [(0, .ref (lb X)), (1, .ref (lad X 0)), (2, .ref (lam X 0)), (3, .int (nI i))] [] qk qm) : Lt X 850 [(0, .ref (lb X)), (1, .ref (lad X 0)), (2, .ref (lam X 0)), (3, .int (nI i))] [] qk qm := by
  refine l_aload C 1 rfl rfl dL_law_850 ?_
  refine l_aload C 0 rfl rfl dL_law_851 ?_
  refine l_iload C 3 rfl rfl dL_law_852 ?_
  refine l_iconst (v := 1) C (by decide) dL_law_853 ?_
  refine l_iadd C dL_law_854 ?_
  refine l_sld C (in_k 1 (by decide) hi hL) dL_law_855 ?_
  obtain ⟨z, hk, hm⟩ := hs qk qm (lxs X (nI i + nI 1).toNatClampNeg) hI
  refine l_callK (as := [.int (lxs X (nI i + nI 1).toNatClampNeg)]) C (c_K_hasLeft hk) rfl (gd_V (tg 1031 (by decide +kernel) rfl) (tg 1032 (by decide +kernel) rfl) (tg 1033 (by decide +kernel) rfl) (tg 115 (by decide +kernel) rfl) (tg 1034 (by decide +kernel) rfl)) ⟨rfl, rfl, Nat.le_of_ble_eq_true rfl, Nat.le_of_ble_eq_true rfl⟩ (by show Option.map _ (parseMethodDescriptor yX10_hasLeft.desc) = some 1; decide +kernel) (Nat.le_of_ble_eq_true rfl) rfl dL_law_856 ?_
  refine l_aload C 2 rfl rfl dL_law_859 ?_
  refine l_aload C 0 rfl rfl dL_law_860 ?_
  refine l_iload C 3 rfl rfl dL_law_861 ?_
  refine l_iconst (v := 1) C (by decide) dL_law_862 ?_
  refine l_iadd C dL_law_863 ?_
  refine l_sld C (in_k 1 (by decide) hi hL) dL_law_864 ?_
  refine l_callM (as := [.int (lxs X (nI i + nI 1).toNatClampNeg)]) C (c_M_hasLeft hm) rfl (gd_V (tg 1663 (by decide +kernel) rfl) (tg 1664 (by decide +kernel) rfl) (tg 1665 (by decide +kernel) rfl) (tg 128 (by decide +kernel) rfl) (tg 1666 (by decide +kernel) rfl)) ⟨rfl, rfl, Nat.le_of_ble_eq_true rfl, Nat.le_of_ble_eq_true rfl⟩ (by show Option.map _ (parseMethodDescriptor yX11_hasLeft.desc) = some 1; decide +kernel) (Nat.le_of_ble_eq_true rfl) rfl dL_law_865 ?_
  exact l_icmp_eq C 1521 (by decide) dL_law_868 (fun _ => hn _ _ hI) (fun h => absurd rfl h)
def Sp_level (Inv : St → St → Prop) : Prop := ∀ (qk qm : St) (v1 : Int32), Inv qk qm → ∃ (z : Int32), K_level qk v1 = some z ∧ M_level qm v1 = some z
theorem lc_level {X : Lv} (C : Lx X) {i : Nat} (hi : i + 6 ≤ lL X) (hL : lL X ≤ 3072) {Inv : St → St → Prop} (hs : Sp_level Inv) {qk qm : St} (hI : Inv qk qm) (hn : ∀ qk qm : St, Inv qk qm → Lt X 1521 [(0, .ref (lb X)), (1, .ref (lad X 0)), (2, .ref (lam X 0)), (3, .int (nI i))] [] qk qm) : Lt X 873 [(0, .ref (lb X)), (1, .ref (lad X 0)), (2, .ref (lam X 0)), (3, .int (nI i))] [] qk qm := by
  refine l_aload C 1 rfl rfl dL_law_873 ?_
  refine l_aload C 0 rfl rfl dL_law_874 ?_
  refine l_iload C 3 rfl rfl dL_law_875 ?_
  refine l_iconst (v := 1) C (by decide) dL_law_876 ?_
  refine l_iadd C dL_law_877 ?_
  refine l_sld C (in_k 1 (by decide) hi hL) dL_law_878 ?_
  obtain ⟨z, hk, hm⟩ := hs qk qm (lxs X (nI i + nI 1).toNatClampNeg) hI
  refine l_callK (as := [.int (lxs X (nI i + nI 1).toNatClampNeg)]) C (c_K_level hk) rfl (gd_V (tg 1035 (by decide +kernel) rfl) (tg 1036 (by decide +kernel) rfl) (tg 1037 (by decide +kernel) rfl) (tg 115 (by decide +kernel) rfl) (tg 1038 (by decide +kernel) rfl)) ⟨rfl, rfl, Nat.le_of_ble_eq_true rfl, Nat.le_of_ble_eq_true rfl⟩ (by show Option.map _ (parseMethodDescriptor yX10_level.desc) = some 1; decide +kernel) (Nat.le_of_ble_eq_true rfl) rfl dL_law_879 ?_
  refine l_aload C 2 rfl rfl dL_law_882 ?_
  refine l_aload C 0 rfl rfl dL_law_883 ?_
  refine l_iload C 3 rfl rfl dL_law_884 ?_
  refine l_iconst (v := 1) C (by decide) dL_law_885 ?_
  refine l_iadd C dL_law_886 ?_
  refine l_sld C (in_k 1 (by decide) hi hL) dL_law_887 ?_
  refine l_callM (as := [.int (lxs X (nI i + nI 1).toNatClampNeg)]) C (c_M_level hm) rfl (gd_V (tg 1667 (by decide +kernel) rfl) (tg 1668 (by decide +kernel) rfl) (tg 1669 (by decide +kernel) rfl) (tg 128 (by decide +kernel) rfl) (tg 1670 (by decide +kernel) rfl)) ⟨rfl, rfl, Nat.le_of_ble_eq_true rfl, Nat.le_of_ble_eq_true rfl⟩ (by show Option.map _ (parseMethodDescriptor yX11_level.desc) = some 1; decide +kernel) (Nat.le_of_ble_eq_true rfl) rfl dL_law_888 ?_
  exact l_icmp_eq C 1521 (by decide) dL_law_891 (fun _ => hn _ _ hI) (fun h => absurd rfl h)
def Sp_wanted (Inv : St → St → Prop) : Prop := ∀ (qk qm : St) (v1 : Int32), Inv qk qm → ∃ (z : Int32), K_wanted qk v1 = some z ∧ M_wanted qm v1 = some z
theorem lc_wanted {X : Lv} (C : Lx X) {i : Nat} (hi : i + 6 ≤ lL X) (hL : lL X ≤ 3072) {Inv : St → St → Prop} (hs : Sp_wanted Inv) {qk qm : St} (hI : Inv qk qm) (hn : ∀ qk qm : St, Inv qk qm → Lt X 1521 [(0, .ref (lb X)), (1, .ref (lad X 0)), (2, .ref (lam X 0)), (3, .int (nI i))] [] qk qm) : Lt X 896 [(0, .ref (lb X)), (1, .ref (lad X 0)), (2, .ref (lam X 0)), (3, .int (nI i))] [] qk qm := by
  refine l_aload C 1 rfl rfl dL_law_896 ?_
  refine l_aload C 0 rfl rfl dL_law_897 ?_
  refine l_iload C 3 rfl rfl dL_law_898 ?_
  refine l_iconst (v := 1) C (by decide) dL_law_899 ?_
  refine l_iadd C dL_law_900 ?_
  refine l_sld C (in_k 1 (by decide) hi hL) dL_law_901 ?_
  obtain ⟨z, hk, hm⟩ := hs qk qm (lxs X (nI i + nI 1).toNatClampNeg) hI
  refine l_callK (as := [.int (lxs X (nI i + nI 1).toNatClampNeg)]) C (c_K_wanted hk) rfl (gd_V (tg 1039 (by decide +kernel) rfl) (tg 1040 (by decide +kernel) rfl) (tg 1041 (by decide +kernel) rfl) (tg 115 (by decide +kernel) rfl) (tg 1042 (by decide +kernel) rfl)) ⟨rfl, rfl, Nat.le_of_ble_eq_true rfl, Nat.le_of_ble_eq_true rfl⟩ (by show Option.map _ (parseMethodDescriptor yX10_wanted.desc) = some 1; decide +kernel) (Nat.le_of_ble_eq_true rfl) rfl dL_law_902 ?_
  refine l_aload C 2 rfl rfl dL_law_905 ?_
  refine l_aload C 0 rfl rfl dL_law_906 ?_
  refine l_iload C 3 rfl rfl dL_law_907 ?_
  refine l_iconst (v := 1) C (by decide) dL_law_908 ?_
  refine l_iadd C dL_law_909 ?_
  refine l_sld C (in_k 1 (by decide) hi hL) dL_law_910 ?_
  refine l_callM (as := [.int (lxs X (nI i + nI 1).toNatClampNeg)]) C (c_M_wanted hm) rfl (gd_V (tg 1671 (by decide +kernel) rfl) (tg 1672 (by decide +kernel) rfl) (tg 1673 (by decide +kernel) rfl) (tg 128 (by decide +kernel) rfl) (tg 1674 (by decide +kernel) rfl)) ⟨rfl, rfl, Nat.le_of_ble_eq_true rfl, Nat.le_of_ble_eq_true rfl⟩ (by show Option.map _ (parseMethodDescriptor yX11_wanted.desc) = some 1; decide +kernel) (Nat.le_of_ble_eq_true rfl) rfl dL_law_911 ?_
  exact l_icmp_eq C 1521 (by decide) dL_law_914 (fun _ => hn _ _ hI) (fun h => absurd rfl h)
def Sp_servedAt (Inv : St → St → Prop) : Prop := ∀ (qk qm : St) (v1 : Int32), Inv qk qm → ∃ (z : Int32), K_servedAt qk v1 = some z ∧ M_servedAt qm v1 = some z
theorem lc_servedAt {X : Lv} (C : Lx X) {i : Nat} (hi : i + 6 ≤ lL X) (hL : lL X ≤ 3072) {Inv : St → St → Prop} (hs : Sp_servedAt Inv) {qk qm : St} (hI : Inv qk qm) (hn : ∀ qk qm : St, Inv qk qm → Lt X 1521 [(0, .ref (lb X)), (1, .ref (lad X 0)), (2, .ref (lam X 0)), (3, .int (nI i))] [] qk qm) : Lt X 919 [(0, .ref (lb X)), (1, .ref (lad X 0)), (2, .ref (lam X 0)), (3, .int (nI i))] [] qk qm := by
  refine l_aload C 1 rfl rfl dL_law_919 ?_
  refine l_aload C 0 rfl rfl dL_law_920 ?_
  refine l_iload C 3 rfl rfl dL_law_921 ?_
  refine l_iconst (v := 1) C (by decide) dL_law_922 ?_
  refine l_iadd C dL_law_923 ?_
  refine l_sld C (in_k 1 (by decide) hi hL) dL_law_924 ?_
  obtain ⟨z, hk, hm⟩ := hs qk qm (lxs X (nI i + nI 1).toNatClampNeg) hI
  refine l_callK (as := [.int (lxs X (nI i + nI 1).toNatClampNeg)]) C (c_K_servedAt hk) rfl (gd_V (tg 1043 (by decide +kernel) rfl) (tg 1044 (by decide +kernel) rfl) (tg 1045 (by decide +kernel) rfl) (tg 115 (by decide +kernel) rfl) (tg 1046 (by decide +kernel) rfl)) ⟨rfl, rfl, Nat.le_of_ble_eq_true rfl, Nat.le_of_ble_eq_true rfl⟩ (by show Option.map _ (parseMethodDescriptor yX10_servedAt.desc) = some 1; decide +kernel) (Nat.le_of_ble_eq_true rfl) rfl dL_law_925 ?_
  refine l_aload C 2 rfl rfl dL_law_928 ?_
  refine l_aload C 0 rfl rfl dL_law_929 ?_
  refine l_iload C 3 rfl rfl dL_law_930 ?_
  refine l_iconst (v := 1) C (by decide) dL_law_931 ?_
  refine l_iadd C dL_law_932 ?_
  refine l_sld C (in_k 1 (by decide) hi hL) dL_law_933 ?_
  refine l_callM (as := [.int (lxs X (nI i + nI 1).toNatClampNeg)]) C (c_M_servedAt hm) rfl (gd_V (tg 1675 (by decide +kernel) rfl) (tg 1676 (by decide +kernel) rfl) (tg 1677 (by decide +kernel) rfl) (tg 128 (by decide +kernel) rfl) (tg 1678 (by decide +kernel) rfl)) ⟨rfl, rfl, Nat.le_of_ble_eq_true rfl, Nat.le_of_ble_eq_true rfl⟩ (by show Option.map _ (parseMethodDescriptor yX11_servedAt.desc) = some 1; decide +kernel) (Nat.le_of_ble_eq_true rfl) rfl dL_law_934 ?_
  exact l_icmp_eq C 1521 (by decide) dL_law_937 (fun _ => hn _ _ hI) (fun h => absurd rfl h)
def Sp_pathNode (Inv : St → St → Prop) : Prop := ∀ (qk qm : St) (v1 v2 : Int32), Inv qk qm → ∃ (z : Int32), K_pathNode qk v1 v2 = some z ∧ M_pathNode qm v1 v2 = some z
theorem lc_pathNode {X : Lv} (C : Lx X) {i : Nat} (hi : i + 6 ≤ lL X) (hL : lL X ≤ 3072) {Inv : St → St → Prop} (hs : Sp_pathNode Inv) {qk qm : St} (hI : Inv qk qm) (hn : ∀ qk qm : St, Inv qk qm → Lt X 1521 [(0, .ref (lb X)), (1, .ref (lad X 0)), (2, .ref (lam X 0)), (3, .int (nI i))] [] qk qm) : Lt X 942 [(0, .ref (lb X)), (1, .ref (lad X 0)), (2, .ref (lam X 0)), (3, .int (nI i))] [] qk qm := by
  refine l_aload C 1 rfl rfl dL_law_942 ?_
  refine l_aload C 0 rfl rfl dL_law_943 ?_
  refine l_iload C 3 rfl rfl dL_law_944 ?_
  refine l_iconst (v := 1) C (by decide) dL_law_945 ?_
  refine l_iadd C dL_law_946 ?_
  refine l_sld C (in_k 1 (by decide) hi hL) dL_law_947 ?_
  refine l_aload C 0 rfl rfl dL_law_948 ?_
  refine l_iload C 3 rfl rfl dL_law_949 ?_
  refine l_iconst (v := 2) C (by decide) dL_law_950 ?_
  refine l_iadd C dL_law_951 ?_
  refine l_sld C (in_k 2 (by decide) hi hL) dL_law_952 ?_
  obtain ⟨z, hk, hm⟩ := hs qk qm (lxs X (nI i + nI 1).toNatClampNeg) (lxs X (nI i + nI 2).toNatClampNeg) hI
  refine l_callK (as := [.int (lxs X (nI i + nI 1).toNatClampNeg), .int (lxs X (nI i + nI 2).toNatClampNeg)]) C (c_K_pathNode hk) rfl (gd_V (tg 1048 (by decide +kernel) rfl) (tg 1049 (by decide +kernel) rfl) (tg 1050 (by decide +kernel) rfl) (tg 115 (by decide +kernel) rfl) (tg 1051 (by decide +kernel) rfl)) ⟨rfl, rfl, Nat.le_of_ble_eq_true rfl, Nat.le_of_ble_eq_true rfl⟩ (by show Option.map _ (parseMethodDescriptor yX10_pathNode.desc) = some 2; decide +kernel) (Nat.le_of_ble_eq_true rfl) rfl dL_law_953 ?_
  refine l_aload C 2 rfl rfl dL_law_956 ?_
  refine l_aload C 0 rfl rfl dL_law_957 ?_
  refine l_iload C 3 rfl rfl dL_law_958 ?_
  refine l_iconst (v := 1) C (by decide) dL_law_959 ?_
  refine l_iadd C dL_law_960 ?_
  refine l_sld C (in_k 1 (by decide) hi hL) dL_law_961 ?_
  refine l_aload C 0 rfl rfl dL_law_962 ?_
  refine l_iload C 3 rfl rfl dL_law_963 ?_
  refine l_iconst (v := 2) C (by decide) dL_law_964 ?_
  refine l_iadd C dL_law_965 ?_
  refine l_sld C (in_k 2 (by decide) hi hL) dL_law_966 ?_
  refine l_callM (as := [.int (lxs X (nI i + nI 1).toNatClampNeg), .int (lxs X (nI i + nI 2).toNatClampNeg)]) C (c_M_pathNode hm) rfl (gd_V (tg 1679 (by decide +kernel) rfl) (tg 1680 (by decide +kernel) rfl) (tg 1681 (by decide +kernel) rfl) (tg 128 (by decide +kernel) rfl) (tg 1682 (by decide +kernel) rfl)) ⟨rfl, rfl, Nat.le_of_ble_eq_true rfl, Nat.le_of_ble_eq_true rfl⟩ (by show Option.map _ (parseMethodDescriptor yX11_pathNode.desc) = some 2; decide +kernel) (Nat.le_of_ble_eq_true rfl) rfl dL_law_967 ?_
  exact l_icmp_eq C 1521 (by decide) dL_law_970 (fun _ => hn _ _ hI) (fun h => absurd rfl h)
def Sp_bottleneck (Inv : St → St → Prop) : Prop := ∀ (qk qm : St) (v1 : Int32), Inv qk qm → ∃ (z : Int32) (qk2 : St) (qm2 : St), K_bottleneck qk v1 = some (z, qk2) ∧ M_bottleneck qm v1 = some (z, qm2) ∧ Inv qk2 qm2
theorem lc_bottleneck {X : Lv} (C : Lx X) {i : Nat} (hi : i + 6 ≤ lL X) (hL : lL X ≤ 3072) {Inv : St → St → Prop} (hs : Sp_bottleneck Inv) {qk qm : St} (hI : Inv qk qm) (hn : ∀ qk qm : St, Inv qk qm → Lt X 1521 [(0, .ref (lb X)), (1, .ref (lad X 0)), (2, .ref (lam X 0)), (3, .int (nI i))] [] qk qm) : Lt X 975 [(0, .ref (lb X)), (1, .ref (lad X 0)), (2, .ref (lam X 0)), (3, .int (nI i))] [] qk qm := by
  refine l_aload C 1 rfl rfl dL_law_975 ?_
  refine l_aload C 0 rfl rfl dL_law_976 ?_
  refine l_iload C 3 rfl rfl dL_law_977 ?_
  refine l_iconst (v := 1) C (by decide) dL_law_978 ?_
  refine l_iadd C dL_law_979 ?_
  refine l_sld C (in_k 1 (by decide) hi hL) dL_law_980 ?_
  obtain ⟨z, qk2, qm2, hk, hm, hI2⟩ := hs qk qm (lxs X (nI i + nI 1).toNatClampNeg) hI
  refine l_callK (as := [.int (lxs X (nI i + nI 1).toNatClampNeg)]) C (c_K_bottleneck hk) rfl (gd_V (tg 1053 (by decide +kernel) rfl) (tg 1054 (by decide +kernel) rfl) (tg 1055 (by decide +kernel) rfl) (tg 115 (by decide +kernel) rfl) (tg 1056 (by decide +kernel) rfl)) ⟨rfl, rfl, Nat.le_of_ble_eq_true rfl, Nat.le_of_ble_eq_true rfl⟩ (by show Option.map _ (parseMethodDescriptor yX10_bottleneck.desc) = some 1; decide +kernel) (Nat.le_of_ble_eq_true rfl) rfl dL_law_981 ?_
  refine l_aload C 2 rfl rfl dL_law_984 ?_
  refine l_aload C 0 rfl rfl dL_law_985 ?_
  refine l_iload C 3 rfl rfl dL_law_986 ?_
  refine l_iconst (v := 1) C (by decide) dL_law_987 ?_
  refine l_iadd C dL_law_988 ?_
  refine l_sld C (in_k 1 (by decide) hi hL) dL_law_989 ?_
  refine l_callM (as := [.int (lxs X (nI i + nI 1).toNatClampNeg)]) C (c_M_bottleneck hm) rfl (gd_V (tg 1683 (by decide +kernel) rfl) (tg 1684 (by decide +kernel) rfl) (tg 1685 (by decide +kernel) rfl) (tg 128 (by decide +kernel) rfl) (tg 1686 (by decide +kernel) rfl)) ⟨rfl, rfl, Nat.le_of_ble_eq_true rfl, Nat.le_of_ble_eq_true rfl⟩ (by show Option.map _ (parseMethodDescriptor yX11_bottleneck.desc) = some 1; decide +kernel) (Nat.le_of_ble_eq_true rfl) rfl dL_law_990 ?_
  exact l_icmp_eq C 1521 (by decide) dL_law_993 (fun _ => hn _ _ hI2) (fun h => absurd rfl h)
def Sp_shared (Inv : St → St → Prop) : Prop := ∀ (qk qm : St) (v1 v2 : Int32), Inv qk qm → ∃ (z : Int32), K_shared qk v1 v2 = some z ∧ M_shared qm v1 v2 = some z
theorem lc_shared {X : Lv} (C : Lx X) {i : Nat} (hi : i + 6 ≤ lL X) (hL : lL X ≤ 3072) {Inv : St → St → Prop} (hs : Sp_shared Inv) {qk qm : St} (hI : Inv qk qm) (hn : ∀ qk qm : St, Inv qk qm → Lt X 1521 [(0, .ref (lb X)), (1, .ref (lad X 0)), (2, .ref (lam X 0)), (3, .int (nI i))] [] qk qm) : Lt X 998 [(0, .ref (lb X)), (1, .ref (lad X 0)), (2, .ref (lam X 0)), (3, .int (nI i))] [] qk qm := by
  refine l_aload C 1 rfl rfl dL_law_998 ?_
  refine l_aload C 0 rfl rfl dL_law_999 ?_
  refine l_iload C 3 rfl rfl dL_law_1000 ?_
  refine l_iconst (v := 1) C (by decide) dL_law_1001 ?_
  refine l_iadd C dL_law_1002 ?_
  refine l_sld C (in_k 1 (by decide) hi hL) dL_law_1003 ?_
  refine l_aload C 0 rfl rfl dL_law_1004 ?_
  refine l_iload C 3 rfl rfl dL_law_1005 ?_
  refine l_iconst (v := 2) C (by decide) dL_law_1006 ?_
  refine l_iadd C dL_law_1007 ?_
  refine l_sld C (in_k 2 (by decide) hi hL) dL_law_1008 ?_
  obtain ⟨z, hk, hm⟩ := hs qk qm (lxs X (nI i + nI 1).toNatClampNeg) (lxs X (nI i + nI 2).toNatClampNeg) hI
  refine l_callK (as := [.int (lxs X (nI i + nI 1).toNatClampNeg), .int (lxs X (nI i + nI 2).toNatClampNeg)]) C (c_K_shared hk) rfl (gd_V (tg 1059 (by decide +kernel) rfl) (tg 1060 (by decide +kernel) rfl) (tg 1061 (by decide +kernel) rfl) (tg 115 (by decide +kernel) rfl) (tg 1062 (by decide +kernel) rfl)) ⟨rfl, rfl, Nat.le_of_ble_eq_true rfl, Nat.le_of_ble_eq_true rfl⟩ (by show Option.map _ (parseMethodDescriptor yX10_shared.desc) = some 2; decide +kernel) (Nat.le_of_ble_eq_true rfl) rfl dL_law_1009 ?_
  refine l_aload C 2 rfl rfl dL_law_1012 ?_
  refine l_aload C 0 rfl rfl dL_law_1013 ?_
  refine l_iload C 3 rfl rfl dL_law_1014 ?_
  refine l_iconst (v := 1) C (by decide) dL_law_1015 ?_
  refine l_iadd C dL_law_1016 ?_
  refine l_sld C (in_k 1 (by decide) hi hL) dL_law_1017 ?_
  refine l_aload C 0 rfl rfl dL_law_1018 ?_
  refine l_iload C 3 rfl rfl dL_law_1019 ?_
  refine l_iconst (v := 2) C (by decide) dL_law_1020 ?_
  refine l_iadd C dL_law_1021 ?_
  refine l_sld C (in_k 2 (by decide) hi hL) dL_law_1022 ?_
  refine l_callM (as := [.int (lxs X (nI i + nI 1).toNatClampNeg), .int (lxs X (nI i + nI 2).toNatClampNeg)]) C (c_M_shared hm) rfl (gd_V (tg 1687 (by decide +kernel) rfl) (tg 1688 (by decide +kernel) rfl) (tg 1689 (by decide +kernel) rfl) (tg 128 (by decide +kernel) rfl) (tg 1690 (by decide +kernel) rfl)) ⟨rfl, rfl, Nat.le_of_ble_eq_true rfl, Nat.le_of_ble_eq_true rfl⟩ (by show Option.map _ (parseMethodDescriptor yX11_shared.desc) = some 2; decide +kernel) (Nat.le_of_ble_eq_true rfl) rfl dL_law_1023 ?_
  exact l_icmp_eq C 1521 (by decide) dL_law_1026 (fun _ => hn _ _ hI) (fun h => absurd rfl h)
def Sp_neediest (Inv : St → St → Prop) : Prop := ∀ (qk qm : St), Inv qk qm → ∃ (z : Int32), K_neediest qk = some z ∧ M_neediest qm = some z
theorem lc_neediest {X : Lv} (C : Lx X) {i : Nat} (hi : i + 6 ≤ lL X) (hL : lL X ≤ 3072) {Inv : St → St → Prop} (hs : Sp_neediest Inv) {qk qm : St} (hI : Inv qk qm) (hn : ∀ qk qm : St, Inv qk qm → Lt X 1521 [(0, .ref (lb X)), (1, .ref (lad X 0)), (2, .ref (lam X 0)), (3, .int (nI i))] [] qk qm) : Lt X 1031 [(0, .ref (lb X)), (1, .ref (lad X 0)), (2, .ref (lam X 0)), (3, .int (nI i))] [] qk qm := by
  refine l_aload C 1 rfl rfl dL_law_1031 ?_
  obtain ⟨z, hk, hm⟩ := hs qk qm hI
  refine l_callK (as := []) C (c_K_neediest hk) rfl (gd_V (tg 1070 (by decide +kernel) rfl) (tg 1071 (by decide +kernel) rfl) (tg 1072 (by decide +kernel) rfl) (tg 115 (by decide +kernel) rfl) (tg 1073 (by decide +kernel) rfl)) ⟨rfl, rfl, Nat.le_of_ble_eq_true rfl, Nat.le_of_ble_eq_true rfl⟩ (by show Option.map _ (parseMethodDescriptor yX10_neediest.desc) = some 0; decide +kernel) (Nat.le_of_ble_eq_true rfl) rfl dL_law_1032 ?_
  refine l_aload C 2 rfl rfl dL_law_1035 ?_
  refine l_callM (as := []) C (c_M_neediest hm) rfl (gd_V (tg 1691 (by decide +kernel) rfl) (tg 1692 (by decide +kernel) rfl) (tg 1693 (by decide +kernel) rfl) (tg 128 (by decide +kernel) rfl) (tg 1694 (by decide +kernel) rfl)) ⟨rfl, rfl, Nat.le_of_ble_eq_true rfl, Nat.le_of_ble_eq_true rfl⟩ (by show Option.map _ (parseMethodDescriptor yX11_neediest.desc) = some 0; decide +kernel) (Nat.le_of_ble_eq_true rfl) rfl dL_law_1036 ?_
  exact l_icmp_eq C 1521 (by decide) dL_law_1039 (fun _ => hn _ _ hI) (fun h => absurd rfl h)
def Sp_isInTree (Inv : St → St → Prop) : Prop := ∀ (qk qm : St) (v1 : Int32), Inv qk qm → ∃ (z : Int32), K_isInTree qk v1 = some z ∧ M_isInTree qm v1 = some z
theorem lc_isInTree {X : Lv} (C : Lx X) {i : Nat} (hi : i + 6 ≤ lL X) (hL : lL X ≤ 3072) {Inv : St → St → Prop} (hs : Sp_isInTree Inv) {qk qm : St} (hI : Inv qk qm) (hn : ∀ qk qm : St, Inv qk qm → Lt X 1521 [(0, .ref (lb X)), (1, .ref (lad X 0)), (2, .ref (lam X 0)), (3, .int (nI i))] [] qk qm) : Lt X 1044 [(0, .ref (lb X)), (1, .ref (lad X 0)), (2, .ref (lam X 0)), (3, .int (nI i))] [] qk qm := by
  refine l_aload C 1 rfl rfl dL_law_1044 ?_
  refine l_aload C 0 rfl rfl dL_law_1045 ?_
  refine l_iload C 3 rfl rfl dL_law_1046 ?_
  refine l_iconst (v := 1) C (by decide) dL_law_1047 ?_
  refine l_iadd C dL_law_1048 ?_
  refine l_sld C (in_k 1 (by decide) hi hL) dL_law_1049 ?_
  obtain ⟨z, hk, hm⟩ := hs qk qm (lxs X (nI i + nI 1).toNatClampNeg) hI
  refine l_callK (as := [.int (lxs X (nI i + nI 1).toNatClampNeg)]) C (c_K_isInTree hk) rfl (gd_V (tg 1074 (by decide +kernel) rfl) (tg 1075 (by decide +kernel) rfl) (tg 1076 (by decide +kernel) rfl) (tg 115 (by decide +kernel) rfl) (tg 1077 (by decide +kernel) rfl)) ⟨rfl, rfl, Nat.le_of_ble_eq_true rfl, Nat.le_of_ble_eq_true rfl⟩ (by show Option.map _ (parseMethodDescriptor yX10_isInTree.desc) = some 1; decide +kernel) (Nat.le_of_ble_eq_true rfl) rfl dL_law_1050 ?_
  refine l_aload C 2 rfl rfl dL_law_1053 ?_
  refine l_aload C 0 rfl rfl dL_law_1054 ?_
  refine l_iload C 3 rfl rfl dL_law_1055 ?_
  refine l_iconst (v := 1) C (by decide) dL_law_1056 ?_
  refine l_iadd C dL_law_1057 ?_
  refine l_sld C (in_k 1 (by decide) hi hL) dL_law_1058 ?_
  refine l_callM (as := [.int (lxs X (nI i + nI 1).toNatClampNeg)]) C (c_M_isInTree hm) rfl (gd_V (tg 1695 (by decide +kernel) rfl) (tg 1696 (by decide +kernel) rfl) (tg 1697 (by decide +kernel) rfl) (tg 128 (by decide +kernel) rfl) (tg 1698 (by decide +kernel) rfl)) ⟨rfl, rfl, Nat.le_of_ble_eq_true rfl, Nat.le_of_ble_eq_true rfl⟩ (by show Option.map _ (parseMethodDescriptor yX11_isInTree.desc) = some 1; decide +kernel) (Nat.le_of_ble_eq_true rfl) rfl dL_law_1059 ?_
  exact l_icmp_eq C 1521 (by decide) dL_law_1062 (fun _ => hn _ _ hI) (fun h => absurd rfl h)
def Sp_parent (Inv : St → St → Prop) : Prop := ∀ (qk qm : St) (v1 : Int32), Inv qk qm → ∃ (z : Int32), K_parent qk v1 = some z ∧ M_parent qm v1 = some z
theorem lc_parent {X : Lv} (C : Lx X) {i : Nat} (hi : i + 6 ≤ lL X) (hL : lL X ≤ 3072) {Inv : St → St → Prop} (hs : Sp_parent Inv) {qk qm : St} (hI : Inv qk qm) (hn : ∀ qk qm : St, Inv qk qm → Lt X 1521 [(0, .ref (lb X)), (1, .ref (lad X 0)), (2, .ref (lam X 0)), (3, .int (nI i))] [] qk qm) : Lt X 1067 [(0, .ref (lb X)), (1, .ref (lad X 0)), (2, .ref (lam X 0)), (3, .int (nI i))] [] qk qm := by
  refine l_aload C 1 rfl rfl dL_law_1067 ?_
  refine l_aload C 0 rfl rfl dL_law_1068 ?_
  refine l_iload C 3 rfl rfl dL_law_1069 ?_
  refine l_iconst (v := 1) C (by decide) dL_law_1070 ?_
  refine l_iadd C dL_law_1071 ?_
  refine l_sld C (in_k 1 (by decide) hi hL) dL_law_1072 ?_
  obtain ⟨z, hk, hm⟩ := hs qk qm (lxs X (nI i + nI 1).toNatClampNeg) hI
  refine l_callK (as := [.int (lxs X (nI i + nI 1).toNatClampNeg)]) C (c_K_parent hk) rfl (gd_V (tg 1078 (by decide +kernel) rfl) (tg 1079 (by decide +kernel) rfl) (tg 1080 (by decide +kernel) rfl) (tg 115 (by decide +kernel) rfl) (tg 1081 (by decide +kernel) rfl)) ⟨rfl, rfl, Nat.le_of_ble_eq_true rfl, Nat.le_of_ble_eq_true rfl⟩ (by show Option.map _ (parseMethodDescriptor yX10_parent.desc) = some 1; decide +kernel) (Nat.le_of_ble_eq_true rfl) rfl dL_law_1073 ?_
  refine l_aload C 2 rfl rfl dL_law_1076 ?_
  refine l_aload C 0 rfl rfl dL_law_1077 ?_
  refine l_iload C 3 rfl rfl dL_law_1078 ?_
  refine l_iconst (v := 1) C (by decide) dL_law_1079 ?_
  refine l_iadd C dL_law_1080 ?_
  refine l_sld C (in_k 1 (by decide) hi hL) dL_law_1081 ?_
  refine l_callM (as := [.int (lxs X (nI i + nI 1).toNatClampNeg)]) C (c_M_parent hm) rfl (gd_V (tg 1699 (by decide +kernel) rfl) (tg 1700 (by decide +kernel) rfl) (tg 1701 (by decide +kernel) rfl) (tg 128 (by decide +kernel) rfl) (tg 1702 (by decide +kernel) rfl)) ⟨rfl, rfl, Nat.le_of_ble_eq_true rfl, Nat.le_of_ble_eq_true rfl⟩ (by show Option.map _ (parseMethodDescriptor yX11_parent.desc) = some 1; decide +kernel) (Nat.le_of_ble_eq_true rfl) rfl dL_law_1082 ?_
  exact l_icmp_eq C 1521 (by decide) dL_law_1085 (fun _ => hn _ _ hI) (fun h => absurd rfl h)
def Sp_delay (Inv : St → St → Prop) : Prop := ∀ (qk qm : St) (v1 : Int32), Inv qk qm → ∃ (z : Int32), K_delay qk v1 = some z ∧ M_delay qm v1 = some z
theorem lc_delay {X : Lv} (C : Lx X) {i : Nat} (hi : i + 6 ≤ lL X) (hL : lL X ≤ 3072) {Inv : St → St → Prop} (hs : Sp_delay Inv) {qk qm : St} (hI : Inv qk qm) (hn : ∀ qk qm : St, Inv qk qm → Lt X 1521 [(0, .ref (lb X)), (1, .ref (lad X 0)), (2, .ref (lam X 0)), (3, .int (nI i))] [] qk qm) : Lt X 1090 [(0, .ref (lb X)), (1, .ref (lad X 0)), (2, .ref (lam X 0)), (3, .int (nI i))] [] qk qm := by
  refine l_aload C 1 rfl rfl dL_law_1090 ?_
  refine l_aload C 0 rfl rfl dL_law_1091 ?_
  refine l_iload C 3 rfl rfl dL_law_1092 ?_
  refine l_iconst (v := 1) C (by decide) dL_law_1093 ?_
  refine l_iadd C dL_law_1094 ?_
  refine l_sld C (in_k 1 (by decide) hi hL) dL_law_1095 ?_
  obtain ⟨z, hk, hm⟩ := hs qk qm (lxs X (nI i + nI 1).toNatClampNeg) hI
  refine l_callK (as := [.int (lxs X (nI i + nI 1).toNatClampNeg)]) C (c_K_delay hk) rfl (gd_V (tg 1082 (by decide +kernel) rfl) (tg 1083 (by decide +kernel) rfl) (tg 1084 (by decide +kernel) rfl) (tg 115 (by decide +kernel) rfl) (tg 1085 (by decide +kernel) rfl)) ⟨rfl, rfl, Nat.le_of_ble_eq_true rfl, Nat.le_of_ble_eq_true rfl⟩ (by show Option.map _ (parseMethodDescriptor yX10_delay.desc) = some 1; decide +kernel) (Nat.le_of_ble_eq_true rfl) rfl dL_law_1096 ?_
  refine l_aload C 2 rfl rfl dL_law_1099 ?_
  refine l_aload C 0 rfl rfl dL_law_1100 ?_
  refine l_iload C 3 rfl rfl dL_law_1101 ?_
  refine l_iconst (v := 1) C (by decide) dL_law_1102 ?_
  refine l_iadd C dL_law_1103 ?_
  refine l_sld C (in_k 1 (by decide) hi hL) dL_law_1104 ?_
  refine l_callM (as := [.int (lxs X (nI i + nI 1).toNatClampNeg)]) C (c_M_delay hm) rfl (gd_V (tg 1703 (by decide +kernel) rfl) (tg 1704 (by decide +kernel) rfl) (tg 1705 (by decide +kernel) rfl) (tg 128 (by decide +kernel) rfl) (tg 1706 (by decide +kernel) rfl)) ⟨rfl, rfl, Nat.le_of_ble_eq_true rfl, Nat.le_of_ble_eq_true rfl⟩ (by show Option.map _ (parseMethodDescriptor yX11_delay.desc) = some 1; decide +kernel) (Nat.le_of_ble_eq_true rfl) rfl dL_law_1105 ?_
  exact l_icmp_eq C 1521 (by decide) dL_law_1108 (fun _ => hn _ _ hI) (fun h => absurd rfl h)
def Sp_below (Inv : St → St → Prop) : Prop := ∀ (qk qm : St) (v1 : Int32), Inv qk qm → ∃ (z : Int32), K_below qk v1 = some z ∧ M_below qm v1 = some z
theorem lc_below {X : Lv} (C : Lx X) {i : Nat} (hi : i + 6 ≤ lL X) (hL : lL X ≤ 3072) {Inv : St → St → Prop} (hs : Sp_below Inv) {qk qm : St} (hI : Inv qk qm) (hn : ∀ qk qm : St, Inv qk qm → Lt X 1521 [(0, .ref (lb X)), (1, .ref (lad X 0)), (2, .ref (lam X 0)), (3, .int (nI i))] [] qk qm) : Lt X 1113 [(0, .ref (lb X)), (1, .ref (lad X 0)), (2, .ref (lam X 0)), (3, .int (nI i))] [] qk qm := by
  refine l_aload C 1 rfl rfl dL_law_1113 ?_
  refine l_aload C 0 rfl rfl dL_law_1114 ?_
  refine l_iload C 3 rfl rfl dL_law_1115 ?_
  refine l_iconst (v := 1) C (by decide) dL_law_1116 ?_
  refine l_iadd C dL_law_1117 ?_
  refine l_sld C (in_k 1 (by decide) hi hL) dL_law_1118 ?_
  obtain ⟨z, hk, hm⟩ := hs qk qm (lxs X (nI i + nI 1).toNatClampNeg) hI
  refine l_callK (as := [.int (lxs X (nI i + nI 1).toNatClampNeg)]) C (c_K_below hk) rfl (gd_V (tg 1087 (by decide +kernel) rfl) (tg 1088 (by decide +kernel) rfl) (tg 1089 (by decide +kernel) rfl) (tg 115 (by decide +kernel) rfl) (tg 1090 (by decide +kernel) rfl)) ⟨rfl, rfl, Nat.le_of_ble_eq_true rfl, Nat.le_of_ble_eq_true rfl⟩ (by show Option.map _ (parseMethodDescriptor yX10_below.desc) = some 1; decide +kernel) (Nat.le_of_ble_eq_true rfl) rfl dL_law_1119 ?_
  refine l_aload C 2 rfl rfl dL_law_1122 ?_
  refine l_aload C 0 rfl rfl dL_law_1123 ?_
  refine l_iload C 3 rfl rfl dL_law_1124 ?_
  refine l_iconst (v := 1) C (by decide) dL_law_1125 ?_
  refine l_iadd C dL_law_1126 ?_
  refine l_sld C (in_k 1 (by decide) hi hL) dL_law_1127 ?_
  refine l_callM (as := [.int (lxs X (nI i + nI 1).toNatClampNeg)]) C (c_M_below hm) rfl (gd_V (tg 1707 (by decide +kernel) rfl) (tg 1708 (by decide +kernel) rfl) (tg 1709 (by decide +kernel) rfl) (tg 128 (by decide +kernel) rfl) (tg 1710 (by decide +kernel) rfl)) ⟨rfl, rfl, Nat.le_of_ble_eq_true rfl, Nat.le_of_ble_eq_true rfl⟩ (by show Option.map _ (parseMethodDescriptor yX11_below.desc) = some 1; decide +kernel) (Nat.le_of_ble_eq_true rfl) rfl dL_law_1128 ?_
  exact l_icmp_eq C 1521 (by decide) dL_law_1131 (fun _ => hn _ _ hI) (fun h => absurd rfl h)
def Sp_demand (Inv : St → St → Prop) : Prop := ∀ (qk qm : St) (v1 v2 : Int32), Inv qk qm → ∃ (z : Int32) (qk2 : St) (qm2 : St), K_demand qk v1 v2 = some (z, qk2) ∧ M_demand qm v1 v2 = some (z, qm2) ∧ Inv qk2 qm2
theorem lc_demand {X : Lv} (C : Lx X) {i : Nat} (hi : i + 6 ≤ lL X) (hL : lL X ≤ 3072) {Inv : St → St → Prop} (hs : Sp_demand Inv) {qk qm : St} (hI : Inv qk qm) (hn : ∀ qk qm : St, Inv qk qm → Lt X 1521 [(0, .ref (lb X)), (1, .ref (lad X 0)), (2, .ref (lam X 0)), (3, .int (nI i))] [] qk qm) : Lt X 1136 [(0, .ref (lb X)), (1, .ref (lad X 0)), (2, .ref (lam X 0)), (3, .int (nI i))] [] qk qm := by
  refine l_aload C 1 rfl rfl dL_law_1136 ?_
  refine l_aload C 0 rfl rfl dL_law_1137 ?_
  refine l_iload C 3 rfl rfl dL_law_1138 ?_
  refine l_iconst (v := 1) C (by decide) dL_law_1139 ?_
  refine l_iadd C dL_law_1140 ?_
  refine l_sld C (in_k 1 (by decide) hi hL) dL_law_1141 ?_
  refine l_aload C 0 rfl rfl dL_law_1142 ?_
  refine l_iload C 3 rfl rfl dL_law_1143 ?_
  refine l_iconst (v := 2) C (by decide) dL_law_1144 ?_
  refine l_iadd C dL_law_1145 ?_
  refine l_sld C (in_k 2 (by decide) hi hL) dL_law_1146 ?_
  obtain ⟨z, qk2, qm2, hk, hm, hI2⟩ := hs qk qm (lxs X (nI i + nI 1).toNatClampNeg) (lxs X (nI i + nI 2).toNatClampNeg) hI
  refine l_callK (as := [.int (lxs X (nI i + nI 1).toNatClampNeg), .int (lxs X (nI i + nI 2).toNatClampNeg)]) C (c_K_demand hk) rfl (gd_V (tg 1092 (by decide +kernel) rfl) (tg 1093 (by decide +kernel) rfl) (tg 1094 (by decide +kernel) rfl) (tg 115 (by decide +kernel) rfl) (tg 1095 (by decide +kernel) rfl)) ⟨rfl, rfl, Nat.le_of_ble_eq_true rfl, Nat.le_of_ble_eq_true rfl⟩ (by show Option.map _ (parseMethodDescriptor yX10_demand.desc) = some 2; decide +kernel) (Nat.le_of_ble_eq_true rfl) rfl dL_law_1147 ?_
  refine l_aload C 2 rfl rfl dL_law_1150 ?_
  refine l_aload C 0 rfl rfl dL_law_1151 ?_
  refine l_iload C 3 rfl rfl dL_law_1152 ?_
  refine l_iconst (v := 1) C (by decide) dL_law_1153 ?_
  refine l_iadd C dL_law_1154 ?_
  refine l_sld C (in_k 1 (by decide) hi hL) dL_law_1155 ?_
  refine l_aload C 0 rfl rfl dL_law_1156 ?_
  refine l_iload C 3 rfl rfl dL_law_1157 ?_
  refine l_iconst (v := 2) C (by decide) dL_law_1158 ?_
  refine l_iadd C dL_law_1159 ?_
  refine l_sld C (in_k 2 (by decide) hi hL) dL_law_1160 ?_
  refine l_callM (as := [.int (lxs X (nI i + nI 1).toNatClampNeg), .int (lxs X (nI i + nI 2).toNatClampNeg)]) C (c_M_demand hm) rfl (gd_V (tg 1711 (by decide +kernel) rfl) (tg 1712 (by decide +kernel) rfl) (tg 1713 (by decide +kernel) rfl) (tg 128 (by decide +kernel) rfl) (tg 1714 (by decide +kernel) rfl)) ⟨rfl, rfl, Nat.le_of_ble_eq_true rfl, Nat.le_of_ble_eq_true rfl⟩ (by show Option.map _ (parseMethodDescriptor yX11_demand.desc) = some 2; decide +kernel) (Nat.le_of_ble_eq_true rfl) rfl dL_law_1161 ?_
  exact l_icmp_eq C 1521 (by decide) dL_law_1164 (fun _ => hn _ _ hI2) (fun h => absurd rfl h)
def Sp_linkLoad (Inv : St → St → Prop) : Prop := ∀ (qk qm : St) (v1 : Int32), Inv qk qm → ∃ (z : Int32) (qk2 : St) (qm2 : St), K_linkLoad qk v1 = some (z, qk2) ∧ M_linkLoad qm v1 = some (z, qm2) ∧ Inv qk2 qm2
theorem lc_linkLoad {X : Lv} (C : Lx X) {i : Nat} (hi : i + 6 ≤ lL X) (hL : lL X ≤ 3072) {Inv : St → St → Prop} (hs : Sp_linkLoad Inv) {qk qm : St} (hI : Inv qk qm) (hn : ∀ qk qm : St, Inv qk qm → Lt X 1521 [(0, .ref (lb X)), (1, .ref (lad X 0)), (2, .ref (lam X 0)), (3, .int (nI i))] [] qk qm) : Lt X 1169 [(0, .ref (lb X)), (1, .ref (lad X 0)), (2, .ref (lam X 0)), (3, .int (nI i))] [] qk qm := by
  refine l_aload C 1 rfl rfl dL_law_1169 ?_
  refine l_aload C 0 rfl rfl dL_law_1170 ?_
  refine l_iload C 3 rfl rfl dL_law_1171 ?_
  refine l_iconst (v := 1) C (by decide) dL_law_1172 ?_
  refine l_iadd C dL_law_1173 ?_
  refine l_sld C (in_k 1 (by decide) hi hL) dL_law_1174 ?_
  obtain ⟨z, qk2, qm2, hk, hm, hI2⟩ := hs qk qm (lxs X (nI i + nI 1).toNatClampNeg) hI
  refine l_callK (as := [.int (lxs X (nI i + nI 1).toNatClampNeg)]) C (c_K_linkLoad hk) rfl (gd_V (tg 1096 (by decide +kernel) rfl) (tg 1097 (by decide +kernel) rfl) (tg 1098 (by decide +kernel) rfl) (tg 115 (by decide +kernel) rfl) (tg 1099 (by decide +kernel) rfl)) ⟨rfl, rfl, Nat.le_of_ble_eq_true rfl, Nat.le_of_ble_eq_true rfl⟩ (by show Option.map _ (parseMethodDescriptor yX10_linkLoad.desc) = some 1; decide +kernel) (Nat.le_of_ble_eq_true rfl) rfl dL_law_1175 ?_
  refine l_aload C 2 rfl rfl dL_law_1178 ?_
  refine l_aload C 0 rfl rfl dL_law_1179 ?_
  refine l_iload C 3 rfl rfl dL_law_1180 ?_
  refine l_iconst (v := 1) C (by decide) dL_law_1181 ?_
  refine l_iadd C dL_law_1182 ?_
  refine l_sld C (in_k 1 (by decide) hi hL) dL_law_1183 ?_
  refine l_callM (as := [.int (lxs X (nI i + nI 1).toNatClampNeg)]) C (c_M_linkLoad hm) rfl (gd_V (tg 1715 (by decide +kernel) rfl) (tg 1716 (by decide +kernel) rfl) (tg 1717 (by decide +kernel) rfl) (tg 128 (by decide +kernel) rfl) (tg 1718 (by decide +kernel) rfl)) ⟨rfl, rfl, Nat.le_of_ble_eq_true rfl, Nat.le_of_ble_eq_true rfl⟩ (by show Option.map _ (parseMethodDescriptor yX11_linkLoad.desc) = some 1; decide +kernel) (Nat.le_of_ble_eq_true rfl) rfl dL_law_1184 ?_
  exact l_icmp_eq C 1521 (by decide) dL_law_1187 (fun _ => hn _ _ hI2) (fun h => absurd rfl h)
def Sp_cpuLoad (Inv : St → St → Prop) : Prop := ∀ (qk qm : St) (v1 : Int32), Inv qk qm → ∃ (z : Int32) (qk2 : St) (qm2 : St), K_cpuLoad qk v1 = some (z, qk2) ∧ M_cpuLoad qm v1 = some (z, qm2) ∧ Inv qk2 qm2
theorem lc_cpuLoad {X : Lv} (C : Lx X) {i : Nat} (hi : i + 6 ≤ lL X) (hL : lL X ≤ 3072) {Inv : St → St → Prop} (hs : Sp_cpuLoad Inv) {qk qm : St} (hI : Inv qk qm) (hn : ∀ qk qm : St, Inv qk qm → Lt X 1521 [(0, .ref (lb X)), (1, .ref (lad X 0)), (2, .ref (lam X 0)), (3, .int (nI i))] [] qk qm) : Lt X 1192 [(0, .ref (lb X)), (1, .ref (lad X 0)), (2, .ref (lam X 0)), (3, .int (nI i))] [] qk qm := by
  refine l_aload C 1 rfl rfl dL_law_1192 ?_
  refine l_aload C 0 rfl rfl dL_law_1193 ?_
  refine l_iload C 3 rfl rfl dL_law_1194 ?_
  refine l_iconst (v := 1) C (by decide) dL_law_1195 ?_
  refine l_iadd C dL_law_1196 ?_
  refine l_sld C (in_k 1 (by decide) hi hL) dL_law_1197 ?_
  obtain ⟨z, qk2, qm2, hk, hm, hI2⟩ := hs qk qm (lxs X (nI i + nI 1).toNatClampNeg) hI
  refine l_callK (as := [.int (lxs X (nI i + nI 1).toNatClampNeg)]) C (c_K_cpuLoad hk) rfl (gd_V (tg 1100 (by decide +kernel) rfl) (tg 1101 (by decide +kernel) rfl) (tg 1102 (by decide +kernel) rfl) (tg 115 (by decide +kernel) rfl) (tg 1103 (by decide +kernel) rfl)) ⟨rfl, rfl, Nat.le_of_ble_eq_true rfl, Nat.le_of_ble_eq_true rfl⟩ (by show Option.map _ (parseMethodDescriptor yX10_cpuLoad.desc) = some 1; decide +kernel) (Nat.le_of_ble_eq_true rfl) rfl dL_law_1198 ?_
  refine l_aload C 2 rfl rfl dL_law_1201 ?_
  refine l_aload C 0 rfl rfl dL_law_1202 ?_
  refine l_iload C 3 rfl rfl dL_law_1203 ?_
  refine l_iconst (v := 1) C (by decide) dL_law_1204 ?_
  refine l_iadd C dL_law_1205 ?_
  refine l_sld C (in_k 1 (by decide) hi hL) dL_law_1206 ?_
  refine l_callM (as := [.int (lxs X (nI i + nI 1).toNatClampNeg)]) C (c_M_cpuLoad hm) rfl (gd_V (tg 1719 (by decide +kernel) rfl) (tg 1720 (by decide +kernel) rfl) (tg 1721 (by decide +kernel) rfl) (tg 128 (by decide +kernel) rfl) (tg 1722 (by decide +kernel) rfl)) ⟨rfl, rfl, Nat.le_of_ble_eq_true rfl, Nat.le_of_ble_eq_true rfl⟩ (by show Option.map _ (parseMethodDescriptor yX11_cpuLoad.desc) = some 1; decide +kernel) (Nat.le_of_ble_eq_true rfl) rfl dL_law_1207 ?_
  exact l_icmp_eq C 1521 (by decide) dL_law_1210 (fun _ => hn _ _ hI2) (fun h => absurd rfl h)
def Sp_isPlaced (Inv : St → St → Prop) : Prop := ∀ (qk qm : St) (v1 v2 : Int32), Inv qk qm → ∃ (z : Int32), K_isPlaced qk v1 v2 = some z ∧ M_isPlaced qm v1 v2 = some z
theorem lc_isPlaced {X : Lv} (C : Lx X) {i : Nat} (hi : i + 6 ≤ lL X) (hL : lL X ≤ 3072) {Inv : St → St → Prop} (hs : Sp_isPlaced Inv) {qk qm : St} (hI : Inv qk qm) (hn : ∀ qk qm : St, Inv qk qm → Lt X 1521 [(0, .ref (lb X)), (1, .ref (lad X 0)), (2, .ref (lam X 0)), (3, .int (nI i))] [] qk qm) : Lt X 1215 [(0, .ref (lb X)), (1, .ref (lad X 0)), (2, .ref (lam X 0)), (3, .int (nI i))] [] qk qm := by
  refine l_aload C 1 rfl rfl dL_law_1215 ?_
  refine l_aload C 0 rfl rfl dL_law_1216 ?_
  refine l_iload C 3 rfl rfl dL_law_1217 ?_
  refine l_iconst (v := 1) C (by decide) dL_law_1218 ?_
  refine l_iadd C dL_law_1219 ?_
  refine l_sld C (in_k 1 (by decide) hi hL) dL_law_1220 ?_
  refine l_aload C 0 rfl rfl dL_law_1221 ?_
  refine l_iload C 3 rfl rfl dL_law_1222 ?_
  refine l_iconst (v := 2) C (by decide) dL_law_1223 ?_
  refine l_iadd C dL_law_1224 ?_
  refine l_sld C (in_k 2 (by decide) hi hL) dL_law_1225 ?_
  obtain ⟨z, hk, hm⟩ := hs qk qm (lxs X (nI i + nI 1).toNatClampNeg) (lxs X (nI i + nI 2).toNatClampNeg) hI
  refine l_callK (as := [.int (lxs X (nI i + nI 1).toNatClampNeg), .int (lxs X (nI i + nI 2).toNatClampNeg)]) C (c_K_isPlaced hk) rfl (gd_V (tg 1104 (by decide +kernel) rfl) (tg 1105 (by decide +kernel) rfl) (tg 1106 (by decide +kernel) rfl) (tg 115 (by decide +kernel) rfl) (tg 1107 (by decide +kernel) rfl)) ⟨rfl, rfl, Nat.le_of_ble_eq_true rfl, Nat.le_of_ble_eq_true rfl⟩ (by show Option.map _ (parseMethodDescriptor yX10_isPlaced.desc) = some 2; decide +kernel) (Nat.le_of_ble_eq_true rfl) rfl dL_law_1226 ?_
  refine l_aload C 2 rfl rfl dL_law_1229 ?_
  refine l_aload C 0 rfl rfl dL_law_1230 ?_
  refine l_iload C 3 rfl rfl dL_law_1231 ?_
  refine l_iconst (v := 1) C (by decide) dL_law_1232 ?_
  refine l_iadd C dL_law_1233 ?_
  refine l_sld C (in_k 1 (by decide) hi hL) dL_law_1234 ?_
  refine l_aload C 0 rfl rfl dL_law_1235 ?_
  refine l_iload C 3 rfl rfl dL_law_1236 ?_
  refine l_iconst (v := 2) C (by decide) dL_law_1237 ?_
  refine l_iadd C dL_law_1238 ?_
  refine l_sld C (in_k 2 (by decide) hi hL) dL_law_1239 ?_
  refine l_callM (as := [.int (lxs X (nI i + nI 1).toNatClampNeg), .int (lxs X (nI i + nI 2).toNatClampNeg)]) C (c_M_isPlaced hm) rfl (gd_V (tg 1723 (by decide +kernel) rfl) (tg 1724 (by decide +kernel) rfl) (tg 1725 (by decide +kernel) rfl) (tg 128 (by decide +kernel) rfl) (tg 1726 (by decide +kernel) rfl)) ⟨rfl, rfl, Nat.le_of_ble_eq_true rfl, Nat.le_of_ble_eq_true rfl⟩ (by show Option.map _ (parseMethodDescriptor yX11_isPlaced.desc) = some 2; decide +kernel) (Nat.le_of_ble_eq_true rfl) rfl dL_law_1240 ?_
  exact l_icmp_eq C 1521 (by decide) dL_law_1243 (fun _ => hn _ _ hI) (fun h => absurd rfl h)
def Sp_total (Inv : St → St → Prop) : Prop := ∀ (qk qm : St) (v1 : Int32), Inv qk qm → ∃ (z : Int32) (qk2 : St) (qm2 : St), K_total qk v1 = some (z, qk2) ∧ M_total qm v1 = some (z, qm2) ∧ Inv qk2 qm2
theorem lc_total {X : Lv} (C : Lx X) {i : Nat} (hi : i + 6 ≤ lL X) (hL : lL X ≤ 3072) {Inv : St → St → Prop} (hs : Sp_total Inv) {qk qm : St} (hI : Inv qk qm) (hn : ∀ qk qm : St, Inv qk qm → Lt X 1521 [(0, .ref (lb X)), (1, .ref (lad X 0)), (2, .ref (lam X 0)), (3, .int (nI i))] [] qk qm) : Lt X 1248 [(0, .ref (lb X)), (1, .ref (lad X 0)), (2, .ref (lam X 0)), (3, .int (nI i))] [] qk qm := by
  refine l_aload C 1 rfl rfl dL_law_1248 ?_
  refine l_aload C 0 rfl rfl dL_law_1249 ?_
  refine l_iload C 3 rfl rfl dL_law_1250 ?_
  refine l_iconst (v := 1) C (by decide) dL_law_1251 ?_
  refine l_iadd C dL_law_1252 ?_
  refine l_sld C (in_k 1 (by decide) hi hL) dL_law_1253 ?_
  obtain ⟨z, qk2, qm2, hk, hm, hI2⟩ := hs qk qm (lxs X (nI i + nI 1).toNatClampNeg) hI
  refine l_callK (as := [.int (lxs X (nI i + nI 1).toNatClampNeg)]) C (c_K_total hk) rfl (gd_V (tg 1108 (by decide +kernel) rfl) (tg 1109 (by decide +kernel) rfl) (tg 1110 (by decide +kernel) rfl) (tg 115 (by decide +kernel) rfl) (tg 1111 (by decide +kernel) rfl)) ⟨rfl, rfl, Nat.le_of_ble_eq_true rfl, Nat.le_of_ble_eq_true rfl⟩ (by show Option.map _ (parseMethodDescriptor yX10_total.desc) = some 1; decide +kernel) (Nat.le_of_ble_eq_true rfl) rfl dL_law_1254 ?_
  refine l_aload C 2 rfl rfl dL_law_1257 ?_
  refine l_aload C 0 rfl rfl dL_law_1258 ?_
  refine l_iload C 3 rfl rfl dL_law_1259 ?_
  refine l_iconst (v := 1) C (by decide) dL_law_1260 ?_
  refine l_iadd C dL_law_1261 ?_
  refine l_sld C (in_k 1 (by decide) hi hL) dL_law_1262 ?_
  refine l_callM (as := [.int (lxs X (nI i + nI 1).toNatClampNeg)]) C (c_M_total hm) rfl (gd_V (tg 1727 (by decide +kernel) rfl) (tg 1728 (by decide +kernel) rfl) (tg 1729 (by decide +kernel) rfl) (tg 128 (by decide +kernel) rfl) (tg 1730 (by decide +kernel) rfl)) ⟨rfl, rfl, Nat.le_of_ble_eq_true rfl, Nat.le_of_ble_eq_true rfl⟩ (by show Option.map _ (parseMethodDescriptor yX11_total.desc) = some 1; decide +kernel) (Nat.le_of_ble_eq_true rfl) rfl dL_law_1263 ?_
  exact l_icmp_eq C 1521 (by decide) dL_law_1266 (fun _ => hn _ _ hI2) (fun h => absurd rfl h)
def Sp_busiest (Inv : St → St → Prop) : Prop := ∀ (qk qm : St) (v1 : Int32), Inv qk qm → ∃ (z : Int32) (qk2 : St) (qm2 : St), K_busiest qk v1 = some (z, qk2) ∧ M_busiest qm v1 = some (z, qm2) ∧ Inv qk2 qm2
theorem lc_busiest {X : Lv} (C : Lx X) {i : Nat} (hi : i + 6 ≤ lL X) (hL : lL X ≤ 3072) {Inv : St → St → Prop} (hs : Sp_busiest Inv) {qk qm : St} (hI : Inv qk qm) (hn : ∀ qk qm : St, Inv qk qm → Lt X 1521 [(0, .ref (lb X)), (1, .ref (lad X 0)), (2, .ref (lam X 0)), (3, .int (nI i))] [] qk qm) : Lt X 1271 [(0, .ref (lb X)), (1, .ref (lad X 0)), (2, .ref (lam X 0)), (3, .int (nI i))] [] qk qm := by
  refine l_aload C 1 rfl rfl dL_law_1271 ?_
  refine l_aload C 0 rfl rfl dL_law_1272 ?_
  refine l_iload C 3 rfl rfl dL_law_1273 ?_
  refine l_iconst (v := 1) C (by decide) dL_law_1274 ?_
  refine l_iadd C dL_law_1275 ?_
  refine l_sld C (in_k 1 (by decide) hi hL) dL_law_1276 ?_
  obtain ⟨z, qk2, qm2, hk, hm, hI2⟩ := hs qk qm (lxs X (nI i + nI 1).toNatClampNeg) hI
  refine l_callK (as := [.int (lxs X (nI i + nI 1).toNatClampNeg)]) C (c_K_busiest hk) rfl (gd_V (tg 1142 (by decide +kernel) rfl) (tg 1143 (by decide +kernel) rfl) (tg 1144 (by decide +kernel) rfl) (tg 115 (by decide +kernel) rfl) (tg 1145 (by decide +kernel) rfl)) ⟨rfl, rfl, Nat.le_of_ble_eq_true rfl, Nat.le_of_ble_eq_true rfl⟩ (by show Option.map _ (parseMethodDescriptor yX10_busiest.desc) = some 1; decide +kernel) (Nat.le_of_ble_eq_true rfl) rfl dL_law_1277 ?_
  refine l_aload C 2 rfl rfl dL_law_1280 ?_
  refine l_aload C 0 rfl rfl dL_law_1281 ?_
  refine l_iload C 3 rfl rfl dL_law_1282 ?_
  refine l_iconst (v := 1) C (by decide) dL_law_1283 ?_
  refine l_iadd C dL_law_1284 ?_
  refine l_sld C (in_k 1 (by decide) hi hL) dL_law_1285 ?_
  refine l_callM (as := [.int (lxs X (nI i + nI 1).toNatClampNeg)]) C (c_M_busiest hm) rfl (gd_V (tg 1743 (by decide +kernel) rfl) (tg 1744 (by decide +kernel) rfl) (tg 1745 (by decide +kernel) rfl) (tg 128 (by decide +kernel) rfl) (tg 1746 (by decide +kernel) rfl)) ⟨rfl, rfl, Nat.le_of_ble_eq_true rfl, Nat.le_of_ble_eq_true rfl⟩ (by show Option.map _ (parseMethodDescriptor yX11_busiest.desc) = some 1; decide +kernel) (Nat.le_of_ble_eq_true rfl) rfl dL_law_1286 ?_
  exact l_icmp_eq C 1521 (by decide) dL_law_1289 (fun _ => hn _ _ hI2) (fun h => absurd rfl h)
def Sp_offer (Inv : St → St → Prop) : Prop := ∀ (qk qm : St) (v1 v2 : Int32), Inv qk qm → ∃ (z : Int32) (qk2 : St) (qm2 : St), K_offer qk v1 v2 = some (z, qk2) ∧ M_offer qm v1 v2 = some (z, qm2) ∧ Inv qk2 qm2
theorem lc_offer {X : Lv} (C : Lx X) {i : Nat} (hi : i + 6 ≤ lL X) (hL : lL X ≤ 3072) {Inv : St → St → Prop} (hs : Sp_offer Inv) {qk qm : St} (hI : Inv qk qm) (hn : ∀ qk qm : St, Inv qk qm → Lt X 1521 [(0, .ref (lb X)), (1, .ref (lad X 0)), (2, .ref (lam X 0)), (3, .int (nI i))] [] qk qm) : Lt X 1294 [(0, .ref (lb X)), (1, .ref (lad X 0)), (2, .ref (lam X 0)), (3, .int (nI i))] [] qk qm := by
  refine l_aload C 1 rfl rfl dL_law_1294 ?_
  refine l_aload C 0 rfl rfl dL_law_1295 ?_
  refine l_iload C 3 rfl rfl dL_law_1296 ?_
  refine l_iconst (v := 1) C (by decide) dL_law_1297 ?_
  refine l_iadd C dL_law_1298 ?_
  refine l_sld C (in_k 1 (by decide) hi hL) dL_law_1299 ?_
  refine l_aload C 0 rfl rfl dL_law_1300 ?_
  refine l_iload C 3 rfl rfl dL_law_1301 ?_
  refine l_iconst (v := 2) C (by decide) dL_law_1302 ?_
  refine l_iadd C dL_law_1303 ?_
  refine l_sld C (in_k 2 (by decide) hi hL) dL_law_1304 ?_
  obtain ⟨z, qk2, qm2, hk, hm, hI2⟩ := hs qk qm (lxs X (nI i + nI 1).toNatClampNeg) (lxs X (nI i + nI 2).toNatClampNeg) hI
  refine l_callK (as := [.int (lxs X (nI i + nI 1).toNatClampNeg), .int (lxs X (nI i + nI 2).toNatClampNeg)]) C (c_K_offer hk) rfl (gd_V (tg 1154 (by decide +kernel) rfl) (tg 1155 (by decide +kernel) rfl) (tg 1156 (by decide +kernel) rfl) (tg 115 (by decide +kernel) rfl) (tg 1157 (by decide +kernel) rfl)) ⟨rfl, rfl, Nat.le_of_ble_eq_true rfl, Nat.le_of_ble_eq_true rfl⟩ (by show Option.map _ (parseMethodDescriptor yX10_offer.desc) = some 2; decide +kernel) (Nat.le_of_ble_eq_true rfl) rfl dL_law_1305 ?_
  refine l_aload C 2 rfl rfl dL_law_1308 ?_
  refine l_aload C 0 rfl rfl dL_law_1309 ?_
  refine l_iload C 3 rfl rfl dL_law_1310 ?_
  refine l_iconst (v := 1) C (by decide) dL_law_1311 ?_
  refine l_iadd C dL_law_1312 ?_
  refine l_sld C (in_k 1 (by decide) hi hL) dL_law_1313 ?_
  refine l_aload C 0 rfl rfl dL_law_1314 ?_
  refine l_iload C 3 rfl rfl dL_law_1315 ?_
  refine l_iconst (v := 2) C (by decide) dL_law_1316 ?_
  refine l_iadd C dL_law_1317 ?_
  refine l_sld C (in_k 2 (by decide) hi hL) dL_law_1318 ?_
  refine l_callM (as := [.int (lxs X (nI i + nI 1).toNatClampNeg), .int (lxs X (nI i + nI 2).toNatClampNeg)]) C (c_M_offer hm) rfl (gd_V (tg 1751 (by decide +kernel) rfl) (tg 1752 (by decide +kernel) rfl) (tg 1753 (by decide +kernel) rfl) (tg 128 (by decide +kernel) rfl) (tg 1754 (by decide +kernel) rfl)) ⟨rfl, rfl, Nat.le_of_ble_eq_true rfl, Nat.le_of_ble_eq_true rfl⟩ (by show Option.map _ (parseMethodDescriptor yX11_offer.desc) = some 2; decide +kernel) (Nat.le_of_ble_eq_true rfl) rfl dL_law_1319 ?_
  exact l_icmp_eq C 1521 (by decide) dL_law_1322 (fun _ => hn _ _ hI2) (fun h => absurd rfl h)
def Sp_graftNode (Inv : St → St → Prop) : Prop := ∀ (qk qm : St) (v1 v2 v3 v4 : Int32), Inv qk qm → ∃ (z : Int32) (qk2 : St) (qm2 : St), K_graftNode qk v1 v2 v3 v4 = some (z, qk2) ∧ M_graftNode qm v1 v2 v3 v4 = some (z, qm2) ∧ Inv qk2 qm2
theorem lc_graftNode {X : Lv} (C : Lx X) {i : Nat} (hi : i + 6 ≤ lL X) (hL : lL X ≤ 3072) {Inv : St → St → Prop} (hs : Sp_graftNode Inv) {qk qm : St} (hI : Inv qk qm) (hn : ∀ qk qm : St, Inv qk qm → Lt X 1521 [(0, .ref (lb X)), (1, .ref (lad X 0)), (2, .ref (lam X 0)), (3, .int (nI i))] [] qk qm) : Lt X 1327 [(0, .ref (lb X)), (1, .ref (lad X 0)), (2, .ref (lam X 0)), (3, .int (nI i))] [] qk qm := by
  refine l_aload C 1 rfl rfl dL_law_1327 ?_
  refine l_aload C 0 rfl rfl dL_law_1328 ?_
  refine l_iload C 3 rfl rfl dL_law_1329 ?_
  refine l_iconst (v := 1) C (by decide) dL_law_1330 ?_
  refine l_iadd C dL_law_1331 ?_
  refine l_sld C (in_k 1 (by decide) hi hL) dL_law_1332 ?_
  refine l_aload C 0 rfl rfl dL_law_1333 ?_
  refine l_iload C 3 rfl rfl dL_law_1334 ?_
  refine l_iconst (v := 2) C (by decide) dL_law_1335 ?_
  refine l_iadd C dL_law_1336 ?_
  refine l_sld C (in_k 2 (by decide) hi hL) dL_law_1337 ?_
  refine l_aload C 0 rfl rfl dL_law_1338 ?_
  refine l_iload C 3 rfl rfl dL_law_1339 ?_
  refine l_iconst (v := 3) C (by decide) dL_law_1340 ?_
  refine l_iadd C dL_law_1341 ?_
  refine l_sld C (in_k 3 (by decide) hi hL) dL_law_1342 ?_
  refine l_aload C 0 rfl rfl dL_law_1343 ?_
  refine l_iload C 3 rfl rfl dL_law_1344 ?_
  refine l_iconst (v := 4) C (by decide) dL_law_1345 ?_
  refine l_iadd C dL_law_1346 ?_
  refine l_sld C (in_k 4 (by decide) hi hL) dL_law_1347 ?_
  obtain ⟨z, qk2, qm2, hk, hm, hI2⟩ := hs qk qm (lxs X (nI i + nI 1).toNatClampNeg) (lxs X (nI i + nI 2).toNatClampNeg) (lxs X (nI i + nI 3).toNatClampNeg) (lxs X (nI i + nI 4).toNatClampNeg) hI
  refine l_callK (as := [.int (lxs X (nI i + nI 1).toNatClampNeg), .int (lxs X (nI i + nI 2).toNatClampNeg), .int (lxs X (nI i + nI 3).toNatClampNeg), .int (lxs X (nI i + nI 4).toNatClampNeg)]) C (c_K_graftNode hk) rfl (gd_V (tg 1158 (by decide +kernel) rfl) (tg 1159 (by decide +kernel) rfl) (tg 1160 (by decide +kernel) rfl) (tg 115 (by decide +kernel) rfl) (tg 1161 (by decide +kernel) rfl)) ⟨rfl, rfl, Nat.le_of_ble_eq_true rfl, Nat.le_of_ble_eq_true rfl⟩ (by show Option.map _ (parseMethodDescriptor yX10_graftNode.desc) = some 4; decide +kernel) (Nat.le_of_ble_eq_true rfl) rfl dL_law_1348 ?_
  refine l_aload C 2 rfl rfl dL_law_1351 ?_
  refine l_aload C 0 rfl rfl dL_law_1352 ?_
  refine l_iload C 3 rfl rfl dL_law_1353 ?_
  refine l_iconst (v := 1) C (by decide) dL_law_1354 ?_
  refine l_iadd C dL_law_1355 ?_
  refine l_sld C (in_k 1 (by decide) hi hL) dL_law_1356 ?_
  refine l_aload C 0 rfl rfl dL_law_1357 ?_
  refine l_iload C 3 rfl rfl dL_law_1358 ?_
  refine l_iconst (v := 2) C (by decide) dL_law_1359 ?_
  refine l_iadd C dL_law_1360 ?_
  refine l_sld C (in_k 2 (by decide) hi hL) dL_law_1361 ?_
  refine l_aload C 0 rfl rfl dL_law_1362 ?_
  refine l_iload C 3 rfl rfl dL_law_1363 ?_
  refine l_iconst (v := 3) C (by decide) dL_law_1364 ?_
  refine l_iadd C dL_law_1365 ?_
  refine l_sld C (in_k 3 (by decide) hi hL) dL_law_1366 ?_
  refine l_aload C 0 rfl rfl dL_law_1367 ?_
  refine l_iload C 3 rfl rfl dL_law_1368 ?_
  refine l_iconst (v := 4) C (by decide) dL_law_1369 ?_
  refine l_iadd C dL_law_1370 ?_
  refine l_sld C (in_k 4 (by decide) hi hL) dL_law_1371 ?_
  refine l_callM (as := [.int (lxs X (nI i + nI 1).toNatClampNeg), .int (lxs X (nI i + nI 2).toNatClampNeg), .int (lxs X (nI i + nI 3).toNatClampNeg), .int (lxs X (nI i + nI 4).toNatClampNeg)]) C (c_M_graftNode hm) rfl (gd_V (tg 1755 (by decide +kernel) rfl) (tg 1756 (by decide +kernel) rfl) (tg 1757 (by decide +kernel) rfl) (tg 128 (by decide +kernel) rfl) (tg 1758 (by decide +kernel) rfl)) ⟨rfl, rfl, Nat.le_of_ble_eq_true rfl, Nat.le_of_ble_eq_true rfl⟩ (by show Option.map _ (parseMethodDescriptor yX11_graftNode.desc) = some 4; decide +kernel) (Nat.le_of_ble_eq_true rfl) rfl dL_law_1372 ?_
  exact l_icmp_eq C 1521 (by decide) dL_law_1375 (fun _ => hn _ _ hI2) (fun h => absurd rfl h)
def Sp_gain (Inv : St → St → Prop) : Prop := ∀ (qk qm : St) (v1 v2 : Int32), Inv qk qm → ∃ (z : Int32) (qk2 : St) (qm2 : St), K_gain qk v1 v2 = some (z, qk2) ∧ M_gain qm v1 v2 = some (z, qm2) ∧ Inv qk2 qm2
theorem lc_gain {X : Lv} (C : Lx X) {i : Nat} (hi : i + 6 ≤ lL X) (hL : lL X ≤ 3072) {Inv : St → St → Prop} (hs : Sp_gain Inv) {qk qm : St} (hI : Inv qk qm) (hn : ∀ qk qm : St, Inv qk qm → Lt X 1521 [(0, .ref (lb X)), (1, .ref (lad X 0)), (2, .ref (lam X 0)), (3, .int (nI i))] [] qk qm) : Lt X 1380 [(0, .ref (lb X)), (1, .ref (lad X 0)), (2, .ref (lam X 0)), (3, .int (nI i))] [] qk qm := by
  refine l_aload C 1 rfl rfl dL_law_1380 ?_
  refine l_aload C 0 rfl rfl dL_law_1381 ?_
  refine l_iload C 3 rfl rfl dL_law_1382 ?_
  refine l_iconst (v := 1) C (by decide) dL_law_1383 ?_
  refine l_iadd C dL_law_1384 ?_
  refine l_sld C (in_k 1 (by decide) hi hL) dL_law_1385 ?_
  refine l_aload C 0 rfl rfl dL_law_1386 ?_
  refine l_iload C 3 rfl rfl dL_law_1387 ?_
  refine l_iconst (v := 2) C (by decide) dL_law_1388 ?_
  refine l_iadd C dL_law_1389 ?_
  refine l_sld C (in_k 2 (by decide) hi hL) dL_law_1390 ?_
  obtain ⟨z, qk2, qm2, hk, hm, hI2⟩ := hs qk qm (lxs X (nI i + nI 1).toNatClampNeg) (lxs X (nI i + nI 2).toNatClampNeg) hI
  refine l_callK (as := [.int (lxs X (nI i + nI 1).toNatClampNeg), .int (lxs X (nI i + nI 2).toNatClampNeg)]) C (c_K_gain hk) rfl (gd_V (tg 1163 (by decide +kernel) rfl) (tg 1164 (by decide +kernel) rfl) (tg 1165 (by decide +kernel) rfl) (tg 115 (by decide +kernel) rfl) (tg 1166 (by decide +kernel) rfl)) ⟨rfl, rfl, Nat.le_of_ble_eq_true rfl, Nat.le_of_ble_eq_true rfl⟩ (by show Option.map _ (parseMethodDescriptor yX10_gain.desc) = some 2; decide +kernel) (Nat.le_of_ble_eq_true rfl) rfl dL_law_1391 ?_
  refine l_aload C 2 rfl rfl dL_law_1394 ?_
  refine l_aload C 0 rfl rfl dL_law_1395 ?_
  refine l_iload C 3 rfl rfl dL_law_1396 ?_
  refine l_iconst (v := 1) C (by decide) dL_law_1397 ?_
  refine l_iadd C dL_law_1398 ?_
  refine l_sld C (in_k 1 (by decide) hi hL) dL_law_1399 ?_
  refine l_aload C 0 rfl rfl dL_law_1400 ?_
  refine l_iload C 3 rfl rfl dL_law_1401 ?_
  refine l_iconst (v := 2) C (by decide) dL_law_1402 ?_
  refine l_iadd C dL_law_1403 ?_
  refine l_sld C (in_k 2 (by decide) hi hL) dL_law_1404 ?_
  refine l_callM (as := [.int (lxs X (nI i + nI 1).toNatClampNeg), .int (lxs X (nI i + nI 2).toNatClampNeg)]) C (c_M_gain hm) rfl (gd_V (tg 1759 (by decide +kernel) rfl) (tg 1760 (by decide +kernel) rfl) (tg 1761 (by decide +kernel) rfl) (tg 128 (by decide +kernel) rfl) (tg 1762 (by decide +kernel) rfl)) ⟨rfl, rfl, Nat.le_of_ble_eq_true rfl, Nat.le_of_ble_eq_true rfl⟩ (by show Option.map _ (parseMethodDescriptor yX11_gain.desc) = some 2; decide +kernel) (Nat.le_of_ble_eq_true rfl) rfl dL_law_1405 ?_
  exact l_icmp_eq C 1521 (by decide) dL_law_1408 (fun _ => hn _ _ hI2) (fun h => absurd rfl h)
def Sp_bestPlace (Inv : St → St → Prop) : Prop := ∀ (qk qm : St) (v1 : Int32), Inv qk qm → ∃ (z : Int32) (qk2 : St) (qm2 : St), K_bestPlace qk v1 = some (z, qk2) ∧ M_bestPlace qm v1 = some (z, qm2) ∧ Inv qk2 qm2
theorem lc_bestPlace {X : Lv} (C : Lx X) {i : Nat} (hi : i + 6 ≤ lL X) (hL : lL X ≤ 3072) {Inv : St → St → Prop} (hs : Sp_bestPlace Inv) {qk qm : St} (hI : Inv qk qm) (hn : ∀ qk qm : St, Inv qk qm → Lt X 1521 [(0, .ref (lb X)), (1, .ref (lad X 0)), (2, .ref (lam X 0)), (3, .int (nI i))] [] qk qm) : Lt X 1413 [(0, .ref (lb X)), (1, .ref (lad X 0)), (2, .ref (lam X 0)), (3, .int (nI i))] [] qk qm := by
  refine l_aload C 1 rfl rfl dL_law_1413 ?_
  refine l_aload C 0 rfl rfl dL_law_1414 ?_
  refine l_iload C 3 rfl rfl dL_law_1415 ?_
  refine l_iconst (v := 1) C (by decide) dL_law_1416 ?_
  refine l_iadd C dL_law_1417 ?_
  refine l_sld C (in_k 1 (by decide) hi hL) dL_law_1418 ?_
  obtain ⟨z, qk2, qm2, hk, hm, hI2⟩ := hs qk qm (lxs X (nI i + nI 1).toNatClampNeg) hI
  refine l_callK (as := [.int (lxs X (nI i + nI 1).toNatClampNeg)]) C (c_K_bestPlace hk) rfl (gd_V (tg 1167 (by decide +kernel) rfl) (tg 1168 (by decide +kernel) rfl) (tg 1169 (by decide +kernel) rfl) (tg 115 (by decide +kernel) rfl) (tg 1170 (by decide +kernel) rfl)) ⟨rfl, rfl, Nat.le_of_ble_eq_true rfl, Nat.le_of_ble_eq_true rfl⟩ (by show Option.map _ (parseMethodDescriptor yX10_bestPlace.desc) = some 1; decide +kernel) (Nat.le_of_ble_eq_true rfl) rfl dL_law_1419 ?_
  refine l_aload C 2 rfl rfl dL_law_1422 ?_
  refine l_aload C 0 rfl rfl dL_law_1423 ?_
  refine l_iload C 3 rfl rfl dL_law_1424 ?_
  refine l_iconst (v := 1) C (by decide) dL_law_1425 ?_
  refine l_iadd C dL_law_1426 ?_
  refine l_sld C (in_k 1 (by decide) hi hL) dL_law_1427 ?_
  refine l_callM (as := [.int (lxs X (nI i + nI 1).toNatClampNeg)]) C (c_M_bestPlace hm) rfl (gd_V (tg 1763 (by decide +kernel) rfl) (tg 1764 (by decide +kernel) rfl) (tg 1765 (by decide +kernel) rfl) (tg 128 (by decide +kernel) rfl) (tg 1766 (by decide +kernel) rfl)) ⟨rfl, rfl, Nat.le_of_ble_eq_true rfl, Nat.le_of_ble_eq_true rfl⟩ (by show Option.map _ (parseMethodDescriptor yX11_bestPlace.desc) = some 1; decide +kernel) (Nat.le_of_ble_eq_true rfl) rfl dL_law_1428 ?_
  exact l_icmp_eq C 1521 (by decide) dL_law_1431 (fun _ => hn _ _ hI2) (fun h => absurd rfl h)
def Sp_loss (Inv : St → St → Prop) : Prop := ∀ (qk qm : St) (v1 : Int32), Inv qk qm → ∃ (z : Int32) (qk2 : St) (qm2 : St), K_loss qk v1 = some (z, qk2) ∧ M_loss qm v1 = some (z, qm2) ∧ Inv qk2 qm2
theorem lc_loss {X : Lv} (C : Lx X) {i : Nat} (hi : i + 6 ≤ lL X) (hL : lL X ≤ 3072) {Inv : St → St → Prop} (hs : Sp_loss Inv) {qk qm : St} (hI : Inv qk qm) (hn : ∀ qk qm : St, Inv qk qm → Lt X 1521 [(0, .ref (lb X)), (1, .ref (lad X 0)), (2, .ref (lam X 0)), (3, .int (nI i))] [] qk qm) : Lt X 1436 [(0, .ref (lb X)), (1, .ref (lad X 0)), (2, .ref (lam X 0)), (3, .int (nI i))] [] qk qm := by
  refine l_aload C 1 rfl rfl dL_law_1436 ?_
  refine l_aload C 0 rfl rfl dL_law_1437 ?_
  refine l_iload C 3 rfl rfl dL_law_1438 ?_
  refine l_iconst (v := 1) C (by decide) dL_law_1439 ?_
  refine l_iadd C dL_law_1440 ?_
  refine l_sld C (in_k 1 (by decide) hi hL) dL_law_1441 ?_
  obtain ⟨z, qk2, qm2, hk, hm, hI2⟩ := hs qk qm (lxs X (nI i + nI 1).toNatClampNeg) hI
  refine l_callK (as := [.int (lxs X (nI i + nI 1).toNatClampNeg)]) C (c_K_loss hk) rfl (gd_V (tg 1172 (by decide +kernel) rfl) (tg 1173 (by decide +kernel) rfl) (tg 1174 (by decide +kernel) rfl) (tg 115 (by decide +kernel) rfl) (tg 1175 (by decide +kernel) rfl)) ⟨rfl, rfl, Nat.le_of_ble_eq_true rfl, Nat.le_of_ble_eq_true rfl⟩ (by show Option.map _ (parseMethodDescriptor yX10_loss.desc) = some 1; decide +kernel) (Nat.le_of_ble_eq_true rfl) rfl dL_law_1442 ?_
  refine l_aload C 2 rfl rfl dL_law_1445 ?_
  refine l_aload C 0 rfl rfl dL_law_1446 ?_
  refine l_iload C 3 rfl rfl dL_law_1447 ?_
  refine l_iconst (v := 1) C (by decide) dL_law_1448 ?_
  refine l_iadd C dL_law_1449 ?_
  refine l_sld C (in_k 1 (by decide) hi hL) dL_law_1450 ?_
  refine l_callM (as := [.int (lxs X (nI i + nI 1).toNatClampNeg)]) C (c_M_loss hm) rfl (gd_V (tg 1768 (by decide +kernel) rfl) (tg 1769 (by decide +kernel) rfl) (tg 1770 (by decide +kernel) rfl) (tg 128 (by decide +kernel) rfl) (tg 1771 (by decide +kernel) rfl)) ⟨rfl, rfl, Nat.le_of_ble_eq_true rfl, Nat.le_of_ble_eq_true rfl⟩ (by show Option.map _ (parseMethodDescriptor yX11_loss.desc) = some 1; decide +kernel) (Nat.le_of_ble_eq_true rfl) rfl dL_law_1451 ?_
  exact l_icmp_eq C 1521 (by decide) dL_law_1454 (fun _ => hn _ _ hI2) (fun h => absurd rfl h)
def Sp_criticalLink (Inv : St → St → Prop) : Prop := ∀ (qk qm : St), Inv qk qm → ∃ (z : Int32) (qk2 : St) (qm2 : St), K_criticalLink qk = some (z, qk2) ∧ M_criticalLink qm = some (z, qm2) ∧ Inv qk2 qm2
theorem lc_criticalLink {X : Lv} (C : Lx X) {i : Nat} (hi : i + 6 ≤ lL X) (hL : lL X ≤ 3072) {Inv : St → St → Prop} (hs : Sp_criticalLink Inv) {qk qm : St} (hI : Inv qk qm) (hn : ∀ qk qm : St, Inv qk qm → Lt X 1521 [(0, .ref (lb X)), (1, .ref (lad X 0)), (2, .ref (lam X 0)), (3, .int (nI i))] [] qk qm) : Lt X 1459 [(0, .ref (lb X)), (1, .ref (lad X 0)), (2, .ref (lam X 0)), (3, .int (nI i))] [] qk qm := by
  refine l_aload C 1 rfl rfl dL_law_1459 ?_
  obtain ⟨z, qk2, qm2, hk, hm, hI2⟩ := hs qk qm hI
  refine l_callK (as := []) C (c_K_criticalLink hk) rfl (gd_V (tg 1176 (by decide +kernel) rfl) (tg 1177 (by decide +kernel) rfl) (tg 1178 (by decide +kernel) rfl) (tg 115 (by decide +kernel) rfl) (tg 1179 (by decide +kernel) rfl)) ⟨rfl, rfl, Nat.le_of_ble_eq_true rfl, Nat.le_of_ble_eq_true rfl⟩ (by show Option.map _ (parseMethodDescriptor yX10_criticalLink.desc) = some 0; decide +kernel) (Nat.le_of_ble_eq_true rfl) rfl dL_law_1460 ?_
  refine l_aload C 2 rfl rfl dL_law_1463 ?_
  refine l_callM (as := []) C (c_M_criticalLink hm) rfl (gd_V (tg 1772 (by decide +kernel) rfl) (tg 1773 (by decide +kernel) rfl) (tg 1774 (by decide +kernel) rfl) (tg 128 (by decide +kernel) rfl) (tg 1775 (by decide +kernel) rfl)) ⟨rfl, rfl, Nat.le_of_ble_eq_true rfl, Nat.le_of_ble_eq_true rfl⟩ (by show Option.map _ (parseMethodDescriptor yX11_criticalLink.desc) = some 0; decide +kernel) (Nat.le_of_ble_eq_true rfl) rfl dL_law_1464 ?_
  exact l_icmp_eq C 1521 (by decide) dL_law_1467 (fun _ => hn _ _ hI2) (fun h => absurd rfl h)
def Sp_reportLength (Inv : St → St → Prop) : Prop := ∀ (qk qm : St), Inv qk qm → ∃ (z : Int32) (qk2 : St) (qm2 : St), K_reportLength qk = some (z, qk2) ∧ M_reportLength qm = some (z, qm2) ∧ Inv qk2 qm2
theorem lc_reportLength {X : Lv} (C : Lx X) {i : Nat} (hi : i + 6 ≤ lL X) (hL : lL X ≤ 3072) {Inv : St → St → Prop} (hs : Sp_reportLength Inv) {qk qm : St} (hI : Inv qk qm) (hn : ∀ qk qm : St, Inv qk qm → Lt X 1521 [(0, .ref (lb X)), (1, .ref (lad X 0)), (2, .ref (lam X 0)), (3, .int (nI i))] [] qk qm) : Lt X 1472 [(0, .ref (lb X)), (1, .ref (lad X 0)), (2, .ref (lam X 0)), (3, .int (nI i))] [] qk qm := by
  refine l_aload C 1 rfl rfl dL_law_1472 ?_
  obtain ⟨z, qk2, qm2, hk, hm, hI2⟩ := hs qk qm hI
  refine l_callK (as := []) C (c_K_reportLength hk) rfl (gd_V (tg 1180 (by decide +kernel) rfl) (tg 1181 (by decide +kernel) rfl) (tg 1182 (by decide +kernel) rfl) (tg 115 (by decide +kernel) rfl) (tg 1183 (by decide +kernel) rfl)) ⟨rfl, rfl, Nat.le_of_ble_eq_true rfl, Nat.le_of_ble_eq_true rfl⟩ (by show Option.map _ (parseMethodDescriptor yX10_reportLength.desc) = some 0; decide +kernel) (Nat.le_of_ble_eq_true rfl) rfl dL_law_1473 ?_
  refine l_aload C 2 rfl rfl dL_law_1476 ?_
  refine l_callM (as := []) C (c_M_reportLength hm) rfl (gd_V (tg 1777 (by decide +kernel) rfl) (tg 1778 (by decide +kernel) rfl) (tg 1779 (by decide +kernel) rfl) (tg 128 (by decide +kernel) rfl) (tg 1780 (by decide +kernel) rfl)) ⟨rfl, rfl, Nat.le_of_ble_eq_true rfl, Nat.le_of_ble_eq_true rfl⟩ (by show Option.map _ (parseMethodDescriptor yX11_reportLength.desc) = some 0; decide +kernel) (Nat.le_of_ble_eq_true rfl) rfl dL_law_1477 ?_
  exact l_icmp_eq C 1521 (by decide) dL_law_1480 (fun _ => hn _ _ hI2) (fun h => absurd rfl h)
def Sp_reportByte (Inv : St → St → Prop) : Prop := ∀ (qk qm : St) (v1 : Int32), Inv qk qm → ∃ (z : Int32) (qk2 : St) (qm2 : St), K_reportByte qk v1 = some (z, qk2) ∧ M_reportByte qm v1 = some (z, qm2) ∧ Inv qk2 qm2
theorem lc_reportByte {X : Lv} (C : Lx X) {i : Nat} (hi : i + 6 ≤ lL X) (hL : lL X ≤ 3072) {Inv : St → St → Prop} (hs : Sp_reportByte Inv) {qk qm : St} (hI : Inv qk qm) (hn : ∀ qk qm : St, Inv qk qm → Lt X 1521 [(0, .ref (lb X)), (1, .ref (lad X 0)), (2, .ref (lam X 0)), (3, .int (nI i))] [] qk qm) : Lt X 1485 [(0, .ref (lb X)), (1, .ref (lad X 0)), (2, .ref (lam X 0)), (3, .int (nI i))] [] qk qm := by
  refine l_aload C 1 rfl rfl dL_law_1485 ?_
  refine l_aload C 0 rfl rfl dL_law_1486 ?_
  refine l_iload C 3 rfl rfl dL_law_1487 ?_
  refine l_iconst (v := 1) C (by decide) dL_law_1488 ?_
  refine l_iadd C dL_law_1489 ?_
  refine l_sld C (in_k 1 (by decide) hi hL) dL_law_1490 ?_
  obtain ⟨z, qk2, qm2, hk, hm, hI2⟩ := hs qk qm (lxs X (nI i + nI 1).toNatClampNeg) hI
  refine l_callK (as := [.int (lxs X (nI i + nI 1).toNatClampNeg)]) C (c_K_reportByte hk) rfl (gd_V (tg 1202 (by decide +kernel) rfl) (tg 1203 (by decide +kernel) rfl) (tg 1204 (by decide +kernel) rfl) (tg 115 (by decide +kernel) rfl) (tg 1205 (by decide +kernel) rfl)) ⟨rfl, rfl, Nat.le_of_ble_eq_true rfl, Nat.le_of_ble_eq_true rfl⟩ (by show Option.map _ (parseMethodDescriptor yX10_reportByte.desc) = some 1; decide +kernel) (Nat.le_of_ble_eq_true rfl) rfl dL_law_1491 ?_
  refine l_aload C 2 rfl rfl dL_law_1494 ?_
  refine l_aload C 0 rfl rfl dL_law_1495 ?_
  refine l_iload C 3 rfl rfl dL_law_1496 ?_
  refine l_iconst (v := 1) C (by decide) dL_law_1497 ?_
  refine l_iadd C dL_law_1498 ?_
  refine l_sld C (in_k 1 (by decide) hi hL) dL_law_1499 ?_
  refine l_callM (as := [.int (lxs X (nI i + nI 1).toNatClampNeg)]) C (c_M_reportByte hm) rfl (gd_V (tg 1793 (by decide +kernel) rfl) (tg 1794 (by decide +kernel) rfl) (tg 1795 (by decide +kernel) rfl) (tg 128 (by decide +kernel) rfl) (tg 1796 (by decide +kernel) rfl)) ⟨rfl, rfl, Nat.le_of_ble_eq_true rfl, Nat.le_of_ble_eq_true rfl⟩ (by show Option.map _ (parseMethodDescriptor yX11_reportByte.desc) = some 1; decide +kernel) (Nat.le_of_ble_eq_true rfl) rfl dL_law_1500 ?_
  exact l_icmp_eq C 1521 (by decide) dL_law_1503 (fun _ => hn _ _ hI2) (fun h => absurd rfl h)
def Sp_tapeLength (Inv : St → St → Prop) : Prop := ∀ (qk qm : St), Inv qk qm → ∃ (z : Int32), K_tapeLength qk = some z ∧ M_tapeLength qm = some z
theorem lc_tapeLength {X : Lv} (C : Lx X) {i : Nat} (hi : i + 6 ≤ lL X) (hL : lL X ≤ 3072) {Inv : St → St → Prop} (hs : Sp_tapeLength Inv) {qk qm : St} (hI : Inv qk qm) (hn : ∀ qk qm : St, Inv qk qm → Lt X 1521 [(0, .ref (lb X)), (1, .ref (lad X 0)), (2, .ref (lam X 0)), (3, .int (nI i))] [] qk qm) : Lt X 1508 [(0, .ref (lb X)), (1, .ref (lad X 0)), (2, .ref (lam X 0)), (3, .int (nI i))] [] qk qm := by
  refine l_aload C 1 rfl rfl dL_law_1508 ?_
  obtain ⟨z, hk, hm⟩ := hs qk qm hI
  refine l_callK (as := []) C (c_K_tapeLength hk) rfl (gd_V (tg 1206 (by decide +kernel) rfl) (tg 1207 (by decide +kernel) rfl) (tg 1208 (by decide +kernel) rfl) (tg 115 (by decide +kernel) rfl) (tg 1209 (by decide +kernel) rfl)) ⟨rfl, rfl, Nat.le_of_ble_eq_true rfl, Nat.le_of_ble_eq_true rfl⟩ (by show Option.map _ (parseMethodDescriptor yX10_tapeLength.desc) = some 0; decide +kernel) (Nat.le_of_ble_eq_true rfl) rfl dL_law_1509 ?_
  refine l_aload C 2 rfl rfl dL_law_1512 ?_
  refine l_callM (as := []) C (c_M_tapeLength hm) rfl (gd_V (tg 1797 (by decide +kernel) rfl) (tg 1798 (by decide +kernel) rfl) (tg 1799 (by decide +kernel) rfl) (tg 128 (by decide +kernel) rfl) (tg 1800 (by decide +kernel) rfl)) ⟨rfl, rfl, Nat.le_of_ble_eq_true rfl, Nat.le_of_ble_eq_true rfl⟩ (by show Option.map _ (parseMethodDescriptor yX11_tapeLength.desc) = some 0; decide +kernel) (Nat.le_of_ble_eq_true rfl) rfl dL_law_1513 ?_
  exact l_icmp_eq C 1521 (by decide) dL_law_1516 (fun _ => hn _ _ hI) (fun h => absurd rfl h)
def StepOK (Inv : St → St → Prop) : Prop := Sp_append Inv ∧ Sp_truncate Inv ∧ Sp_load Inv ∧ Sp_errorPosition Inv ∧ Sp_nodes Inv ∧ Sp_links Inv ∧ Sp_formats Inv ∧ Sp_layers Inv ∧ Sp_rate Inv ∧ Sp_linkBetween Inv ∧ Sp_capacity Inv ∧ Sp_isOpen Inv ∧ Sp_addReceiver Inv ∧ Sp_leave Inv ∧ Sp_setWanted Inv ∧ Sp_raise Inv ∧ Sp_place Inv ∧ Sp_remove Inv ∧ Sp_setCapacity Inv ∧ Sp_setOpen Inv ∧ Sp_improve Inv ∧ Sp_rebuild Inv ∧ Sp_undo Inv ∧ Sp_receivers Inv ∧ Sp_hasLeft Inv ∧ Sp_level Inv ∧ Sp_wanted Inv ∧ Sp_servedAt Inv ∧ Sp_pathNode Inv ∧ Sp_bottleneck Inv ∧ Sp_shared Inv ∧ Sp_neediest Inv ∧ Sp_isInTree Inv ∧ Sp_parent Inv ∧ Sp_delay Inv ∧ Sp_below Inv ∧ Sp_demand Inv ∧ Sp_linkLoad Inv ∧ Sp_cpuLoad Inv ∧ Sp_isPlaced Inv ∧ Sp_total Inv ∧ Sp_busiest Inv ∧ Sp_offer Inv ∧ Sp_graftNode Inv ∧ Sp_gain Inv ∧ Sp_bestPlace Inv ∧ Sp_loss Inv ∧ Sp_criticalLink Inv ∧ Sp_reportLength Inv ∧ Sp_reportByte Inv ∧ Sp_tapeLength Inv
