def Op_feed (Inv : JSg → Prop) : Prop := ∀ (σ : JSg), Inv σ → ∀ (a1 a2 a3 a4 a5 : Int), okI a1 → okI a2 → okI a3 → okI a4 → okI a5 → ∃ (r : Int) (σ1 : JSg) (σ2 : JSg), f_W_feed NN a1 a2 a3 a4 a5 σ = some (r, σ1) ∧ f_M_feed NN a1 a2 a3 a4 a5 σ1 = some (r, σ2) ∧ Inv σ2
def Op_end (Inv : JSg → Prop) : Prop := ∀ (σ : JSg), Inv σ → ∀ (a1 : Int), okI a1 → ∃ (r : Int) (σ1 : JSg) (σ2 : JSg), f_W_end a1 σ = some (r, σ1) ∧ f_M_end a1 σ1 = some (r, σ2) ∧ Inv σ2
def Op_island (Inv : JSg → Prop) : Prop := ∀ (σ : JSg), Inv σ → ∃ (r : Int) (σ1 : JSg) (σ2 : JSg), f_W_island NN σ = some (r, σ1) ∧ f_M_island NN σ1 = some (r, σ2) ∧ Inv σ2
def Op_fault (Inv : JSg → Prop) : Prop := ∀ (σ : JSg), Inv σ → ∃ (r : Int) (σ2 : JSg), f_W_fault  σ = some r ∧ f_M_fault  σ = some (r, σ2) ∧ Inv σ2
def Op_find (Inv : JSg → Prop) : Prop := ∀ (σ : JSg), Inv σ → ∀ (a1 a2 : Int), okI a1 → okI a2 → ∃ (r : Int) (σ2 : JSg), f_W_find NN a1 a2 σ = some r ∧ f_M_find NN a1 a2 σ = some (r, σ2) ∧ Inv σ2
def Op_widow (Inv : JSg → Prop) : Prop := ∀ (σ : JSg), Inv σ → ∀ (a1 a2 : Int), okI a1 → okI a2 → ∃ (r : Int) (σ2 : JSg), f_W_widow NN a1 a2 σ = some r ∧ f_M_widow NN a1 a2 σ = some (r, σ2) ∧ Inv σ2
def Op_fits (Inv : JSg → Prop) : Prop := ∀ (σ : JSg), Inv σ → ∀ (a1 a2 : Int), okI a1 → okI a2 → ∃ (r : Int) (σ2 : JSg), f_W_fits a1 a2 σ = some r ∧ f_M_fits a1 a2 σ = some (r, σ2) ∧ Inv σ2
def Op_at (Inv : JSg → Prop) : Prop := ∀ (σ : JSg), Inv σ → ∀ (a1 : Int), okI a1 → ∃ (r : Int) (σ2 : JSg), f_W_at a1 σ = some r ∧ f_M_at a1 σ = some (r, σ2) ∧ Inv σ2
def Op_pips (Inv : JSg → Prop) : Prop := ∀ (σ : JSg), Inv σ → ∀ (a1 : Int), okI a1 → ∃ (r : Int) (σ2 : JSg), f_W_pips a1 σ = some r ∧ f_M_pips a1 σ = some (r, σ2) ∧ Inv σ2
def Op_why (Inv : JSg → Prop) : Prop := ∀ (σ : JSg), Inv σ → ∀ (a1 a2 a3 : Int), okI a1 → okI a2 → okI a3 → ∃ (r : Int) (σ2 : JSg), f_W_why a1 a2 a3 σ = some r ∧ f_M_why a1 a2 a3 σ = some (r, σ2) ∧ Inv σ2
def Op_lay (Inv : JSg → Prop) : Prop := ∀ (σ : JSg), Inv σ → ∀ (a1 a2 a3 : Int), okI a1 → okI a2 → okI a3 → ∃ (r : Int) (σ1 : JSg) (σ2 : JSg), f_W_lay NN a1 a2 a3 σ = some (r, σ1) ∧ f_M_lay NN a1 a2 a3 σ1 = some (r, σ2) ∧ Inv σ2
def Op_cat (Inv : JSg → Prop) : Prop := ∀ (σ : JSg), Inv σ → ∀ (a1 : Int), okI a1 → ∃ (r : Int) (σ1 : JSg) (σ2 : JSg), f_W_cat NN a1 σ = some (r, σ1) ∧ f_M_cat NN a1 σ1 = some (r, σ2) ∧ Inv σ2
def Op_tide (Inv : JSg → Prop) : Prop := ∀ (σ : JSg), Inv σ → ∃ (r : Int) (σ1 : JSg) (σ2 : JSg), f_W_tide  σ = some (r, σ1) ∧ f_M_tide NN σ1 = some (r, σ2) ∧ Inv σ2
def Op_pawn (Inv : JSg → Prop) : Prop := ∀ (σ : JSg), Inv σ → ∀ (a1 : Int), okI a1 → ∃ (r : Int) (σ1 : JSg) (σ2 : JSg), f_W_pawn a1 σ = some (r, σ1) ∧ f_M_pawn NN a1 σ1 = some (r, σ2) ∧ Inv σ2
def Op_redeem (Inv : JSg → Prop) : Prop := ∀ (σ : JSg), Inv σ → ∀ (a1 : Int), okI a1 → ∃ (r : Int) (σ1 : JSg) (σ2 : JSg), f_W_redeem a1 σ = some (r, σ1) ∧ f_M_redeem NN a1 σ1 = some (r, σ2) ∧ Inv σ2
def Op_will (Inv : JSg → Prop) : Prop := ∀ (σ : JSg), Inv σ → ∀ (a1 a2 : Int), okI a1 → okI a2 → ∃ (r : Int) (σ1 : JSg) (σ2 : JSg), f_W_will NN a1 a2 σ = some (r, σ1) ∧ f_M_will NN a1 a2 σ1 = some (r, σ2) ∧ Inv σ2
def Op_undo (Inv : JSg → Prop) : Prop := ∀ (σ : JSg), Inv σ → ∃ (r : Int) (σ1 : JSg) (σ2 : JSg), f_W_undo  σ = some (r, σ1) ∧ f_M_undo NN σ1 = some (r, σ2) ∧ Inv σ2
def Op_visits (Inv : JSg → Prop) : Prop := ∀ (σ : JSg), Inv σ → ∀ (a1 : Int), okI a1 → ∃ (r : Int) (σ2 : JSg), f_W_visits NN a1 σ = some r ∧ f_M_visits NN a1 σ = some (r, σ2) ∧ Inv σ2
def Op_able (Inv : JSg → Prop) : Prop := ∀ (σ : JSg), Inv σ → ∀ (a1 : Int), okI a1 → ∃ (r : Int) (σ2 : JSg), f_W_able NN a1 σ = some r ∧ f_M_able NN a1 σ = some (r, σ2) ∧ Inv σ2
def Op_longest (Inv : JSg → Prop) : Prop := ∀ (σ : JSg), Inv σ → ∃ (r : Int) (σ1 : JSg) (σ2 : JSg), f_W_longest NN σ = some (r, σ1) ∧ f_M_longest NN σ1 = some (r, σ2) ∧ Inv σ2
def Op_longAt (Inv : JSg → Prop) : Prop := ∀ (σ : JSg), Inv σ → ∀ (a1 : Int), okI a1 → ∃ (r : Int) (σ2 : JSg), f_W_longAt a1 σ = some r ∧ f_M_longAt a1 σ = some (r, σ2) ∧ Inv σ2
def Op_all (Inv : JSg → Prop) : Prop := ∀ (σ : JSg), Inv σ → ∃ (r : Int) (σ1 : JSg) (σ2 : JSg), f_W_all NN σ = some (r, σ1) ∧ f_M_all NN σ1 = some (r, σ2) ∧ Inv σ2
def Op_allAt (Inv : JSg → Prop) : Prop := ∀ (σ : JSg), Inv σ → ∀ (a1 : Int), okI a1 → ∃ (r : Int) (σ2 : JSg), f_W_allAt a1 σ = some r ∧ f_M_allAt a1 σ = some (r, σ2) ∧ Inv σ2
def Op_game (Inv : JSg → Prop) : Prop := ∀ (σ : JSg), Inv σ → ∀ (a1 a2 : Int), okI a1 → okI a2 → ∃ (r : Int) (σ1 : JSg) (σ2 : JSg), f_W_game NN a1 a2 σ = some (r, σ1) ∧ f_M_game NN a1 a2 σ1 = some (r, σ2) ∧ Inv σ2
def Op_first (Inv : JSg → Prop) : Prop := ∀ (σ : JSg), Inv σ → ∃ (r : Int) (σ2 : JSg), f_W_first  σ = some r ∧ f_M_first  σ = some (r, σ2) ∧ Inv σ2
def Op_open (Inv : JSg → Prop) : Prop := ∀ (σ : JSg), Inv σ → ∀ (a1 : Int), okI a1 → ∃ (r : Int) (σ2 : JSg), f_W_open NN a1 σ = some r ∧ f_M_open NN a1 σ = some (r, σ2) ∧ Inv σ2
def Op_stretch (Inv : JSg → Prop) : Prop := ∀ (σ : JSg), Inv σ → ∃ (r : Int) (σ2 : JSg), f_W_stretch NN σ = some r ∧ f_M_stretch NN σ = some (r, σ2) ∧ Inv σ2
def Op_leads (Inv : JSg → Prop) : Prop := ∀ (σ : JSg), Inv σ → ∀ (a1 a2 : Int), okI a1 → okI a2 → ∃ (r : Int) (σ1 : JSg) (σ2 : JSg), f_W_leads NN a1 a2 σ = some (r, σ1) ∧ f_M_leads NN a1 a2 σ1 = some (r, σ2) ∧ Inv σ2
def Op_dearest (Inv : JSg → Prop) : Prop := ∀ (σ : JSg), Inv σ → ∃ (r : Int) (σ2 : JSg), f_W_dearest NN σ = some r ∧ f_M_dearest NN σ = some (r, σ2) ∧ Inv σ2
def Op_counts (Inv : JSg → Prop) : Prop := ∀ (σ : JSg), Inv σ → ∀ (a1 a2 : Int), okI a1 → okI a2 → ∃ (r : Int) (σ2 : JSg), f_W_counts NN a1 a2 σ = some r ∧ f_M_counts NN a1 a2 σ = some (r, σ2) ∧ Inv σ2
def Op_greedy (Inv : JSg → Prop) : Prop := ∀ (σ : JSg), Inv σ → ∃ (r : Int) (σ1 : JSg) (σ2 : JSg), f_W_greedy NN σ = some (r, σ1) ∧ f_M_greedy NN σ1 = some (r, σ2) ∧ Inv σ2
def Op_memory (Inv : JSg → Prop) : Prop := ∀ (σ : JSg), Inv σ → ∃ (r : Int) (σ1 : JSg) (σ2 : JSg), f_W_memory NN σ = some (r, σ1) ∧ f_M_memory NN σ1 = some (r, σ2) ∧ Inv σ2
def Op_dealings (Inv : JSg → Prop) : Prop := ∀ (σ : JSg), Inv σ → ∃ (r : Int) (σ1 : JSg) (σ2 : JSg), f_W_dealings NN σ = some (r, σ1) ∧ f_M_dealings NN σ1 = some (r, σ2) ∧ Inv σ2
def Op_whose (Inv : JSg → Prop) : Prop := ∀ (σ : JSg), Inv σ → ∀ (a1 a2 : Int), okI a1 → okI a2 → ∃ (r : Int) (σ1 : JSg) (σ2 : JSg), f_W_whose NN a1 a2 σ = some (r, σ1) ∧ f_M_whose NN a1 a2 σ1 = some (r, σ2) ∧ Inv σ2
def Op_sure (Inv : JSg → Prop) : Prop := ∀ (σ : JSg), Inv σ → ∀ (a1 : Int), okI a1 → ∃ (r : Int) (σ1 : JSg) (σ2 : JSg), f_W_sure NN a1 σ = some (r, σ1) ∧ f_M_sure NN a1 σ1 = some (r, σ2) ∧ Inv σ2
def Op_days (Inv : JSg → Prop) : Prop := ∀ (σ : JSg), Inv σ → ∀ (a1 a2 : Int), okI a1 → okI a2 → ∃ (r : Int) (σ1 : JSg) (σ2 : JSg), f_W_days NN a1 a2 σ = some (r, σ1) ∧ f_M_days NN a1 a2 σ1 = some (r, σ2) ∧ Inv σ2
def Op_drawn (Inv : JSg → Prop) : Prop := ∀ (σ : JSg), Inv σ → ∀ (a1 : Int), okI a1 → ∃ (r : Int) (σ2 : JSg), f_W_drawn a1 σ = some r ∧ f_M_drawn a1 σ = some (r, σ2) ∧ Inv σ2
def Op_write (Inv : JSg → Prop) : Prop := ∀ (σ : JSg), Inv σ → ∃ (r : Int) (σ1 : JSg) (σ2 : JSg), f_W_write NN σ = some (r, σ1) ∧ f_M_write NN σ1 = some (r, σ2) ∧ Inv σ2
def Op_byteAt (Inv : JSg → Prop) : Prop := ∀ (σ : JSg), Inv σ → ∀ (a1 : Int), okI a1 → ∃ (r : Int) (σ2 : JSg), f_W_byteAt a1 σ = some r ∧ f_M_byteAt a1 σ = some (r, σ2) ∧ Inv σ2
def Op_gaps (Inv : JSg → Prop) : Prop := ∀ (σ : JSg), Inv σ → ∀ (a1 : Int), okI a1 → ∃ (r : Int) (σ2 : JSg), f_W_gaps NN a1 σ = some r ∧ f_M_gaps NN a1 σ = some (r, σ2) ∧ Inv σ2
def Op_sentence (Inv : JSg → Prop) : Prop := ∀ (σ : JSg), Inv σ → ∃ (r : Int) (σ1 : JSg) (σ2 : JSg), f_W_sentence NN σ = some (r, σ1) ∧ f_M_sentence NN σ1 = some (r, σ2) ∧ Inv σ2
def Op_said (Inv : JSg → Prop) : Prop := ∀ (σ : JSg), Inv σ → ∀ (a1 : Int), okI a1 → ∃ (r : Int) (σ1 : JSg) (σ2 : JSg), f_W_said NN a1 σ = some (r, σ1) ∧ f_M_said NN a1 σ1 = some (r, σ2) ∧ Inv σ2
def Op_image (Inv : JSg → Prop) : Prop := ∀ (σ : JSg), Inv σ → ∀ (a1 : Int), okI a1 → ∃ (r : Int) (σ1 : JSg) (σ2 : JSg), f_W_image a1 σ = some (r, σ1) ∧ f_M_image NN a1 σ1 = some (r, σ2) ∧ Inv σ2
def Op_restore (Inv : JSg → Prop) : Prop := ∀ (σ : JSg), Inv σ → ∀ (a1 : Int), okI a1 → ∃ (r : Int) (σ1 : JSg) (σ2 : JSg), f_W_restore a1 σ = some (r, σ1) ∧ f_M_restore NN a1 σ1 = some (r, σ2) ∧ Inv σ2
def Op_count (Inv : JSg → Prop) : Prop := ∀ (σ : JSg), Inv σ → ∀ (a1 : Int), okI a1 → ∃ (r : Int) (σ2 : JSg), f_W_count a1 σ = some r ∧ f_M_count NN a1 σ = some (r, σ2) ∧ Inv σ2
set_option maxRecDepth 20000 in
set_option maxHeartbeats 2000000 in
theorem law_c_0 {Inv : JSg → Prop} {b Lx g : Nat} {xs : Nat → Int32} (hx : Lx ≤ 3072) {i : Int} (h0 : 0 ≤ i) (h1 : i + 5 < (Lx : Int)) {σ : JSg} (hI : Inv σ) (hop : Op_feed Inv) (kend : ∀ s : JSg, Inv s → GSim RL cL_law 7 (some .boolean) 100 SH RHO 1471 [(0, vR 3000000), (1, vR 0), (2, vR 179), (3, vR 203), (4, vI i)] [] s (fun _ : Unit => rL b Lx xs g) (some ())) : GSim RL cL_law 7 (some .boolean) 100 SH RHO 240 [(0, vR 3000000), (1, vR 0), (2, vR 179), (3, vR 203), (4, vI i)] [] σ (fun _ : Unit => rL b Lx xs g) (some ()) := by
  obtain ⟨r, σ1, σ2, hW, hM, hI2⟩ := hop σ hI (xs (w32 (i + 1)).toNat).toInt (xs (w32 (i + 2)).toNat).toInt (xs (w32 (i + 3)).toNat).toInt (xs (w32 (i + 4)).toNat).toInt (xs (w32 (i + 5)).toNat).toInt (ok32 _) (ok32 _) (ok32 _) (ok32 _) (ok32 _)
  refine sim_aload_n 1 rfl dL_law_240 ?_
  refine sim_aload_n 0 rfl dL_law_241 ?_
  refine sim_iload 4 rfl dL_law_242 ?_
  refine sim_iconst dL_law_244 (by decide) ?_
  refine sim_iadd dL_law_245 ?_
  refine sim_sld dL_law_246 ?_ (hidx h0 h1 hx (by decide))
  refine sim_aload_n 0 rfl dL_law_247 ?_
  refine sim_iload 4 rfl dL_law_248 ?_
  refine sim_iconst dL_law_250 (by decide) ?_
  refine sim_iadd dL_law_251 ?_
  refine sim_sld dL_law_252 ?_ (hidx h0 h1 hx (by decide))
  refine sim_aload_n 0 rfl dL_law_253 ?_
  refine sim_iload 4 rfl dL_law_254 ?_
  refine sim_iconst dL_law_256 (by decide) ?_
  refine sim_iadd dL_law_257 ?_
  refine sim_sld dL_law_258 ?_ (hidx h0 h1 hx (by decide))
  refine sim_aload_n 0 rfl dL_law_259 ?_
  refine sim_iload 4 rfl dL_law_260 ?_
  refine sim_iconst dL_law_262 (by decide) ?_
  refine sim_iadd dL_law_263 ?_
  refine sim_sld dL_law_264 ?_ (hidx h0 h1 hx (by decide))
  refine sim_aload_n 0 rfl dL_law_265 ?_
  refine sim_iload 4 rfl dL_law_266 ?_
  refine sim_iconst dL_law_268 (by decide) ?_
  refine sim_iadd dL_law_269 ?_
  refine sim_sld dL_law_270 ?_ (hidx h0 h1 hx (by decide))
  refine kn_VIm hW v_RL_19 sh_0 dL_law_271 (k_W_feed NN ((xs (w32 (i + 1)).toNat).toInt) ((xs (w32 (i + 2)).toNat).toInt) ((xs (w32 (i + 3)).toNat).toInt) ((xs (w32 (i + 4)).toNat).toInt) ((xs (w32 (i + 5)).toNat).toInt) σ) rfl ⟨by decide, by decide⟩ (as := [vI (xs (w32 (i + 1)).toNat).toInt, vI (xs (w32 (i + 2)).toNat).toInt, vI (xs (w32 (i + 3)).toNat).toInt, vI (xs (w32 (i + 4)).toNat).toInt, vI (xs (w32 (i + 5)).toNat).toInt]) (S := []) rfl (Nat.le_of_ble_eq_true rfl) ?_
  refine sim_aload_n 2 rfl dL_law_274 ?_
  refine sim_aload_n 0 rfl dL_law_275 ?_
  refine sim_iload 4 rfl dL_law_276 ?_
  refine sim_iconst dL_law_278 (by decide) ?_
  refine sim_iadd dL_law_279 ?_
  refine sim_sld dL_law_280 ?_ (hidx h0 h1 hx (by decide))
  refine sim_aload_n 0 rfl dL_law_281 ?_
  refine sim_iload 4 rfl dL_law_282 ?_
  refine sim_iconst dL_law_284 (by decide) ?_
  refine sim_iadd dL_law_285 ?_
  refine sim_sld dL_law_286 ?_ (hidx h0 h1 hx (by decide))
  refine sim_aload_n 0 rfl dL_law_287 ?_
  refine sim_iload 4 rfl dL_law_288 ?_
  refine sim_iconst dL_law_290 (by decide) ?_
  refine sim_iadd dL_law_291 ?_
  refine sim_sld dL_law_292 ?_ (hidx h0 h1 hx (by decide))
  refine sim_aload_n 0 rfl dL_law_293 ?_
  refine sim_iload 4 rfl dL_law_294 ?_
  refine sim_iconst dL_law_296 (by decide) ?_
  refine sim_iadd dL_law_297 ?_
  refine sim_sld dL_law_298 ?_ (hidx h0 h1 hx (by decide))
  refine sim_aload_n 0 rfl dL_law_299 ?_
  refine sim_iload 4 rfl dL_law_300 ?_
  refine sim_iconst dL_law_302 (by decide) ?_
  refine sim_iadd dL_law_303 ?_
  refine sim_sld dL_law_304 ?_ (hidx h0 h1 hx (by decide))
  refine kn_VIm hM v_RL_23 sh_179 dL_law_305 (k_M_feed NN ((xs (w32 (i + 1)).toNat).toInt) ((xs (w32 (i + 2)).toNat).toInt) ((xs (w32 (i + 3)).toNat).toInt) ((xs (w32 (i + 4)).toNat).toInt) ((xs (w32 (i + 5)).toNat).toInt) σ1) rfl ⟨by decide, by decide⟩ (as := [vI (xs (w32 (i + 1)).toNat).toInt, vI (xs (w32 (i + 2)).toNat).toInt, vI (xs (w32 (i + 3)).toNat).toInt, vI (xs (w32 (i + 4)).toNat).toInt, vI (xs (w32 (i + 5)).toNat).toInt]) (S := [vI r]) rfl (Nat.le_of_ble_eq_true rfl) ?_
  refine kn_icmp_eq (tgt := 1471) rfl dL_law_308 (by decide) ?_
  exact kend σ2 hI2
set_option maxRecDepth 20000 in
set_option maxHeartbeats 2000000 in
theorem law_c_1 {Inv : JSg → Prop} {b Lx g : Nat} {xs : Nat → Int32} (hx : Lx ≤ 3072) {i : Int} (h0 : 0 ≤ i) (h1 : i + 5 < (Lx : Int)) {σ : JSg} (hI : Inv σ) (hop : Op_end Inv) (kend : ∀ s : JSg, Inv s → GSim RL cL_law 7 (some .boolean) 100 SH RHO 1471 [(0, vR 3000000), (1, vR 0), (2, vR 179), (3, vR 203), (4, vI i)] [] s (fun _ : Unit => rL b Lx xs g) (some ())) : GSim RL cL_law 7 (some .boolean) 100 SH RHO 313 [(0, vR 3000000), (1, vR 0), (2, vR 179), (3, vR 203), (4, vI i)] [] σ (fun _ : Unit => rL b Lx xs g) (some ()) := by
  obtain ⟨r, σ1, σ2, hW, hM, hI2⟩ := hop σ hI (xs (w32 (i + 1)).toNat).toInt (ok32 _)
  refine sim_aload_n 1 rfl dL_law_313 ?_
  refine sim_aload_n 0 rfl dL_law_314 ?_
  refine sim_iload 4 rfl dL_law_315 ?_
  refine sim_iconst dL_law_317 (by decide) ?_
  refine sim_iadd dL_law_318 ?_
  refine sim_sld dL_law_319 ?_ (hidx h0 h1 hx (by decide))
  refine kn_VIm hW v_RL_24 sh_0 dL_law_320 (k_W_end ((xs (w32 (i + 1)).toNat).toInt) σ) rfl ⟨by decide, by decide⟩ (as := [vI (xs (w32 (i + 1)).toNat).toInt]) (S := []) rfl (Nat.le_of_ble_eq_true rfl) ?_
  refine sim_aload_n 2 rfl dL_law_323 ?_
  refine sim_aload_n 0 rfl dL_law_324 ?_
  refine sim_iload 4 rfl dL_law_325 ?_
  refine sim_iconst dL_law_327 (by decide) ?_
  refine sim_iadd dL_law_328 ?_
  refine sim_sld dL_law_329 ?_ (hidx h0 h1 hx (by decide))
  refine kn_VIm hM v_RL_28 sh_179 dL_law_330 (k_M_end ((xs (w32 (i + 1)).toNat).toInt) σ1) rfl ⟨by decide, by decide⟩ (as := [vI (xs (w32 (i + 1)).toNat).toInt]) (S := [vI r]) rfl (Nat.le_of_ble_eq_true rfl) ?_
  refine kn_icmp_eq (tgt := 1471) rfl dL_law_333 (by decide) ?_
  exact kend σ2 hI2
set_option maxRecDepth 20000 in
set_option maxHeartbeats 2000000 in
theorem law_c_2 {Inv : JSg → Prop} {b Lx g : Nat} {xs : Nat → Int32} (hx : Lx ≤ 3072) {i : Int} (h0 : 0 ≤ i) (h1 : i + 5 < (Lx : Int)) {σ : JSg} (hI : Inv σ) (hop : Op_island Inv) (kend : ∀ s : JSg, Inv s → GSim RL cL_law 7 (some .boolean) 100 SH RHO 1471 [(0, vR 3000000), (1, vR 0), (2, vR 179), (3, vR 203), (4, vI i)] [] s (fun _ : Unit => rL b Lx xs g) (some ())) : GSim RL cL_law 7 (some .boolean) 100 SH RHO 338 [(0, vR 3000000), (1, vR 0), (2, vR 179), (3, vR 203), (4, vI i)] [] σ (fun _ : Unit => rL b Lx xs g) (some ()) := by
  obtain ⟨r, σ1, σ2, hW, hM, hI2⟩ := hop σ hI 
  refine sim_aload_n 1 rfl dL_law_338 ?_
  refine kn_VIm hW v_RL_29 sh_0 dL_law_339 (k_W_island NN σ) rfl ⟨by decide, by decide⟩ (as := []) (S := []) rfl (Nat.le_of_ble_eq_true rfl) ?_
  refine sim_aload_n 2 rfl dL_law_342 ?_
  refine kn_VIm hM v_RL_33 sh_179 dL_law_343 (k_M_island NN σ1) rfl ⟨by decide, by decide⟩ (as := []) (S := [vI r]) rfl (Nat.le_of_ble_eq_true rfl) ?_
  refine kn_icmp_eq (tgt := 1471) rfl dL_law_346 (by decide) ?_
  exact kend σ2 hI2
set_option maxRecDepth 20000 in
set_option maxHeartbeats 2000000 in
theorem law_c_3 {Inv : JSg → Prop} {b Lx g : Nat} {xs : Nat → Int32} (hx : Lx ≤ 3072) {i : Int} (h0 : 0 ≤ i) (h1 : i + 5 < (Lx : Int)) {σ : JSg} (hI : Inv σ) (hop : Op_fault Inv) (kend : ∀ s : JSg, Inv s → GSim RL cL_law 7 (some .boolean) 100 SH RHO 1471 [(0, vR 3000000), (1, vR 0), (2, vR 179), (3, vR 203), (4, vI i)] [] s (fun _ : Unit => rL b Lx xs g) (some ())) : GSim RL cL_law 7 (some .boolean) 100 SH RHO 351 [(0, vR 3000000), (1, vR 0), (2, vR 179), (3, vR 203), (4, vI i)] [] σ (fun _ : Unit => rL b Lx xs g) (some ()) := by
  obtain ⟨r, σ2, hW, hM, hI2⟩ := hop σ hI 
  refine sim_aload_n 1 rfl dL_law_351 ?_
  refine kn_VIp hW v_RL_34 sh_0 dL_law_352 (k_W_fault  σ) rfl ⟨by decide, by decide⟩ (as := []) (S := []) rfl (Nat.le_of_ble_eq_true rfl) ?_
  refine sim_aload_n 2 rfl dL_law_355 ?_
  refine kn_VIm hM v_RL_37 sh_179 dL_law_356 (k_M_fault  σ) rfl ⟨by decide, by decide⟩ (as := []) (S := [vI r]) rfl (Nat.le_of_ble_eq_true rfl) ?_
  refine kn_icmp_eq (tgt := 1471) rfl dL_law_359 (by decide) ?_
  exact kend σ2 hI2
set_option maxRecDepth 20000 in
set_option maxHeartbeats 2000000 in
theorem law_c_5 {Inv : JSg → Prop} {b Lx g : Nat} {xs : Nat → Int32} (hx : Lx ≤ 3072) {i : Int} (h0 : 0 ≤ i) (h1 : i + 5 < (Lx : Int)) {σ : JSg} (hI : Inv σ) (hop : Op_find Inv) (kend : ∀ s : JSg, Inv s → GSim RL cL_law 7 (some .boolean) 100 SH RHO 1471 [(0, vR 3000000), (1, vR 0), (2, vR 179), (3, vR 203), (4, vI i)] [] s (fun _ : Unit => rL b Lx xs g) (some ())) : GSim RL cL_law 7 (some .boolean) 100 SH RHO 432 [(0, vR 3000000), (1, vR 0), (2, vR 179), (3, vR 203), (4, vI i)] [] σ (fun _ : Unit => rL b Lx xs g) (some ()) := by
  obtain ⟨r, σ2, hW, hM, hI2⟩ := hop σ hI (xs (w32 (i + 1)).toNat).toInt (xs (w32 (i + 2)).toNat).toInt (ok32 _) (ok32 _)
  refine sim_aload_n 1 rfl dL_law_432 ?_
  refine sim_aload_n 0 rfl dL_law_433 ?_
  refine sim_iload 4 rfl dL_law_434 ?_
  refine sim_iconst dL_law_436 (by decide) ?_
  refine sim_iadd dL_law_437 ?_
  refine sim_sld dL_law_438 ?_ (hidx h0 h1 hx (by decide))
  refine sim_aload_n 0 rfl dL_law_439 ?_
  refine sim_iload 4 rfl dL_law_440 ?_
  refine sim_iconst dL_law_442 (by decide) ?_
  refine sim_iadd dL_law_443 ?_
  refine sim_sld dL_law_444 ?_ (hidx h0 h1 hx (by decide))
  refine kn_VIp hW v_RL_47 sh_0 dL_law_445 (k_W_find NN ((xs (w32 (i + 1)).toNat).toInt) ((xs (w32 (i + 2)).toNat).toInt) σ) rfl ⟨by decide, by decide⟩ (as := [vI (xs (w32 (i + 1)).toNat).toInt, vI (xs (w32 (i + 2)).toNat).toInt]) (S := []) rfl (Nat.le_of_ble_eq_true rfl) ?_
  refine sim_aload_n 2 rfl dL_law_448 ?_
  refine sim_aload_n 0 rfl dL_law_449 ?_
  refine sim_iload 4 rfl dL_law_450 ?_
  refine sim_iconst dL_law_452 (by decide) ?_
  refine sim_iadd dL_law_453 ?_
  refine sim_sld dL_law_454 ?_ (hidx h0 h1 hx (by decide))
  refine sim_aload_n 0 rfl dL_law_455 ?_
  refine sim_iload 4 rfl dL_law_456 ?_
  refine sim_iconst dL_law_458 (by decide) ?_
  refine sim_iadd dL_law_459 ?_
  refine sim_sld dL_law_460 ?_ (hidx h0 h1 hx (by decide))
  refine kn_VIm hM v_RL_50 sh_179 dL_law_461 (k_M_find NN ((xs (w32 (i + 1)).toNat).toInt) ((xs (w32 (i + 2)).toNat).toInt) σ) rfl ⟨by decide, by decide⟩ (as := [vI (xs (w32 (i + 1)).toNat).toInt, vI (xs (w32 (i + 2)).toNat).toInt]) (S := [vI r]) rfl (Nat.le_of_ble_eq_true rfl) ?_
  refine kn_icmp_eq (tgt := 1471) rfl dL_law_464 (by decide) ?_
  exact kend σ2 hI2
set_option maxRecDepth 20000 in
set_option maxHeartbeats 2000000 in
theorem law_c_6 {Inv : JSg → Prop} {b Lx g : Nat} {xs : Nat → Int32} (hx : Lx ≤ 3072) {i : Int} (h0 : 0 ≤ i) (h1 : i + 5 < (Lx : Int)) {σ : JSg} (hI : Inv σ) (hop : Op_widow Inv) (kend : ∀ s : JSg, Inv s → GSim RL cL_law 7 (some .boolean) 100 SH RHO 1471 [(0, vR 3000000), (1, vR 0), (2, vR 179), (3, vR 203), (4, vI i)] [] s (fun _ : Unit => rL b Lx xs g) (some ())) : GSim RL cL_law 7 (some .boolean) 100 SH RHO 469 [(0, vR 3000000), (1, vR 0), (2, vR 179), (3, vR 203), (4, vI i)] [] σ (fun _ : Unit => rL b Lx xs g) (some ()) := by
  obtain ⟨r, σ2, hW, hM, hI2⟩ := hop σ hI (xs (w32 (i + 1)).toNat).toInt (xs (w32 (i + 2)).toNat).toInt (ok32 _) (ok32 _)
  refine sim_aload_n 1 rfl dL_law_469 ?_
  refine sim_aload_n 0 rfl dL_law_470 ?_
  refine sim_iload 4 rfl dL_law_471 ?_
  refine sim_iconst dL_law_473 (by decide) ?_
  refine sim_iadd dL_law_474 ?_
  refine sim_sld dL_law_475 ?_ (hidx h0 h1 hx (by decide))
  refine sim_aload_n 0 rfl dL_law_476 ?_
  refine sim_iload 4 rfl dL_law_477 ?_
  refine sim_iconst dL_law_479 (by decide) ?_
  refine sim_iadd dL_law_480 ?_
  refine sim_sld dL_law_481 ?_ (hidx h0 h1 hx (by decide))
  refine kn_VIp hW v_RL_51 sh_0 dL_law_482 (k_W_widow NN ((xs (w32 (i + 1)).toNat).toInt) ((xs (w32 (i + 2)).toNat).toInt) σ) rfl ⟨by decide, by decide⟩ (as := [vI (xs (w32 (i + 1)).toNat).toInt, vI (xs (w32 (i + 2)).toNat).toInt]) (S := []) rfl (Nat.le_of_ble_eq_true rfl) ?_
  refine sim_aload_n 2 rfl dL_law_485 ?_
  refine sim_aload_n 0 rfl dL_law_486 ?_
  refine sim_iload 4 rfl dL_law_487 ?_
  refine sim_iconst dL_law_489 (by decide) ?_
  refine sim_iadd dL_law_490 ?_
  refine sim_sld dL_law_491 ?_ (hidx h0 h1 hx (by decide))
  refine sim_aload_n 0 rfl dL_law_492 ?_
  refine sim_iload 4 rfl dL_law_493 ?_
  refine sim_iconst dL_law_495 (by decide) ?_
  refine sim_iadd dL_law_496 ?_
  refine sim_sld dL_law_497 ?_ (hidx h0 h1 hx (by decide))
  refine kn_VIm hM v_RL_54 sh_179 dL_law_498 (k_M_widow NN ((xs (w32 (i + 1)).toNat).toInt) ((xs (w32 (i + 2)).toNat).toInt) σ) rfl ⟨by decide, by decide⟩ (as := [vI (xs (w32 (i + 1)).toNat).toInt, vI (xs (w32 (i + 2)).toNat).toInt]) (S := [vI r]) rfl (Nat.le_of_ble_eq_true rfl) ?_
  refine kn_icmp_eq (tgt := 1471) rfl dL_law_501 (by decide) ?_
  exact kend σ2 hI2
set_option maxRecDepth 20000 in
set_option maxHeartbeats 2000000 in
theorem law_c_7 {Inv : JSg → Prop} {b Lx g : Nat} {xs : Nat → Int32} (hx : Lx ≤ 3072) {i : Int} (h0 : 0 ≤ i) (h1 : i + 5 < (Lx : Int)) {σ : JSg} (hI : Inv σ) (hop : Op_fits Inv) (kend : ∀ s : JSg, Inv s → GSim RL cL_law 7 (some .boolean) 100 SH RHO 1471 [(0, vR 3000000), (1, vR 0), (2, vR 179), (3, vR 203), (4, vI i)] [] s (fun _ : Unit => rL b Lx xs g) (some ())) : GSim RL cL_law 7 (some .boolean) 100 SH RHO 506 [(0, vR 3000000), (1, vR 0), (2, vR 179), (3, vR 203), (4, vI i)] [] σ (fun _ : Unit => rL b Lx xs g) (some ()) := by
  obtain ⟨r, σ2, hW, hM, hI2⟩ := hop σ hI (xs (w32 (i + 1)).toNat).toInt (xs (w32 (i + 2)).toNat).toInt (ok32 _) (ok32 _)
  refine sim_aload_n 1 rfl dL_law_506 ?_
  refine sim_aload_n 0 rfl dL_law_507 ?_
  refine sim_iload 4 rfl dL_law_508 ?_
  refine sim_iconst dL_law_510 (by decide) ?_
  refine sim_iadd dL_law_511 ?_
  refine sim_sld dL_law_512 ?_ (hidx h0 h1 hx (by decide))
  refine sim_aload_n 0 rfl dL_law_513 ?_
  refine sim_iload 4 rfl dL_law_514 ?_
  refine sim_iconst dL_law_516 (by decide) ?_
  refine sim_iadd dL_law_517 ?_
  refine sim_sld dL_law_518 ?_ (hidx h0 h1 hx (by decide))
  refine kn_VIp hW v_RL_55 sh_0 dL_law_519 (k_W_fits ((xs (w32 (i + 1)).toNat).toInt) ((xs (w32 (i + 2)).toNat).toInt) σ) rfl ⟨by decide, by decide⟩ (as := [vI (xs (w32 (i + 1)).toNat).toInt, vI (xs (w32 (i + 2)).toNat).toInt]) (S := []) rfl (Nat.le_of_ble_eq_true rfl) ?_
  refine sim_aload_n 2 rfl dL_law_522 ?_
  refine sim_aload_n 0 rfl dL_law_523 ?_
  refine sim_iload 4 rfl dL_law_524 ?_
  refine sim_iconst dL_law_526 (by decide) ?_
  refine sim_iadd dL_law_527 ?_
  refine sim_sld dL_law_528 ?_ (hidx h0 h1 hx (by decide))
  refine sim_aload_n 0 rfl dL_law_529 ?_
  refine sim_iload 4 rfl dL_law_530 ?_
  refine sim_iconst dL_law_532 (by decide) ?_
  refine sim_iadd dL_law_533 ?_
  refine sim_sld dL_law_534 ?_ (hidx h0 h1 hx (by decide))
  refine kn_VIm hM v_RL_58 sh_179 dL_law_535 (k_M_fits ((xs (w32 (i + 1)).toNat).toInt) ((xs (w32 (i + 2)).toNat).toInt) σ) rfl ⟨by decide, by decide⟩ (as := [vI (xs (w32 (i + 1)).toNat).toInt, vI (xs (w32 (i + 2)).toNat).toInt]) (S := [vI r]) rfl (Nat.le_of_ble_eq_true rfl) ?_
  refine kn_icmp_eq (tgt := 1471) rfl dL_law_538 (by decide) ?_
  exact kend σ2 hI2
set_option maxRecDepth 20000 in
set_option maxHeartbeats 2000000 in
theorem law_c_8 {Inv : JSg → Prop} {b Lx g : Nat} {xs : Nat → Int32} (hx : Lx ≤ 3072) {i : Int} (h0 : 0 ≤ i) (h1 : i + 5 < (Lx : Int)) {σ : JSg} (hI : Inv σ) (hop : Op_at Inv) (kend : ∀ s : JSg, Inv s → GSim RL cL_law 7 (some .boolean) 100 SH RHO 1471 [(0, vR 3000000), (1, vR 0), (2, vR 179), (3, vR 203), (4, vI i)] [] s (fun _ : Unit => rL b Lx xs g) (some ())) : GSim RL cL_law 7 (some .boolean) 100 SH RHO 543 [(0, vR 3000000), (1, vR 0), (2, vR 179), (3, vR 203), (4, vI i)] [] σ (fun _ : Unit => rL b Lx xs g) (some ()) := by
  obtain ⟨r, σ2, hW, hM, hI2⟩ := hop σ hI (xs (w32 (i + 1)).toNat).toInt (ok32 _)
  refine sim_aload_n 1 rfl dL_law_543 ?_
  refine sim_aload_n 0 rfl dL_law_544 ?_
  refine sim_iload 4 rfl dL_law_545 ?_
  refine sim_iconst dL_law_547 (by decide) ?_
  refine sim_iadd dL_law_548 ?_
  refine sim_sld dL_law_549 ?_ (hidx h0 h1 hx (by decide))
  refine kn_VIp hW v_RL_59 sh_0 dL_law_550 (k_W_at ((xs (w32 (i + 1)).toNat).toInt) σ) rfl ⟨by decide, by decide⟩ (as := [vI (xs (w32 (i + 1)).toNat).toInt]) (S := []) rfl (Nat.le_of_ble_eq_true rfl) ?_
  refine sim_aload_n 2 rfl dL_law_553 ?_
  refine sim_aload_n 0 rfl dL_law_554 ?_
  refine sim_iload 4 rfl dL_law_555 ?_
  refine sim_iconst dL_law_557 (by decide) ?_
  refine sim_iadd dL_law_558 ?_
  refine sim_sld dL_law_559 ?_ (hidx h0 h1 hx (by decide))
  refine kn_VIm hM v_RL_63 sh_179 dL_law_560 (k_M_at ((xs (w32 (i + 1)).toNat).toInt) σ) rfl ⟨by decide, by decide⟩ (as := [vI (xs (w32 (i + 1)).toNat).toInt]) (S := [vI r]) rfl (Nat.le_of_ble_eq_true rfl) ?_
  refine kn_icmp_eq (tgt := 1471) rfl dL_law_563 (by decide) ?_
  exact kend σ2 hI2
set_option maxRecDepth 20000 in
set_option maxHeartbeats 2000000 in
theorem law_c_9 {Inv : JSg → Prop} {b Lx g : Nat} {xs : Nat → Int32} (hx : Lx ≤ 3072) {i : Int} (h0 : 0 ≤ i) (h1 : i + 5 < (Lx : Int)) {σ : JSg} (hI : Inv σ) (hop : Op_pips Inv) (kend : ∀ s : JSg, Inv s → GSim RL cL_law 7 (some .boolean) 100 SH RHO 1471 [(0, vR 3000000), (1, vR 0), (2, vR 179), (3, vR 203), (4, vI i)] [] s (fun _ : Unit => rL b Lx xs g) (some ())) : GSim RL cL_law 7 (some .boolean) 100 SH RHO 568 [(0, vR 3000000), (1, vR 0), (2, vR 179), (3, vR 203), (4, vI i)] [] σ (fun _ : Unit => rL b Lx xs g) (some ()) := by
  obtain ⟨r, σ2, hW, hM, hI2⟩ := hop σ hI (xs (w32 (i + 1)).toNat).toInt (ok32 _)
  refine sim_aload_n 1 rfl dL_law_568 ?_
  refine sim_aload_n 0 rfl dL_law_569 ?_
  refine sim_iload 4 rfl dL_law_570 ?_
  refine sim_iconst dL_law_572 (by decide) ?_
  refine sim_iadd dL_law_573 ?_
  refine sim_sld dL_law_574 ?_ (hidx h0 h1 hx (by decide))
  refine kn_VIp hW v_RL_64 sh_0 dL_law_575 (k_W_pips ((xs (w32 (i + 1)).toNat).toInt) σ) rfl ⟨by decide, by decide⟩ (as := [vI (xs (w32 (i + 1)).toNat).toInt]) (S := []) rfl (Nat.le_of_ble_eq_true rfl) ?_
  refine sim_aload_n 2 rfl dL_law_578 ?_
  refine sim_aload_n 0 rfl dL_law_579 ?_
  refine sim_iload 4 rfl dL_law_580 ?_
  refine sim_iconst dL_law_582 (by decide) ?_
  refine sim_iadd dL_law_583 ?_
  refine sim_sld dL_law_584 ?_ (hidx h0 h1 hx (by decide))
  refine kn_VIm hM v_RL_67 sh_179 dL_law_585 (k_M_pips ((xs (w32 (i + 1)).toNat).toInt) σ) rfl ⟨by decide, by decide⟩ (as := [vI (xs (w32 (i + 1)).toNat).toInt]) (S := [vI r]) rfl (Nat.le_of_ble_eq_true rfl) ?_
  refine kn_icmp_eq (tgt := 1471) rfl dL_law_588 (by decide) ?_
  exact kend σ2 hI2
set_option maxRecDepth 20000 in
set_option maxHeartbeats 2000000 in
theorem law_c_10 {Inv : JSg → Prop} {b Lx g : Nat} {xs : Nat → Int32} (hx : Lx ≤ 3072) {i : Int} (h0 : 0 ≤ i) (h1 : i + 5 < (Lx : Int)) {σ : JSg} (hI : Inv σ) (hop : Op_why Inv) (kend : ∀ s : JSg, Inv s → GSim RL cL_law 7 (some .boolean) 100 SH RHO 1471 [(0, vR 3000000), (1, vR 0), (2, vR 179), (3, vR 203), (4, vI i)] [] s (fun _ : Unit => rL b Lx xs g) (some ())) : GSim RL cL_law 7 (some .boolean) 100 SH RHO 593 [(0, vR 3000000), (1, vR 0), (2, vR 179), (3, vR 203), (4, vI i)] [] σ (fun _ : Unit => rL b Lx xs g) (some ()) := by
  obtain ⟨r, σ2, hW, hM, hI2⟩ := hop σ hI (xs (w32 (i + 1)).toNat).toInt (xs (w32 (i + 2)).toNat).toInt (xs (w32 (i + 3)).toNat).toInt (ok32 _) (ok32 _) (ok32 _)
  refine sim_aload_n 1 rfl dL_law_593 ?_
  refine sim_aload_n 0 rfl dL_law_594 ?_
  refine sim_iload 4 rfl dL_law_595 ?_
  refine sim_iconst dL_law_597 (by decide) ?_
  refine sim_iadd dL_law_598 ?_
  refine sim_sld dL_law_599 ?_ (hidx h0 h1 hx (by decide))
  refine sim_aload_n 0 rfl dL_law_600 ?_
  refine sim_iload 4 rfl dL_law_601 ?_
  refine sim_iconst dL_law_603 (by decide) ?_
  refine sim_iadd dL_law_604 ?_
  refine sim_sld dL_law_605 ?_ (hidx h0 h1 hx (by decide))
  refine sim_aload_n 0 rfl dL_law_606 ?_
  refine sim_iload 4 rfl dL_law_607 ?_
  refine sim_iconst dL_law_609 (by decide) ?_
  refine sim_iadd dL_law_610 ?_
  refine sim_sld dL_law_611 ?_ (hidx h0 h1 hx (by decide))
  refine kn_VIp hW v_RL_68 sh_0 dL_law_612 (k_W_why ((xs (w32 (i + 1)).toNat).toInt) ((xs (w32 (i + 2)).toNat).toInt) ((xs (w32 (i + 3)).toNat).toInt) σ) rfl ⟨by decide, by decide⟩ (as := [vI (xs (w32 (i + 1)).toNat).toInt, vI (xs (w32 (i + 2)).toNat).toInt, vI (xs (w32 (i + 3)).toNat).toInt]) (S := []) rfl (Nat.le_of_ble_eq_true rfl) ?_
  refine sim_aload_n 2 rfl dL_law_615 ?_
  refine sim_aload_n 0 rfl dL_law_616 ?_
  refine sim_iload 4 rfl dL_law_617 ?_
  refine sim_iconst dL_law_619 (by decide) ?_
  refine sim_iadd dL_law_620 ?_
  refine sim_sld dL_law_621 ?_ (hidx h0 h1 hx (by decide))
  refine sim_aload_n 0 rfl dL_law_622 ?_
  refine sim_iload 4 rfl dL_law_623 ?_
  refine sim_iconst dL_law_625 (by decide) ?_
  refine sim_iadd dL_law_626 ?_
  refine sim_sld dL_law_627 ?_ (hidx h0 h1 hx (by decide))
  refine sim_aload_n 0 rfl dL_law_628 ?_
  refine sim_iload 4 rfl dL_law_629 ?_
  refine sim_iconst dL_law_631 (by decide) ?_
  refine sim_iadd dL_law_632 ?_
  refine sim_sld dL_law_633 ?_ (hidx h0 h1 hx (by decide))
  refine kn_VIm hM v_RL_72 sh_179 dL_law_634 (k_M_why ((xs (w32 (i + 1)).toNat).toInt) ((xs (w32 (i + 2)).toNat).toInt) ((xs (w32 (i + 3)).toNat).toInt) σ) rfl ⟨by decide, by decide⟩ (as := [vI (xs (w32 (i + 1)).toNat).toInt, vI (xs (w32 (i + 2)).toNat).toInt, vI (xs (w32 (i + 3)).toNat).toInt]) (S := [vI r]) rfl (Nat.le_of_ble_eq_true rfl) ?_
  refine kn_icmp_eq (tgt := 1471) rfl dL_law_637 (by decide) ?_
  exact kend σ2 hI2
set_option maxRecDepth 20000 in
set_option maxHeartbeats 2000000 in
theorem law_c_11 {Inv : JSg → Prop} {b Lx g : Nat} {xs : Nat → Int32} (hx : Lx ≤ 3072) {i : Int} (h0 : 0 ≤ i) (h1 : i + 5 < (Lx : Int)) {σ : JSg} (hI : Inv σ) (hop : Op_lay Inv) (kend : ∀ s : JSg, Inv s → GSim RL cL_law 7 (some .boolean) 100 SH RHO 1471 [(0, vR 3000000), (1, vR 0), (2, vR 179), (3, vR 203), (4, vI i)] [] s (fun _ : Unit => rL b Lx xs g) (some ())) : GSim RL cL_law 7 (some .boolean) 100 SH RHO 642 [(0, vR 3000000), (1, vR 0), (2, vR 179), (3, vR 203), (4, vI i)] [] σ (fun _ : Unit => rL b Lx xs g) (some ()) := by
  obtain ⟨r, σ1, σ2, hW, hM, hI2⟩ := hop σ hI (xs (w32 (i + 1)).toNat).toInt (xs (w32 (i + 2)).toNat).toInt (xs (w32 (i + 3)).toNat).toInt (ok32 _) (ok32 _) (ok32 _)
  refine sim_aload_n 1 rfl dL_law_642 ?_
  refine sim_aload_n 0 rfl dL_law_643 ?_
  refine sim_iload 4 rfl dL_law_644 ?_
  refine sim_iconst dL_law_646 (by decide) ?_
  refine sim_iadd dL_law_647 ?_
  refine sim_sld dL_law_648 ?_ (hidx h0 h1 hx (by decide))
  refine sim_aload_n 0 rfl dL_law_649 ?_
  refine sim_iload 4 rfl dL_law_650 ?_
  refine sim_iconst dL_law_652 (by decide) ?_
  refine sim_iadd dL_law_653 ?_
  refine sim_sld dL_law_654 ?_ (hidx h0 h1 hx (by decide))
  refine sim_aload_n 0 rfl dL_law_655 ?_
  refine sim_iload 4 rfl dL_law_656 ?_
  refine sim_iconst dL_law_658 (by decide) ?_
  refine sim_iadd dL_law_659 ?_
  refine sim_sld dL_law_660 ?_ (hidx h0 h1 hx (by decide))
  refine kn_VIm hW v_RL_73 sh_0 dL_law_661 (k_W_lay NN ((xs (w32 (i + 1)).toNat).toInt) ((xs (w32 (i + 2)).toNat).toInt) ((xs (w32 (i + 3)).toNat).toInt) σ) rfl ⟨by decide, by decide⟩ (as := [vI (xs (w32 (i + 1)).toNat).toInt, vI (xs (w32 (i + 2)).toNat).toInt, vI (xs (w32 (i + 3)).toNat).toInt]) (S := []) rfl (Nat.le_of_ble_eq_true rfl) ?_
  refine sim_aload_n 2 rfl dL_law_664 ?_
  refine sim_aload_n 0 rfl dL_law_665 ?_
  refine sim_iload 4 rfl dL_law_666 ?_
  refine sim_iconst dL_law_668 (by decide) ?_
  refine sim_iadd dL_law_669 ?_
  refine sim_sld dL_law_670 ?_ (hidx h0 h1 hx (by decide))
  refine sim_aload_n 0 rfl dL_law_671 ?_
  refine sim_iload 4 rfl dL_law_672 ?_
  refine sim_iconst dL_law_674 (by decide) ?_
  refine sim_iadd dL_law_675 ?_
  refine sim_sld dL_law_676 ?_ (hidx h0 h1 hx (by decide))
  refine sim_aload_n 0 rfl dL_law_677 ?_
  refine sim_iload 4 rfl dL_law_678 ?_
  refine sim_iconst dL_law_680 (by decide) ?_
  refine sim_iadd dL_law_681 ?_
  refine sim_sld dL_law_682 ?_ (hidx h0 h1 hx (by decide))
  refine kn_VIm hM v_RL_76 sh_179 dL_law_683 (k_M_lay NN ((xs (w32 (i + 1)).toNat).toInt) ((xs (w32 (i + 2)).toNat).toInt) ((xs (w32 (i + 3)).toNat).toInt) σ1) rfl ⟨by decide, by decide⟩ (as := [vI (xs (w32 (i + 1)).toNat).toInt, vI (xs (w32 (i + 2)).toNat).toInt, vI (xs (w32 (i + 3)).toNat).toInt]) (S := [vI r]) rfl (Nat.le_of_ble_eq_true rfl) ?_
  refine kn_icmp_eq (tgt := 1471) rfl dL_law_686 (by decide) ?_
  exact kend σ2 hI2
set_option maxRecDepth 20000 in
set_option maxHeartbeats 2000000 in
theorem law_c_12 {Inv : JSg → Prop} {b Lx g : Nat} {xs : Nat → Int32} (hx : Lx ≤ 3072) {i : Int} (h0 : 0 ≤ i) (h1 : i + 5 < (Lx : Int)) {σ : JSg} (hI : Inv σ) (hop : Op_cat Inv) (kend : ∀ s : JSg, Inv s → GSim RL cL_law 7 (some .boolean) 100 SH RHO 1471 [(0, vR 3000000), (1, vR 0), (2, vR 179), (3, vR 203), (4, vI i)] [] s (fun _ : Unit => rL b Lx xs g) (some ())) : GSim RL cL_law 7 (some .boolean) 100 SH RHO 691 [(0, vR 3000000), (1, vR 0), (2, vR 179), (3, vR 203), (4, vI i)] [] σ (fun _ : Unit => rL b Lx xs g) (some ()) := by
  obtain ⟨r, σ1, σ2, hW, hM, hI2⟩ := hop σ hI (xs (w32 (i + 1)).toNat).toInt (ok32 _)
  refine sim_aload_n 1 rfl dL_law_691 ?_
  refine sim_aload_n 0 rfl dL_law_692 ?_
  refine sim_iload 4 rfl dL_law_693 ?_
  refine sim_iconst dL_law_695 (by decide) ?_
  refine sim_iadd dL_law_696 ?_
  refine sim_sld dL_law_697 ?_ (hidx h0 h1 hx (by decide))
  refine kn_VIm hW v_RL_77 sh_0 dL_law_698 (k_W_cat NN ((xs (w32 (i + 1)).toNat).toInt) σ) rfl ⟨by decide, by decide⟩ (as := [vI (xs (w32 (i + 1)).toNat).toInt]) (S := []) rfl (Nat.le_of_ble_eq_true rfl) ?_
  refine sim_aload_n 2 rfl dL_law_701 ?_
  refine sim_aload_n 0 rfl dL_law_702 ?_
  refine sim_iload 4 rfl dL_law_703 ?_
  refine sim_iconst dL_law_705 (by decide) ?_
  refine sim_iadd dL_law_706 ?_
  refine sim_sld dL_law_707 ?_ (hidx h0 h1 hx (by decide))
  refine kn_VIm hM v_RL_80 sh_179 dL_law_708 (k_M_cat NN ((xs (w32 (i + 1)).toNat).toInt) σ1) rfl ⟨by decide, by decide⟩ (as := [vI (xs (w32 (i + 1)).toNat).toInt]) (S := [vI r]) rfl (Nat.le_of_ble_eq_true rfl) ?_
  refine kn_icmp_eq (tgt := 1471) rfl dL_law_711 (by decide) ?_
  exact kend σ2 hI2
set_option maxRecDepth 20000 in
set_option maxHeartbeats 2000000 in
theorem law_c_13 {Inv : JSg → Prop} {b Lx g : Nat} {xs : Nat → Int32} (hx : Lx ≤ 3072) {i : Int} (h0 : 0 ≤ i) (h1 : i + 5 < (Lx : Int)) {σ : JSg} (hI : Inv σ) (hop : Op_tide Inv) (kend : ∀ s : JSg, Inv s → GSim RL cL_law 7 (some .boolean) 100 SH RHO 1471 [(0, vR 3000000), (1, vR 0), (2, vR 179), (3, vR 203), (4, vI i)] [] s (fun _ : Unit => rL b Lx xs g) (some ())) : GSim RL cL_law 7 (some .boolean) 100 SH RHO 716 [(0, vR 3000000), (1, vR 0), (2, vR 179), (3, vR 203), (4, vI i)] [] σ (fun _ : Unit => rL b Lx xs g) (some ()) := by
  obtain ⟨r, σ1, σ2, hW, hM, hI2⟩ := hop σ hI 
  refine sim_aload_n 1 rfl dL_law_716 ?_
  refine kn_VIm hW v_RL_81 sh_0 dL_law_717 (k_W_tide  σ) rfl ⟨by decide, by decide⟩ (as := []) (S := []) rfl (Nat.le_of_ble_eq_true rfl) ?_
  refine sim_aload_n 2 rfl dL_law_720 ?_
  refine kn_VIm hM v_RL_84 sh_179 dL_law_721 (k_M_tide NN σ1) rfl ⟨by decide, by decide⟩ (as := []) (S := [vI r]) rfl (Nat.le_of_ble_eq_true rfl) ?_
  refine kn_icmp_eq (tgt := 1471) rfl dL_law_724 (by decide) ?_
  exact kend σ2 hI2
set_option maxRecDepth 20000 in
set_option maxHeartbeats 2000000 in
theorem law_c_14 {Inv : JSg → Prop} {b Lx g : Nat} {xs : Nat → Int32} (hx : Lx ≤ 3072) {i : Int} (h0 : 0 ≤ i) (h1 : i + 5 < (Lx : Int)) {σ : JSg} (hI : Inv σ) (hop : Op_pawn Inv) (kend : ∀ s : JSg, Inv s → GSim RL cL_law 7 (some .boolean) 100 SH RHO 1471 [(0, vR 3000000), (1, vR 0), (2, vR 179), (3, vR 203), (4, vI i)] [] s (fun _ : Unit => rL b Lx xs g) (some ())) : GSim RL cL_law 7 (some .boolean) 100 SH RHO 729 [(0, vR 3000000), (1, vR 0), (2, vR 179), (3, vR 203), (4, vI i)] [] σ (fun _ : Unit => rL b Lx xs g) (some ()) := by
  obtain ⟨r, σ1, σ2, hW, hM, hI2⟩ := hop σ hI (xs (w32 (i + 1)).toNat).toInt (ok32 _)
  refine sim_aload_n 1 rfl dL_law_729 ?_
  refine sim_aload_n 0 rfl dL_law_730 ?_
  refine sim_iload 4 rfl dL_law_731 ?_
  refine sim_iconst dL_law_733 (by decide) ?_
  refine sim_iadd dL_law_734 ?_
  refine sim_sld dL_law_735 ?_ (hidx h0 h1 hx (by decide))
  refine kn_VIm hW v_RL_85 sh_0 dL_law_736 (k_W_pawn ((xs (w32 (i + 1)).toNat).toInt) σ) rfl ⟨by decide, by decide⟩ (as := [vI (xs (w32 (i + 1)).toNat).toInt]) (S := []) rfl (Nat.le_of_ble_eq_true rfl) ?_
  refine sim_aload_n 2 rfl dL_law_739 ?_
  refine sim_aload_n 0 rfl dL_law_740 ?_
  refine sim_iload 4 rfl dL_law_741 ?_
  refine sim_iconst dL_law_743 (by decide) ?_
  refine sim_iadd dL_law_744 ?_
  refine sim_sld dL_law_745 ?_ (hidx h0 h1 hx (by decide))
  refine kn_VIm hM v_RL_88 sh_179 dL_law_746 (k_M_pawn NN ((xs (w32 (i + 1)).toNat).toInt) σ1) rfl ⟨by decide, by decide⟩ (as := [vI (xs (w32 (i + 1)).toNat).toInt]) (S := [vI r]) rfl (Nat.le_of_ble_eq_true rfl) ?_
  refine kn_icmp_eq (tgt := 1471) rfl dL_law_749 (by decide) ?_
  exact kend σ2 hI2
set_option maxRecDepth 20000 in
set_option maxHeartbeats 2000000 in
theorem law_c_15 {Inv : JSg → Prop} {b Lx g : Nat} {xs : Nat → Int32} (hx : Lx ≤ 3072) {i : Int} (h0 : 0 ≤ i) (h1 : i + 5 < (Lx : Int)) {σ : JSg} (hI : Inv σ) (hop : Op_redeem Inv) (kend : ∀ s : JSg, Inv s → GSim RL cL_law 7 (some .boolean) 100 SH RHO 1471 [(0, vR 3000000), (1, vR 0), (2, vR 179), (3, vR 203), (4, vI i)] [] s (fun _ : Unit => rL b Lx xs g) (some ())) : GSim RL cL_law 7 (some .boolean) 100 SH RHO 754 [(0, vR 3000000), (1, vR 0), (2, vR 179), (3, vR 203), (4, vI i)] [] σ (fun _ : Unit => rL b Lx xs g) (some ()) := by
  obtain ⟨r, σ1, σ2, hW, hM, hI2⟩ := hop σ hI (xs (w32 (i + 1)).toNat).toInt (ok32 _)
  refine sim_aload_n 1 rfl dL_law_754 ?_
  refine sim_aload_n 0 rfl dL_law_755 ?_
  refine sim_iload 4 rfl dL_law_756 ?_
  refine sim_iconst dL_law_758 (by decide) ?_
  refine sim_iadd dL_law_759 ?_
  refine sim_sld dL_law_760 ?_ (hidx h0 h1 hx (by decide))
  refine kn_VIm hW v_RL_89 sh_0 dL_law_761 (k_W_redeem ((xs (w32 (i + 1)).toNat).toInt) σ) rfl ⟨by decide, by decide⟩ (as := [vI (xs (w32 (i + 1)).toNat).toInt]) (S := []) rfl (Nat.le_of_ble_eq_true rfl) ?_
  refine sim_aload_n 2 rfl dL_law_764 ?_
  refine sim_aload_n 0 rfl dL_law_765 ?_
  refine sim_iload 4 rfl dL_law_766 ?_
  refine sim_iconst dL_law_768 (by decide) ?_
  refine sim_iadd dL_law_769 ?_
  refine sim_sld dL_law_770 ?_ (hidx h0 h1 hx (by decide))
  refine kn_VIm hM v_RL_92 sh_179 dL_law_771 (k_M_redeem NN ((xs (w32 (i + 1)).toNat).toInt) σ1) rfl ⟨by decide, by decide⟩ (as := [vI (xs (w32 (i + 1)).toNat).toInt]) (S := [vI r]) rfl (Nat.le_of_ble_eq_true rfl) ?_
  refine kn_icmp_eq (tgt := 1471) rfl dL_law_774 (by decide) ?_
  exact kend σ2 hI2
set_option maxRecDepth 20000 in
set_option maxHeartbeats 2000000 in
theorem law_c_16 {Inv : JSg → Prop} {b Lx g : Nat} {xs : Nat → Int32} (hx : Lx ≤ 3072) {i : Int} (h0 : 0 ≤ i) (h1 : i + 5 < (Lx : Int)) {σ : JSg} (hI : Inv σ) (hop : Op_will Inv) (kend : ∀ s : JSg, Inv s → GSim RL cL_law 7 (some .boolean) 100 SH RHO 1471 [(0, vR 3000000), (1, vR 0), (2, vR 179), (3, vR 203), (4, vI i)] [] s (fun _ : Unit => rL b Lx xs g) (some ())) : GSim RL cL_law 7 (some .boolean) 100 SH RHO 779 [(0, vR 3000000), (1, vR 0), (2, vR 179), (3, vR 203), (4, vI i)] [] σ (fun _ : Unit => rL b Lx xs g) (some ()) := by
  obtain ⟨r, σ1, σ2, hW, hM, hI2⟩ := hop σ hI (xs (w32 (i + 1)).toNat).toInt (xs (w32 (i + 2)).toNat).toInt (ok32 _) (ok32 _)
  refine sim_aload_n 1 rfl dL_law_779 ?_
  refine sim_aload_n 0 rfl dL_law_780 ?_
  refine sim_iload 4 rfl dL_law_781 ?_
  refine sim_iconst dL_law_783 (by decide) ?_
  refine sim_iadd dL_law_784 ?_
  refine sim_sld dL_law_785 ?_ (hidx h0 h1 hx (by decide))
  refine sim_aload_n 0 rfl dL_law_786 ?_
  refine sim_iload 4 rfl dL_law_787 ?_
  refine sim_iconst dL_law_789 (by decide) ?_
  refine sim_iadd dL_law_790 ?_
  refine sim_sld dL_law_791 ?_ (hidx h0 h1 hx (by decide))
  refine kn_VIm hW v_RL_93 sh_0 dL_law_792 (k_W_will NN ((xs (w32 (i + 1)).toNat).toInt) ((xs (w32 (i + 2)).toNat).toInt) σ) rfl ⟨by decide, by decide⟩ (as := [vI (xs (w32 (i + 1)).toNat).toInt, vI (xs (w32 (i + 2)).toNat).toInt]) (S := []) rfl (Nat.le_of_ble_eq_true rfl) ?_
  refine sim_aload_n 2 rfl dL_law_795 ?_
  refine sim_aload_n 0 rfl dL_law_796 ?_
  refine sim_iload 4 rfl dL_law_797 ?_
  refine sim_iconst dL_law_799 (by decide) ?_
  refine sim_iadd dL_law_800 ?_
  refine sim_sld dL_law_801 ?_ (hidx h0 h1 hx (by decide))
  refine sim_aload_n 0 rfl dL_law_802 ?_
  refine sim_iload 4 rfl dL_law_803 ?_
  refine sim_iconst dL_law_805 (by decide) ?_
  refine sim_iadd dL_law_806 ?_
  refine sim_sld dL_law_807 ?_ (hidx h0 h1 hx (by decide))
  refine kn_VIm hM v_RL_96 sh_179 dL_law_808 (k_M_will NN ((xs (w32 (i + 1)).toNat).toInt) ((xs (w32 (i + 2)).toNat).toInt) σ1) rfl ⟨by decide, by decide⟩ (as := [vI (xs (w32 (i + 1)).toNat).toInt, vI (xs (w32 (i + 2)).toNat).toInt]) (S := [vI r]) rfl (Nat.le_of_ble_eq_true rfl) ?_
  refine kn_icmp_eq (tgt := 1471) rfl dL_law_811 (by decide) ?_
  exact kend σ2 hI2
set_option maxRecDepth 20000 in
set_option maxHeartbeats 2000000 in
theorem law_c_17 {Inv : JSg → Prop} {b Lx g : Nat} {xs : Nat → Int32} (hx : Lx ≤ 3072) {i : Int} (h0 : 0 ≤ i) (h1 : i + 5 < (Lx : Int)) {σ : JSg} (hI : Inv σ) (hop : Op_undo Inv) (kend : ∀ s : JSg, Inv s → GSim RL cL_law 7 (some .boolean) 100 SH RHO 1471 [(0, vR 3000000), (1, vR 0), (2, vR 179), (3, vR 203), (4, vI i)] [] s (fun _ : Unit => rL b Lx xs g) (some ())) : GSim RL cL_law 7 (some .boolean) 100 SH RHO 816 [(0, vR 3000000), (1, vR 0), (2, vR 179), (3, vR 203), (4, vI i)] [] σ (fun _ : Unit => rL b Lx xs g) (some ()) := by
  obtain ⟨r, σ1, σ2, hW, hM, hI2⟩ := hop σ hI 
  refine sim_aload_n 1 rfl dL_law_816 ?_
  refine kn_VIm hW v_RL_97 sh_0 dL_law_817 (k_W_undo  σ) rfl ⟨by decide, by decide⟩ (as := []) (S := []) rfl (Nat.le_of_ble_eq_true rfl) ?_
  refine sim_aload_n 2 rfl dL_law_820 ?_
  refine kn_VIm hM v_RL_100 sh_179 dL_law_821 (k_M_undo NN σ1) rfl ⟨by decide, by decide⟩ (as := []) (S := [vI r]) rfl (Nat.le_of_ble_eq_true rfl) ?_
  refine kn_icmp_eq (tgt := 1471) rfl dL_law_824 (by decide) ?_
  exact kend σ2 hI2
set_option maxRecDepth 20000 in
set_option maxHeartbeats 2000000 in
theorem law_c_18 {Inv : JSg → Prop} {b Lx g : Nat} {xs : Nat → Int32} (hx : Lx ≤ 3072) {i : Int} (h0 : 0 ≤ i) (h1 : i + 5 < (Lx : Int)) {σ : JSg} (hI : Inv σ) (hop : Op_visits Inv) (kend : ∀ s : JSg, Inv s → GSim RL cL_law 7 (some .boolean) 100 SH RHO 1471 [(0, vR 3000000), (1, vR 0), (2, vR 179), (3, vR 203), (4, vI i)] [] s (fun _ : Unit => rL b Lx xs g) (some ())) : GSim RL cL_law 7 (some .boolean) 100 SH RHO 829 [(0, vR 3000000), (1, vR 0), (2, vR 179), (3, vR 203), (4, vI i)] [] σ (fun _ : Unit => rL b Lx xs g) (some ()) := by
  obtain ⟨r, σ2, hW, hM, hI2⟩ := hop σ hI (xs (w32 (i + 1)).toNat).toInt (ok32 _)
  refine sim_aload_n 1 rfl dL_law_829 ?_
  refine sim_aload_n 0 rfl dL_law_830 ?_
  refine sim_iload 4 rfl dL_law_831 ?_
  refine sim_iconst dL_law_833 (by decide) ?_
  refine sim_iadd dL_law_834 ?_
  refine sim_sld dL_law_835 ?_ (hidx h0 h1 hx (by decide))
  refine kn_VIp hW v_RL_101 sh_0 dL_law_836 (k_W_visits NN ((xs (w32 (i + 1)).toNat).toInt) σ) rfl ⟨by decide, by decide⟩ (as := [vI (xs (w32 (i + 1)).toNat).toInt]) (S := []) rfl (Nat.le_of_ble_eq_true rfl) ?_
  refine sim_aload_n 2 rfl dL_law_839 ?_
  refine sim_aload_n 0 rfl dL_law_840 ?_
  refine sim_iload 4 rfl dL_law_841 ?_
  refine sim_iconst dL_law_843 (by decide) ?_
  refine sim_iadd dL_law_844 ?_
  refine sim_sld dL_law_845 ?_ (hidx h0 h1 hx (by decide))
  refine kn_VIm hM v_RL_104 sh_179 dL_law_846 (k_M_visits NN ((xs (w32 (i + 1)).toNat).toInt) σ) rfl ⟨by decide, by decide⟩ (as := [vI (xs (w32 (i + 1)).toNat).toInt]) (S := [vI r]) rfl (Nat.le_of_ble_eq_true rfl) ?_
  refine kn_icmp_eq (tgt := 1471) rfl dL_law_849 (by decide) ?_
  exact kend σ2 hI2
set_option maxRecDepth 20000 in
set_option maxHeartbeats 2000000 in
theorem law_c_19 {Inv : JSg → Prop} {b Lx g : Nat} {xs : Nat → Int32} (hx : Lx ≤ 3072) {i : Int} (h0 : 0 ≤ i) (h1 : i + 5 < (Lx : Int)) {σ : JSg} (hI : Inv σ) (hop : Op_able Inv) (kend : ∀ s : JSg, Inv s → GSim RL cL_law 7 (some .boolean) 100 SH RHO 1471 [(0, vR 3000000), (1, vR 0), (2, vR 179), (3, vR 203), (4, vI i)] [] s (fun _ : Unit => rL b Lx xs g) (some ())) : GSim RL cL_law 7 (some .boolean) 100 SH RHO 854 [(0, vR 3000000), (1, vR 0), (2, vR 179), (3, vR 203), (4, vI i)] [] σ (fun _ : Unit => rL b Lx xs g) (some ()) := by
  obtain ⟨r, σ2, hW, hM, hI2⟩ := hop σ hI (xs (w32 (i + 1)).toNat).toInt (ok32 _)
  refine sim_aload_n 1 rfl dL_law_854 ?_
  refine sim_aload_n 0 rfl dL_law_855 ?_
  refine sim_iload 4 rfl dL_law_856 ?_
  refine sim_iconst dL_law_858 (by decide) ?_
  refine sim_iadd dL_law_859 ?_
  refine sim_sld dL_law_860 ?_ (hidx h0 h1 hx (by decide))
  refine kn_VIp hW v_RL_105 sh_0 dL_law_861 (k_W_able NN ((xs (w32 (i + 1)).toNat).toInt) σ) rfl ⟨by decide, by decide⟩ (as := [vI (xs (w32 (i + 1)).toNat).toInt]) (S := []) rfl (Nat.le_of_ble_eq_true rfl) ?_
  refine sim_aload_n 2 rfl dL_law_864 ?_
  refine sim_aload_n 0 rfl dL_law_865 ?_
  refine sim_iload 4 rfl dL_law_866 ?_
  refine sim_iconst dL_law_868 (by decide) ?_
  refine sim_iadd dL_law_869 ?_
  refine sim_sld dL_law_870 ?_ (hidx h0 h1 hx (by decide))
  refine kn_VIm hM v_RL_108 sh_179 dL_law_871 (k_M_able NN ((xs (w32 (i + 1)).toNat).toInt) σ) rfl ⟨by decide, by decide⟩ (as := [vI (xs (w32 (i + 1)).toNat).toInt]) (S := [vI r]) rfl (Nat.le_of_ble_eq_true rfl) ?_
  refine kn_icmp_eq (tgt := 1471) rfl dL_law_874 (by decide) ?_
  exact kend σ2 hI2
set_option maxRecDepth 20000 in
set_option maxHeartbeats 2000000 in
theorem law_c_20 {Inv : JSg → Prop} {b Lx g : Nat} {xs : Nat → Int32} (hx : Lx ≤ 3072) {i : Int} (h0 : 0 ≤ i) (h1 : i + 5 < (Lx : Int)) {σ : JSg} (hI : Inv σ) (hop : Op_longest Inv) (kend : ∀ s : JSg, Inv s → GSim RL cL_law 7 (some .boolean) 100 SH RHO 1471 [(0, vR 3000000), (1, vR 0), (2, vR 179), (3, vR 203), (4, vI i)] [] s (fun _ : Unit => rL b Lx xs g) (some ())) : GSim RL cL_law 7 (some .boolean) 100 SH RHO 879 [(0, vR 3000000), (1, vR 0), (2, vR 179), (3, vR 203), (4, vI i)] [] σ (fun _ : Unit => rL b Lx xs g) (some ()) := by
  obtain ⟨r, σ1, σ2, hW, hM, hI2⟩ := hop σ hI 
  refine sim_aload_n 1 rfl dL_law_879 ?_
  refine kn_VIm hW v_RL_109 sh_0 dL_law_880 (k_W_longest NN σ) rfl ⟨by decide, by decide⟩ (as := []) (S := []) rfl (Nat.le_of_ble_eq_true rfl) ?_
  refine sim_aload_n 2 rfl dL_law_883 ?_
  refine kn_VIm hM v_RL_112 sh_179 dL_law_884 (k_M_longest NN σ1) rfl ⟨by decide, by decide⟩ (as := []) (S := [vI r]) rfl (Nat.le_of_ble_eq_true rfl) ?_
  refine kn_icmp_eq (tgt := 1471) rfl dL_law_887 (by decide) ?_
  exact kend σ2 hI2
set_option maxRecDepth 20000 in
set_option maxHeartbeats 2000000 in
theorem law_c_21 {Inv : JSg → Prop} {b Lx g : Nat} {xs : Nat → Int32} (hx : Lx ≤ 3072) {i : Int} (h0 : 0 ≤ i) (h1 : i + 5 < (Lx : Int)) {σ : JSg} (hI : Inv σ) (hop : Op_longAt Inv) (kend : ∀ s : JSg, Inv s → GSim RL cL_law 7 (some .boolean) 100 SH RHO 1471 [(0, vR 3000000), (1, vR 0), (2, vR 179), (3, vR 203), (4, vI i)] [] s (fun _ : Unit => rL b Lx xs g) (some ())) : GSim RL cL_law 7 (some .boolean) 100 SH RHO 892 [(0, vR 3000000), (1, vR 0), (2, vR 179), (3, vR 203), (4, vI i)] [] σ (fun _ : Unit => rL b Lx xs g) (some ()) := by
  obtain ⟨r, σ2, hW, hM, hI2⟩ := hop σ hI (xs (w32 (i + 1)).toNat).toInt (ok32 _)
  refine sim_aload_n 1 rfl dL_law_892 ?_
  refine sim_aload_n 0 rfl dL_law_893 ?_
  refine sim_iload 4 rfl dL_law_894 ?_
  refine sim_iconst dL_law_896 (by decide) ?_
  refine sim_iadd dL_law_897 ?_
  refine sim_sld dL_law_898 ?_ (hidx h0 h1 hx (by decide))
  refine kn_VIp hW v_RL_113 sh_0 dL_law_899 (k_W_longAt ((xs (w32 (i + 1)).toNat).toInt) σ) rfl ⟨by decide, by decide⟩ (as := [vI (xs (w32 (i + 1)).toNat).toInt]) (S := []) rfl (Nat.le_of_ble_eq_true rfl) ?_
  refine sim_aload_n 2 rfl dL_law_902 ?_
  refine sim_aload_n 0 rfl dL_law_903 ?_
  refine sim_iload 4 rfl dL_law_904 ?_
  refine sim_iconst dL_law_906 (by decide) ?_
  refine sim_iadd dL_law_907 ?_
  refine sim_sld dL_law_908 ?_ (hidx h0 h1 hx (by decide))
  refine kn_VIm hM v_RL_116 sh_179 dL_law_909 (k_M_longAt ((xs (w32 (i + 1)).toNat).toInt) σ) rfl ⟨by decide, by decide⟩ (as := [vI (xs (w32 (i + 1)).toNat).toInt]) (S := [vI r]) rfl (Nat.le_of_ble_eq_true rfl) ?_
  refine kn_icmp_eq (tgt := 1471) rfl dL_law_912 (by decide) ?_
  exact kend σ2 hI2
set_option maxRecDepth 20000 in
set_option maxHeartbeats 2000000 in
theorem law_c_22 {Inv : JSg → Prop} {b Lx g : Nat} {xs : Nat → Int32} (hx : Lx ≤ 3072) {i : Int} (h0 : 0 ≤ i) (h1 : i + 5 < (Lx : Int)) {σ : JSg} (hI : Inv σ) (hop : Op_all Inv) (kend : ∀ s : JSg, Inv s → GSim RL cL_law 7 (some .boolean) 100 SH RHO 1471 [(0, vR 3000000), (1, vR 0), (2, vR 179), (3, vR 203), (4, vI i)] [] s (fun _ : Unit => rL b Lx xs g) (some ())) : GSim RL cL_law 7 (some .boolean) 100 SH RHO 917 [(0, vR 3000000), (1, vR 0), (2, vR 179), (3, vR 203), (4, vI i)] [] σ (fun _ : Unit => rL b Lx xs g) (some ()) := by
  obtain ⟨r, σ1, σ2, hW, hM, hI2⟩ := hop σ hI 
  refine sim_aload_n 1 rfl dL_law_917 ?_
  refine kn_VIm hW v_RL_117 sh_0 dL_law_918 (k_W_all NN σ) rfl ⟨by decide, by decide⟩ (as := []) (S := []) rfl (Nat.le_of_ble_eq_true rfl) ?_
  refine sim_aload_n 2 rfl dL_law_921 ?_
  refine kn_VIm hM v_RL_120 sh_179 dL_law_922 (k_M_all NN σ1) rfl ⟨by decide, by decide⟩ (as := []) (S := [vI r]) rfl (Nat.le_of_ble_eq_true rfl) ?_
  refine kn_icmp_eq (tgt := 1471) rfl dL_law_925 (by decide) ?_
  exact kend σ2 hI2
set_option maxRecDepth 20000 in
set_option maxHeartbeats 2000000 in
theorem law_c_23 {Inv : JSg → Prop} {b Lx g : Nat} {xs : Nat → Int32} (hx : Lx ≤ 3072) {i : Int} (h0 : 0 ≤ i) (h1 : i + 5 < (Lx : Int)) {σ : JSg} (hI : Inv σ) (hop : Op_allAt Inv) (kend : ∀ s : JSg, Inv s → GSim RL cL_law 7 (some .boolean) 100 SH RHO 1471 [(0, vR 3000000), (1, vR 0), (2, vR 179), (3, vR 203), (4, vI i)] [] s (fun _ : Unit => rL b Lx xs g) (some ())) : GSim RL cL_law 7 (some .boolean) 100 SH RHO 930 [(0, vR 3000000), (1, vR 0), (2, vR 179), (3, vR 203), (4, vI i)] [] σ (fun _ : Unit => rL b Lx xs g) (some ()) := by
  obtain ⟨r, σ2, hW, hM, hI2⟩ := hop σ hI (xs (w32 (i + 1)).toNat).toInt (ok32 _)
  refine sim_aload_n 1 rfl dL_law_930 ?_
  refine sim_aload_n 0 rfl dL_law_931 ?_
  refine sim_iload 4 rfl dL_law_932 ?_
  refine sim_iconst dL_law_934 (by decide) ?_
  refine sim_iadd dL_law_935 ?_
  refine sim_sld dL_law_936 ?_ (hidx h0 h1 hx (by decide))
  refine kn_VIp hW v_RL_121 sh_0 dL_law_937 (k_W_allAt ((xs (w32 (i + 1)).toNat).toInt) σ) rfl ⟨by decide, by decide⟩ (as := [vI (xs (w32 (i + 1)).toNat).toInt]) (S := []) rfl (Nat.le_of_ble_eq_true rfl) ?_
  refine sim_aload_n 2 rfl dL_law_940 ?_
  refine sim_aload_n 0 rfl dL_law_941 ?_
  refine sim_iload 4 rfl dL_law_942 ?_
  refine sim_iconst dL_law_944 (by decide) ?_
  refine sim_iadd dL_law_945 ?_
  refine sim_sld dL_law_946 ?_ (hidx h0 h1 hx (by decide))
  refine kn_VIm hM v_RL_124 sh_179 dL_law_947 (k_M_allAt ((xs (w32 (i + 1)).toNat).toInt) σ) rfl ⟨by decide, by decide⟩ (as := [vI (xs (w32 (i + 1)).toNat).toInt]) (S := [vI r]) rfl (Nat.le_of_ble_eq_true rfl) ?_
  refine kn_icmp_eq (tgt := 1471) rfl dL_law_950 (by decide) ?_
  exact kend σ2 hI2
set_option maxRecDepth 20000 in
set_option maxHeartbeats 2000000 in
theorem law_c_24 {Inv : JSg → Prop} {b Lx g : Nat} {xs : Nat → Int32} (hx : Lx ≤ 3072) {i : Int} (h0 : 0 ≤ i) (h1 : i + 5 < (Lx : Int)) {σ : JSg} (hI : Inv σ) (hop : Op_game Inv) (kend : ∀ s : JSg, Inv s → GSim RL cL_law 7 (some .boolean) 100 SH RHO 1471 [(0, vR 3000000), (1, vR 0), (2, vR 179), (3, vR 203), (4, vI i)] [] s (fun _ : Unit => rL b Lx xs g) (some ())) : GSim RL cL_law 7 (some .boolean) 100 SH RHO 955 [(0, vR 3000000), (1, vR 0), (2, vR 179), (3, vR 203), (4, vI i)] [] σ (fun _ : Unit => rL b Lx xs g) (some ()) := by
  obtain ⟨r, σ1, σ2, hW, hM, hI2⟩ := hop σ hI (xs (w32 (i + 1)).toNat).toInt (xs (w32 (i + 2)).toNat).toInt (ok32 _) (ok32 _)
  refine sim_aload_n 1 rfl dL_law_955 ?_
  refine sim_aload_n 0 rfl dL_law_956 ?_
  refine sim_iload 4 rfl dL_law_957 ?_
  refine sim_iconst dL_law_959 (by decide) ?_
  refine sim_iadd dL_law_960 ?_
  refine sim_sld dL_law_961 ?_ (hidx h0 h1 hx (by decide))
  refine sim_aload_n 0 rfl dL_law_962 ?_
  refine sim_iload 4 rfl dL_law_963 ?_
  refine sim_iconst dL_law_965 (by decide) ?_
  refine sim_iadd dL_law_966 ?_
  refine sim_sld dL_law_967 ?_ (hidx h0 h1 hx (by decide))
  refine kn_VIm hW v_RL_125 sh_0 dL_law_968 (k_W_game NN ((xs (w32 (i + 1)).toNat).toInt) ((xs (w32 (i + 2)).toNat).toInt) σ) rfl ⟨by decide, by decide⟩ (as := [vI (xs (w32 (i + 1)).toNat).toInt, vI (xs (w32 (i + 2)).toNat).toInt]) (S := []) rfl (Nat.le_of_ble_eq_true rfl) ?_
  refine sim_aload_n 2 rfl dL_law_971 ?_
  refine sim_aload_n 0 rfl dL_law_972 ?_
  refine sim_iload 4 rfl dL_law_973 ?_
  refine sim_iconst dL_law_975 (by decide) ?_
  refine sim_iadd dL_law_976 ?_
  refine sim_sld dL_law_977 ?_ (hidx h0 h1 hx (by decide))
  refine sim_aload_n 0 rfl dL_law_978 ?_
  refine sim_iload 4 rfl dL_law_979 ?_
  refine sim_iconst dL_law_981 (by decide) ?_
  refine sim_iadd dL_law_982 ?_
  refine sim_sld dL_law_983 ?_ (hidx h0 h1 hx (by decide))
  refine kn_VIm hM v_RL_128 sh_179 dL_law_984 (k_M_game NN ((xs (w32 (i + 1)).toNat).toInt) ((xs (w32 (i + 2)).toNat).toInt) σ1) rfl ⟨by decide, by decide⟩ (as := [vI (xs (w32 (i + 1)).toNat).toInt, vI (xs (w32 (i + 2)).toNat).toInt]) (S := [vI r]) rfl (Nat.le_of_ble_eq_true rfl) ?_
  refine kn_icmp_eq (tgt := 1471) rfl dL_law_987 (by decide) ?_
  exact kend σ2 hI2
set_option maxRecDepth 20000 in
set_option maxHeartbeats 2000000 in
theorem law_c_25 {Inv : JSg → Prop} {b Lx g : Nat} {xs : Nat → Int32} (hx : Lx ≤ 3072) {i : Int} (h0 : 0 ≤ i) (h1 : i + 5 < (Lx : Int)) {σ : JSg} (hI : Inv σ) (hop : Op_first Inv) (kend : ∀ s : JSg, Inv s → GSim RL cL_law 7 (some .boolean) 100 SH RHO 1471 [(0, vR 3000000), (1, vR 0), (2, vR 179), (3, vR 203), (4, vI i)] [] s (fun _ : Unit => rL b Lx xs g) (some ())) : GSim RL cL_law 7 (some .boolean) 100 SH RHO 992 [(0, vR 3000000), (1, vR 0), (2, vR 179), (3, vR 203), (4, vI i)] [] σ (fun _ : Unit => rL b Lx xs g) (some ()) := by
  obtain ⟨r, σ2, hW, hM, hI2⟩ := hop σ hI 
  refine sim_aload_n 1 rfl dL_law_992 ?_
  refine kn_VIp hW v_RL_129 sh_0 dL_law_993 (k_W_first  σ) rfl ⟨by decide, by decide⟩ (as := []) (S := []) rfl (Nat.le_of_ble_eq_true rfl) ?_
  refine sim_aload_n 2 rfl dL_law_996 ?_
  refine kn_VIm hM v_RL_132 sh_179 dL_law_997 (k_M_first  σ) rfl ⟨by decide, by decide⟩ (as := []) (S := [vI r]) rfl (Nat.le_of_ble_eq_true rfl) ?_
  refine kn_icmp_eq (tgt := 1471) rfl dL_law_1000 (by decide) ?_
  exact kend σ2 hI2
set_option maxRecDepth 20000 in
set_option maxHeartbeats 2000000 in
theorem law_c_26 {Inv : JSg → Prop} {b Lx g : Nat} {xs : Nat → Int32} (hx : Lx ≤ 3072) {i : Int} (h0 : 0 ≤ i) (h1 : i + 5 < (Lx : Int)) {σ : JSg} (hI : Inv σ) (hop : Op_open Inv) (kend : ∀ s : JSg, Inv s → GSim RL cL_law 7 (some .boolean) 100 SH RHO 1471 [(0, vR 3000000), (1, vR 0), (2, vR 179), (3, vR 203), (4, vI i)] [] s (fun _ : Unit => rL b Lx xs g) (some ())) : GSim RL cL_law 7 (some .boolean) 100 SH RHO 1005 [(0, vR 3000000), (1, vR 0), (2, vR 179), (3, vR 203), (4, vI i)] [] σ (fun _ : Unit => rL b Lx xs g) (some ()) := by
  obtain ⟨r, σ2, hW, hM, hI2⟩ := hop σ hI (xs (w32 (i + 1)).toNat).toInt (ok32 _)
  refine sim_aload_n 1 rfl dL_law_1005 ?_
  refine sim_aload_n 0 rfl dL_law_1006 ?_
  refine sim_iload 4 rfl dL_law_1007 ?_
  refine sim_iconst dL_law_1009 (by decide) ?_
  refine sim_iadd dL_law_1010 ?_
  refine sim_sld dL_law_1011 ?_ (hidx h0 h1 hx (by decide))
  refine kn_VIp hW v_RL_133 sh_0 dL_law_1012 (k_W_open NN ((xs (w32 (i + 1)).toNat).toInt) σ) rfl ⟨by decide, by decide⟩ (as := [vI (xs (w32 (i + 1)).toNat).toInt]) (S := []) rfl (Nat.le_of_ble_eq_true rfl) ?_
  refine sim_aload_n 2 rfl dL_law_1015 ?_
  refine sim_aload_n 0 rfl dL_law_1016 ?_
  refine sim_iload 4 rfl dL_law_1017 ?_
  refine sim_iconst dL_law_1019 (by decide) ?_
  refine sim_iadd dL_law_1020 ?_
  refine sim_sld dL_law_1021 ?_ (hidx h0 h1 hx (by decide))
  refine kn_VIm hM v_RL_136 sh_179 dL_law_1022 (k_M_open NN ((xs (w32 (i + 1)).toNat).toInt) σ) rfl ⟨by decide, by decide⟩ (as := [vI (xs (w32 (i + 1)).toNat).toInt]) (S := [vI r]) rfl (Nat.le_of_ble_eq_true rfl) ?_
  refine kn_icmp_eq (tgt := 1471) rfl dL_law_1025 (by decide) ?_
  exact kend σ2 hI2
set_option maxRecDepth 20000 in
set_option maxHeartbeats 2000000 in
theorem law_c_27 {Inv : JSg → Prop} {b Lx g : Nat} {xs : Nat → Int32} (hx : Lx ≤ 3072) {i : Int} (h0 : 0 ≤ i) (h1 : i + 5 < (Lx : Int)) {σ : JSg} (hI : Inv σ) (hop : Op_stretch Inv) (kend : ∀ s : JSg, Inv s → GSim RL cL_law 7 (some .boolean) 100 SH RHO 1471 [(0, vR 3000000), (1, vR 0), (2, vR 179), (3, vR 203), (4, vI i)] [] s (fun _ : Unit => rL b Lx xs g) (some ())) : GSim RL cL_law 7 (some .boolean) 100 SH RHO 1030 [(0, vR 3000000), (1, vR 0), (2, vR 179), (3, vR 203), (4, vI i)] [] σ (fun _ : Unit => rL b Lx xs g) (some ()) := by
  obtain ⟨r, σ2, hW, hM, hI2⟩ := hop σ hI 
  refine sim_aload_n 1 rfl dL_law_1030 ?_
  refine kn_VIp hW v_RL_137 sh_0 dL_law_1031 (k_W_stretch NN σ) rfl ⟨by decide, by decide⟩ (as := []) (S := []) rfl (Nat.le_of_ble_eq_true rfl) ?_
  refine sim_aload_n 2 rfl dL_law_1034 ?_
  refine kn_VIm hM v_RL_140 sh_179 dL_law_1035 (k_M_stretch NN σ) rfl ⟨by decide, by decide⟩ (as := []) (S := [vI r]) rfl (Nat.le_of_ble_eq_true rfl) ?_
  refine kn_icmp_eq (tgt := 1471) rfl dL_law_1038 (by decide) ?_
  exact kend σ2 hI2
set_option maxRecDepth 20000 in
set_option maxHeartbeats 2000000 in
theorem law_c_28 {Inv : JSg → Prop} {b Lx g : Nat} {xs : Nat → Int32} (hx : Lx ≤ 3072) {i : Int} (h0 : 0 ≤ i) (h1 : i + 5 < (Lx : Int)) {σ : JSg} (hI : Inv σ) (hop : Op_leads Inv) (kend : ∀ s : JSg, Inv s → GSim RL cL_law 7 (some .boolean) 100 SH RHO 1471 [(0, vR 3000000), (1, vR 0), (2, vR 179), (3, vR 203), (4, vI i)] [] s (fun _ : Unit => rL b Lx xs g) (some ())) : GSim RL cL_law 7 (some .boolean) 100 SH RHO 1043 [(0, vR 3000000), (1, vR 0), (2, vR 179), (3, vR 203), (4, vI i)] [] σ (fun _ : Unit => rL b Lx xs g) (some ()) := by
  obtain ⟨r, σ1, σ2, hW, hM, hI2⟩ := hop σ hI (xs (w32 (i + 1)).toNat).toInt (xs (w32 (i + 2)).toNat).toInt (ok32 _) (ok32 _)
  refine sim_aload_n 1 rfl dL_law_1043 ?_
  refine sim_aload_n 0 rfl dL_law_1044 ?_
  refine sim_iload 4 rfl dL_law_1045 ?_
  refine sim_iconst dL_law_1047 (by decide) ?_
  refine sim_iadd dL_law_1048 ?_
  refine sim_sld dL_law_1049 ?_ (hidx h0 h1 hx (by decide))
  refine sim_aload_n 0 rfl dL_law_1050 ?_
  refine sim_iload 4 rfl dL_law_1051 ?_
  refine sim_iconst dL_law_1053 (by decide) ?_
  refine sim_iadd dL_law_1054 ?_
  refine sim_sld dL_law_1055 ?_ (hidx h0 h1 hx (by decide))
  refine kn_VIm hW v_RL_141 sh_0 dL_law_1056 (k_W_leads NN ((xs (w32 (i + 1)).toNat).toInt) ((xs (w32 (i + 2)).toNat).toInt) σ) rfl ⟨by decide, by decide⟩ (as := [vI (xs (w32 (i + 1)).toNat).toInt, vI (xs (w32 (i + 2)).toNat).toInt]) (S := []) rfl (Nat.le_of_ble_eq_true rfl) ?_
  refine sim_aload_n 2 rfl dL_law_1059 ?_
  refine sim_aload_n 0 rfl dL_law_1060 ?_
  refine sim_iload 4 rfl dL_law_1061 ?_
  refine sim_iconst dL_law_1063 (by decide) ?_
  refine sim_iadd dL_law_1064 ?_
  refine sim_sld dL_law_1065 ?_ (hidx h0 h1 hx (by decide))
  refine sim_aload_n 0 rfl dL_law_1066 ?_
  refine sim_iload 4 rfl dL_law_1067 ?_
  refine sim_iconst dL_law_1069 (by decide) ?_
  refine sim_iadd dL_law_1070 ?_
  refine sim_sld dL_law_1071 ?_ (hidx h0 h1 hx (by decide))
  refine kn_VIm hM v_RL_144 sh_179 dL_law_1072 (k_M_leads NN ((xs (w32 (i + 1)).toNat).toInt) ((xs (w32 (i + 2)).toNat).toInt) σ1) rfl ⟨by decide, by decide⟩ (as := [vI (xs (w32 (i + 1)).toNat).toInt, vI (xs (w32 (i + 2)).toNat).toInt]) (S := [vI r]) rfl (Nat.le_of_ble_eq_true rfl) ?_
  refine kn_icmp_eq (tgt := 1471) rfl dL_law_1075 (by decide) ?_
  exact kend σ2 hI2
set_option maxRecDepth 20000 in
set_option maxHeartbeats 2000000 in
theorem law_c_29 {Inv : JSg → Prop} {b Lx g : Nat} {xs : Nat → Int32} (hx : Lx ≤ 3072) {i : Int} (h0 : 0 ≤ i) (h1 : i + 5 < (Lx : Int)) {σ : JSg} (hI : Inv σ) (hop : Op_dearest Inv) (kend : ∀ s : JSg, Inv s → GSim RL cL_law 7 (some .boolean) 100 SH RHO 1471 [(0, vR 3000000), (1, vR 0), (2, vR 179), (3, vR 203), (4, vI i)] [] s (fun _ : Unit => rL b Lx xs g) (some ())) : GSim RL cL_law 7 (some .boolean) 100 SH RHO 1080 [(0, vR 3000000), (1, vR 0), (2, vR 179), (3, vR 203), (4, vI i)] [] σ (fun _ : Unit => rL b Lx xs g) (some ()) := by
  obtain ⟨r, σ2, hW, hM, hI2⟩ := hop σ hI 
  refine sim_aload_n 1 rfl dL_law_1080 ?_
  refine kn_VIp hW v_RL_145 sh_0 dL_law_1081 (k_W_dearest NN σ) rfl ⟨by decide, by decide⟩ (as := []) (S := []) rfl (Nat.le_of_ble_eq_true rfl) ?_
  refine sim_aload_n 2 rfl dL_law_1084 ?_
  refine kn_VIm hM v_RL_148 sh_179 dL_law_1085 (k_M_dearest NN σ) rfl ⟨by decide, by decide⟩ (as := []) (S := [vI r]) rfl (Nat.le_of_ble_eq_true rfl) ?_
  refine kn_icmp_eq (tgt := 1471) rfl dL_law_1088 (by decide) ?_
  exact kend σ2 hI2
set_option maxRecDepth 20000 in
set_option maxHeartbeats 2000000 in
theorem law_c_30 {Inv : JSg → Prop} {b Lx g : Nat} {xs : Nat → Int32} (hx : Lx ≤ 3072) {i : Int} (h0 : 0 ≤ i) (h1 : i + 5 < (Lx : Int)) {σ : JSg} (hI : Inv σ) (hop : Op_counts Inv) (kend : ∀ s : JSg, Inv s → GSim RL cL_law 7 (some .boolean) 100 SH RHO 1471 [(0, vR 3000000), (1, vR 0), (2, vR 179), (3, vR 203), (4, vI i)] [] s (fun _ : Unit => rL b Lx xs g) (some ())) : GSim RL cL_law 7 (some .boolean) 100 SH RHO 1093 [(0, vR 3000000), (1, vR 0), (2, vR 179), (3, vR 203), (4, vI i)] [] σ (fun _ : Unit => rL b Lx xs g) (some ()) := by
  obtain ⟨r, σ2, hW, hM, hI2⟩ := hop σ hI (xs (w32 (i + 1)).toNat).toInt (xs (w32 (i + 2)).toNat).toInt (ok32 _) (ok32 _)
  refine sim_aload_n 1 rfl dL_law_1093 ?_
  refine sim_aload_n 0 rfl dL_law_1094 ?_
  refine sim_iload 4 rfl dL_law_1095 ?_
  refine sim_iconst dL_law_1097 (by decide) ?_
  refine sim_iadd dL_law_1098 ?_
  refine sim_sld dL_law_1099 ?_ (hidx h0 h1 hx (by decide))
  refine sim_aload_n 0 rfl dL_law_1100 ?_
  refine sim_iload 4 rfl dL_law_1101 ?_
  refine sim_iconst dL_law_1103 (by decide) ?_
  refine sim_iadd dL_law_1104 ?_
  refine sim_sld dL_law_1105 ?_ (hidx h0 h1 hx (by decide))
  refine kn_VIp hW v_RL_149 sh_0 dL_law_1106 (k_W_counts NN ((xs (w32 (i + 1)).toNat).toInt) ((xs (w32 (i + 2)).toNat).toInt) σ) rfl ⟨by decide, by decide⟩ (as := [vI (xs (w32 (i + 1)).toNat).toInt, vI (xs (w32 (i + 2)).toNat).toInt]) (S := []) rfl (Nat.le_of_ble_eq_true rfl) ?_
  refine sim_aload_n 2 rfl dL_law_1109 ?_
  refine sim_aload_n 0 rfl dL_law_1110 ?_
  refine sim_iload 4 rfl dL_law_1111 ?_
  refine sim_iconst dL_law_1113 (by decide) ?_
  refine sim_iadd dL_law_1114 ?_
  refine sim_sld dL_law_1115 ?_ (hidx h0 h1 hx (by decide))
  refine sim_aload_n 0 rfl dL_law_1116 ?_
  refine sim_iload 4 rfl dL_law_1117 ?_
  refine sim_iconst dL_law_1119 (by decide) ?_
  refine sim_iadd dL_law_1120 ?_
  refine sim_sld dL_law_1121 ?_ (hidx h0 h1 hx (by decide))
  refine kn_VIm hM v_RL_152 sh_179 dL_law_1122 (k_M_counts NN ((xs (w32 (i + 1)).toNat).toInt) ((xs (w32 (i + 2)).toNat).toInt) σ) rfl ⟨by decide, by decide⟩ (as := [vI (xs (w32 (i + 1)).toNat).toInt, vI (xs (w32 (i + 2)).toNat).toInt]) (S := [vI r]) rfl (Nat.le_of_ble_eq_true rfl) ?_
  refine kn_icmp_eq (tgt := 1471) rfl dL_law_1125 (by decide) ?_
  exact kend σ2 hI2
set_option maxRecDepth 20000 in
set_option maxHeartbeats 2000000 in
theorem law_c_31 {Inv : JSg → Prop} {b Lx g : Nat} {xs : Nat → Int32} (hx : Lx ≤ 3072) {i : Int} (h0 : 0 ≤ i) (h1 : i + 5 < (Lx : Int)) {σ : JSg} (hI : Inv σ) (hop : Op_greedy Inv) (kend : ∀ s : JSg, Inv s → GSim RL cL_law 7 (some .boolean) 100 SH RHO 1471 [(0, vR 3000000), (1, vR 0), (2, vR 179), (3, vR 203), (4, vI i)] [] s (fun _ : Unit => rL b Lx xs g) (some ())) : GSim RL cL_law 7 (some .boolean) 100 SH RHO 1130 [(0, vR 3000000), (1, vR 0), (2, vR 179), (3, vR 203), (4, vI i)] [] σ (fun _ : Unit => rL b Lx xs g) (some ()) := by
  obtain ⟨r, σ1, σ2, hW, hM, hI2⟩ := hop σ hI 
  refine sim_aload_n 1 rfl dL_law_1130 ?_
  refine kn_VIm hW v_RL_153 sh_0 dL_law_1131 (k_W_greedy NN σ) rfl ⟨by decide, by decide⟩ (as := []) (S := []) rfl (Nat.le_of_ble_eq_true rfl) ?_
  refine sim_aload_n 2 rfl dL_law_1134 ?_
  refine kn_VIm hM v_RL_156 sh_179 dL_law_1135 (k_M_greedy NN σ1) rfl ⟨by decide, by decide⟩ (as := []) (S := [vI r]) rfl (Nat.le_of_ble_eq_true rfl) ?_
  refine kn_icmp_eq (tgt := 1471) rfl dL_law_1138 (by decide) ?_
  exact kend σ2 hI2
set_option maxRecDepth 20000 in
set_option maxHeartbeats 2000000 in
theorem law_c_32 {Inv : JSg → Prop} {b Lx g : Nat} {xs : Nat → Int32} (hx : Lx ≤ 3072) {i : Int} (h0 : 0 ≤ i) (h1 : i + 5 < (Lx : Int)) {σ : JSg} (hI : Inv σ) (hop : Op_memory Inv) (kend : ∀ s : JSg, Inv s → GSim RL cL_law 7 (some .boolean) 100 SH RHO 1471 [(0, vR 3000000), (1, vR 0), (2, vR 179), (3, vR 203), (4, vI i)] [] s (fun _ : Unit => rL b Lx xs g) (some ())) : GSim RL cL_law 7 (some .boolean) 100 SH RHO 1143 [(0, vR 3000000), (1, vR 0), (2, vR 179), (3, vR 203), (4, vI i)] [] σ (fun _ : Unit => rL b Lx xs g) (some ()) := by
  obtain ⟨r, σ1, σ2, hW, hM, hI2⟩ := hop σ hI 
  refine sim_aload_n 1 rfl dL_law_1143 ?_
  refine kn_VIm hW v_RL_157 sh_0 dL_law_1144 (k_W_memory NN σ) rfl ⟨by decide, by decide⟩ (as := []) (S := []) rfl (Nat.le_of_ble_eq_true rfl) ?_
  refine sim_aload_n 2 rfl dL_law_1147 ?_
  refine kn_VIm hM v_RL_160 sh_179 dL_law_1148 (k_M_memory NN σ1) rfl ⟨by decide, by decide⟩ (as := []) (S := [vI r]) rfl (Nat.le_of_ble_eq_true rfl) ?_
  refine kn_icmp_eq (tgt := 1471) rfl dL_law_1151 (by decide) ?_
  exact kend σ2 hI2
set_option maxRecDepth 20000 in
set_option maxHeartbeats 2000000 in
theorem law_c_33 {Inv : JSg → Prop} {b Lx g : Nat} {xs : Nat → Int32} (hx : Lx ≤ 3072) {i : Int} (h0 : 0 ≤ i) (h1 : i + 5 < (Lx : Int)) {σ : JSg} (hI : Inv σ) (hop : Op_dealings Inv) (kend : ∀ s : JSg, Inv s → GSim RL cL_law 7 (some .boolean) 100 SH RHO 1471 [(0, vR 3000000), (1, vR 0), (2, vR 179), (3, vR 203), (4, vI i)] [] s (fun _ : Unit => rL b Lx xs g) (some ())) : GSim RL cL_law 7 (some .boolean) 100 SH RHO 1156 [(0, vR 3000000), (1, vR 0), (2, vR 179), (3, vR 203), (4, vI i)] [] σ (fun _ : Unit => rL b Lx xs g) (some ()) := by
  obtain ⟨r, σ1, σ2, hW, hM, hI2⟩ := hop σ hI 
  refine sim_aload_n 1 rfl dL_law_1156 ?_
  refine kn_VLm hW v_RL_161 sh_0 dL_law_1157 (k_W_dealings NN σ) rfl ⟨by decide, by decide⟩ (as := []) (S := []) rfl (Nat.le_of_ble_eq_true rfl) ?_
  refine sim_aload_n 2 rfl dL_law_1160 ?_
  refine kn_VLm hM v_RL_165 sh_179 dL_law_1161 (k_M_dealings NN σ1) rfl ⟨by decide, by decide⟩ (as := []) (S := [vL r]) rfl (Nat.le_of_ble_eq_true rfl) ?_
  refine sim_lcmp dL_law_1164 ?_
  refine kn_if_eq (tgt := 1471) (cmpL_self r) dL_law_1165 (by decide) ?_
  exact kend σ2 hI2
set_option maxRecDepth 20000 in
set_option maxHeartbeats 2000000 in
theorem law_c_34 {Inv : JSg → Prop} {b Lx g : Nat} {xs : Nat → Int32} (hx : Lx ≤ 3072) {i : Int} (h0 : 0 ≤ i) (h1 : i + 5 < (Lx : Int)) {σ : JSg} (hI : Inv σ) (hop : Op_whose Inv) (kend : ∀ s : JSg, Inv s → GSim RL cL_law 7 (some .boolean) 100 SH RHO 1471 [(0, vR 3000000), (1, vR 0), (2, vR 179), (3, vR 203), (4, vI i)] [] s (fun _ : Unit => rL b Lx xs g) (some ())) : GSim RL cL_law 7 (some .boolean) 100 SH RHO 1170 [(0, vR 3000000), (1, vR 0), (2, vR 179), (3, vR 203), (4, vI i)] [] σ (fun _ : Unit => rL b Lx xs g) (some ()) := by
  obtain ⟨r, σ1, σ2, hW, hM, hI2⟩ := hop σ hI (xs (w32 (i + 1)).toNat).toInt (xs (w32 (i + 2)).toNat).toInt (ok32 _) (ok32 _)
  refine sim_aload_n 1 rfl dL_law_1170 ?_
  refine sim_aload_n 0 rfl dL_law_1171 ?_
  refine sim_iload 4 rfl dL_law_1172 ?_
  refine sim_iconst dL_law_1174 (by decide) ?_
  refine sim_iadd dL_law_1175 ?_
  refine sim_sld dL_law_1176 ?_ (hidx h0 h1 hx (by decide))
  refine sim_aload_n 0 rfl dL_law_1177 ?_
  refine sim_iload 4 rfl dL_law_1178 ?_
  refine sim_iconst dL_law_1180 (by decide) ?_
  refine sim_iadd dL_law_1181 ?_
  refine sim_sld dL_law_1182 ?_ (hidx h0 h1 hx (by decide))
  refine kn_VLm hW v_RL_166 sh_0 dL_law_1183 (k_W_whose NN ((xs (w32 (i + 1)).toNat).toInt) ((xs (w32 (i + 2)).toNat).toInt) σ) rfl ⟨by decide, by decide⟩ (as := [vI (xs (w32 (i + 1)).toNat).toInt, vI (xs (w32 (i + 2)).toNat).toInt]) (S := []) rfl (Nat.le_of_ble_eq_true rfl) ?_
  refine sim_aload_n 2 rfl dL_law_1186 ?_
  refine sim_aload_n 0 rfl dL_law_1187 ?_
  refine sim_iload 4 rfl dL_law_1188 ?_
  refine sim_iconst dL_law_1190 (by decide) ?_
  refine sim_iadd dL_law_1191 ?_
  refine sim_sld dL_law_1192 ?_ (hidx h0 h1 hx (by decide))
  refine sim_aload_n 0 rfl dL_law_1193 ?_
  refine sim_iload 4 rfl dL_law_1194 ?_
  refine sim_iconst dL_law_1196 (by decide) ?_
  refine sim_iadd dL_law_1197 ?_
  refine sim_sld dL_law_1198 ?_ (hidx h0 h1 hx (by decide))
  refine kn_VLm hM v_RL_170 sh_179 dL_law_1199 (k_M_whose NN ((xs (w32 (i + 1)).toNat).toInt) ((xs (w32 (i + 2)).toNat).toInt) σ1) rfl ⟨by decide, by decide⟩ (as := [vI (xs (w32 (i + 1)).toNat).toInt, vI (xs (w32 (i + 2)).toNat).toInt]) (S := [vL r]) rfl (Nat.le_of_ble_eq_true rfl) ?_
  refine sim_lcmp dL_law_1202 ?_
  refine kn_if_eq (tgt := 1471) (cmpL_self r) dL_law_1203 (by decide) ?_
  exact kend σ2 hI2
set_option maxRecDepth 20000 in
set_option maxHeartbeats 2000000 in
theorem law_c_35 {Inv : JSg → Prop} {b Lx g : Nat} {xs : Nat → Int32} (hx : Lx ≤ 3072) {i : Int} (h0 : 0 ≤ i) (h1 : i + 5 < (Lx : Int)) {σ : JSg} (hI : Inv σ) (hop : Op_sure Inv) (kend : ∀ s : JSg, Inv s → GSim RL cL_law 7 (some .boolean) 100 SH RHO 1471 [(0, vR 3000000), (1, vR 0), (2, vR 179), (3, vR 203), (4, vI i)] [] s (fun _ : Unit => rL b Lx xs g) (some ())) : GSim RL cL_law 7 (some .boolean) 100 SH RHO 1208 [(0, vR 3000000), (1, vR 0), (2, vR 179), (3, vR 203), (4, vI i)] [] σ (fun _ : Unit => rL b Lx xs g) (some ()) := by
  obtain ⟨r, σ1, σ2, hW, hM, hI2⟩ := hop σ hI (xs (w32 (i + 1)).toNat).toInt (ok32 _)
  refine sim_aload_n 1 rfl dL_law_1208 ?_
  refine sim_aload_n 0 rfl dL_law_1209 ?_
  refine sim_iload 4 rfl dL_law_1210 ?_
  refine sim_iconst dL_law_1212 (by decide) ?_
  refine sim_iadd dL_law_1213 ?_
  refine sim_sld dL_law_1214 ?_ (hidx h0 h1 hx (by decide))
  refine kn_VIm hW v_RL_171 sh_0 dL_law_1215 (k_W_sure NN ((xs (w32 (i + 1)).toNat).toInt) σ) rfl ⟨by decide, by decide⟩ (as := [vI (xs (w32 (i + 1)).toNat).toInt]) (S := []) rfl (Nat.le_of_ble_eq_true rfl) ?_
  refine sim_aload_n 2 rfl dL_law_1218 ?_
  refine sim_aload_n 0 rfl dL_law_1219 ?_
  refine sim_iload 4 rfl dL_law_1220 ?_
  refine sim_iconst dL_law_1222 (by decide) ?_
  refine sim_iadd dL_law_1223 ?_
  refine sim_sld dL_law_1224 ?_ (hidx h0 h1 hx (by decide))
  refine kn_VIm hM v_RL_174 sh_179 dL_law_1225 (k_M_sure NN ((xs (w32 (i + 1)).toNat).toInt) σ1) rfl ⟨by decide, by decide⟩ (as := [vI (xs (w32 (i + 1)).toNat).toInt]) (S := [vI r]) rfl (Nat.le_of_ble_eq_true rfl) ?_
  refine kn_icmp_eq (tgt := 1471) rfl dL_law_1228 (by decide) ?_
  exact kend σ2 hI2
set_option maxRecDepth 20000 in
set_option maxHeartbeats 2000000 in
theorem law_c_36 {Inv : JSg → Prop} {b Lx g : Nat} {xs : Nat → Int32} (hx : Lx ≤ 3072) {i : Int} (h0 : 0 ≤ i) (h1 : i + 5 < (Lx : Int)) {σ : JSg} (hI : Inv σ) (hop : Op_days Inv) (kend : ∀ s : JSg, Inv s → GSim RL cL_law 7 (some .boolean) 100 SH RHO 1471 [(0, vR 3000000), (1, vR 0), (2, vR 179), (3, vR 203), (4, vI i)] [] s (fun _ : Unit => rL b Lx xs g) (some ())) : GSim RL cL_law 7 (some .boolean) 100 SH RHO 1233 [(0, vR 3000000), (1, vR 0), (2, vR 179), (3, vR 203), (4, vI i)] [] σ (fun _ : Unit => rL b Lx xs g) (some ()) := by
  obtain ⟨r, σ1, σ2, hW, hM, hI2⟩ := hop σ hI (xs (w32 (i + 1)).toNat).toInt (xs (w32 (i + 2)).toNat).toInt (ok32 _) (ok32 _)
  refine sim_aload_n 1 rfl dL_law_1233 ?_
  refine sim_aload_n 0 rfl dL_law_1234 ?_
  refine sim_iload 4 rfl dL_law_1235 ?_
  refine sim_iconst dL_law_1237 (by decide) ?_
  refine sim_iadd dL_law_1238 ?_
  refine sim_sld dL_law_1239 ?_ (hidx h0 h1 hx (by decide))
  refine sim_aload_n 0 rfl dL_law_1240 ?_
  refine sim_iload 4 rfl dL_law_1241 ?_
  refine sim_iconst dL_law_1243 (by decide) ?_
  refine sim_iadd dL_law_1244 ?_
  refine sim_sld dL_law_1245 ?_ (hidx h0 h1 hx (by decide))
  refine kn_VIm hW v_RL_175 sh_0 dL_law_1246 (k_W_days NN ((xs (w32 (i + 1)).toNat).toInt) ((xs (w32 (i + 2)).toNat).toInt) σ) rfl ⟨by decide, by decide⟩ (as := [vI (xs (w32 (i + 1)).toNat).toInt, vI (xs (w32 (i + 2)).toNat).toInt]) (S := []) rfl (Nat.le_of_ble_eq_true rfl) ?_
  refine sim_aload_n 2 rfl dL_law_1249 ?_
  refine sim_aload_n 0 rfl dL_law_1250 ?_
  refine sim_iload 4 rfl dL_law_1251 ?_
  refine sim_iconst dL_law_1253 (by decide) ?_
  refine sim_iadd dL_law_1254 ?_
  refine sim_sld dL_law_1255 ?_ (hidx h0 h1 hx (by decide))
  refine sim_aload_n 0 rfl dL_law_1256 ?_
  refine sim_iload 4 rfl dL_law_1257 ?_
  refine sim_iconst dL_law_1259 (by decide) ?_
  refine sim_iadd dL_law_1260 ?_
  refine sim_sld dL_law_1261 ?_ (hidx h0 h1 hx (by decide))
  refine kn_VIm hM v_RL_178 sh_179 dL_law_1262 (k_M_days NN ((xs (w32 (i + 1)).toNat).toInt) ((xs (w32 (i + 2)).toNat).toInt) σ1) rfl ⟨by decide, by decide⟩ (as := [vI (xs (w32 (i + 1)).toNat).toInt, vI (xs (w32 (i + 2)).toNat).toInt]) (S := [vI r]) rfl (Nat.le_of_ble_eq_true rfl) ?_
  refine kn_icmp_eq (tgt := 1471) rfl dL_law_1265 (by decide) ?_
  exact kend σ2 hI2
set_option maxRecDepth 20000 in
set_option maxHeartbeats 2000000 in
theorem law_c_37 {Inv : JSg → Prop} {b Lx g : Nat} {xs : Nat → Int32} (hx : Lx ≤ 3072) {i : Int} (h0 : 0 ≤ i) (h1 : i + 5 < (Lx : Int)) {σ : JSg} (hI : Inv σ) (hop : Op_drawn Inv) (kend : ∀ s : JSg, Inv s → GSim RL cL_law 7 (some .boolean) 100 SH RHO 1471 [(0, vR 3000000), (1, vR 0), (2, vR 179), (3, vR 203), (4, vI i)] [] s (fun _ : Unit => rL b Lx xs g) (some ())) : GSim RL cL_law 7 (some .boolean) 100 SH RHO 1270 [(0, vR 3000000), (1, vR 0), (2, vR 179), (3, vR 203), (4, vI i)] [] σ (fun _ : Unit => rL b Lx xs g) (some ()) := by
  obtain ⟨r, σ2, hW, hM, hI2⟩ := hop σ hI (xs (w32 (i + 1)).toNat).toInt (ok32 _)
  refine sim_aload_n 1 rfl dL_law_1270 ?_
  refine sim_aload_n 0 rfl dL_law_1271 ?_
  refine sim_iload 4 rfl dL_law_1272 ?_
  refine sim_iconst dL_law_1274 (by decide) ?_
  refine sim_iadd dL_law_1275 ?_
  refine sim_sld dL_law_1276 ?_ (hidx h0 h1 hx (by decide))
  refine kn_VIp hW v_RL_179 sh_0 dL_law_1277 (k_W_drawn ((xs (w32 (i + 1)).toNat).toInt) σ) rfl ⟨by decide, by decide⟩ (as := [vI (xs (w32 (i + 1)).toNat).toInt]) (S := []) rfl (Nat.le_of_ble_eq_true rfl) ?_
  refine sim_aload_n 2 rfl dL_law_1280 ?_
  refine sim_aload_n 0 rfl dL_law_1281 ?_
  refine sim_iload 4 rfl dL_law_1282 ?_
  refine sim_iconst dL_law_1284 (by decide) ?_
  refine sim_iadd dL_law_1285 ?_
  refine sim_sld dL_law_1286 ?_ (hidx h0 h1 hx (by decide))
  refine kn_VIm hM v_RL_182 sh_179 dL_law_1287 (k_M_drawn ((xs (w32 (i + 1)).toNat).toInt) σ) rfl ⟨by decide, by decide⟩ (as := [vI (xs (w32 (i + 1)).toNat).toInt]) (S := [vI r]) rfl (Nat.le_of_ble_eq_true rfl) ?_
  refine kn_icmp_eq (tgt := 1471) rfl dL_law_1290 (by decide) ?_
  exact kend σ2 hI2
set_option maxRecDepth 20000 in
set_option maxHeartbeats 2000000 in
theorem law_c_38 {Inv : JSg → Prop} {b Lx g : Nat} {xs : Nat → Int32} (hx : Lx ≤ 3072) {i : Int} (h0 : 0 ≤ i) (h1 : i + 5 < (Lx : Int)) {σ : JSg} (hI : Inv σ) (hop : Op_write Inv) (kend : ∀ s : JSg, Inv s → GSim RL cL_law 7 (some .boolean) 100 SH RHO 1471 [(0, vR 3000000), (1, vR 0), (2, vR 179), (3, vR 203), (4, vI i)] [] s (fun _ : Unit => rL b Lx xs g) (some ())) : GSim RL cL_law 7 (some .boolean) 100 SH RHO 1295 [(0, vR 3000000), (1, vR 0), (2, vR 179), (3, vR 203), (4, vI i)] [] σ (fun _ : Unit => rL b Lx xs g) (some ()) := by
  obtain ⟨r, σ1, σ2, hW, hM, hI2⟩ := hop σ hI 
  refine sim_aload_n 1 rfl dL_law_1295 ?_
  refine kn_VIm hW v_RL_183 sh_0 dL_law_1296 (k_W_write NN σ) rfl ⟨by decide, by decide⟩ (as := []) (S := []) rfl (Nat.le_of_ble_eq_true rfl) ?_
  refine sim_aload_n 2 rfl dL_law_1299 ?_
  refine kn_VIm hM v_RL_186 sh_179 dL_law_1300 (k_M_write NN σ1) rfl ⟨by decide, by decide⟩ (as := []) (S := [vI r]) rfl (Nat.le_of_ble_eq_true rfl) ?_
  refine kn_icmp_eq (tgt := 1471) rfl dL_law_1303 (by decide) ?_
  exact kend σ2 hI2
set_option maxRecDepth 20000 in
set_option maxHeartbeats 2000000 in
theorem law_c_39 {Inv : JSg → Prop} {b Lx g : Nat} {xs : Nat → Int32} (hx : Lx ≤ 3072) {i : Int} (h0 : 0 ≤ i) (h1 : i + 5 < (Lx : Int)) {σ : JSg} (hI : Inv σ) (hop : Op_byteAt Inv) (kend : ∀ s : JSg, Inv s → GSim RL cL_law 7 (some .boolean) 100 SH RHO 1471 [(0, vR 3000000), (1, vR 0), (2, vR 179), (3, vR 203), (4, vI i)] [] s (fun _ : Unit => rL b Lx xs g) (some ())) : GSim RL cL_law 7 (some .boolean) 100 SH RHO 1308 [(0, vR 3000000), (1, vR 0), (2, vR 179), (3, vR 203), (4, vI i)] [] σ (fun _ : Unit => rL b Lx xs g) (some ()) := by
  obtain ⟨r, σ2, hW, hM, hI2⟩ := hop σ hI (xs (w32 (i + 1)).toNat).toInt (ok32 _)
  refine sim_aload_n 1 rfl dL_law_1308 ?_
  refine sim_aload_n 0 rfl dL_law_1309 ?_
  refine sim_iload 4 rfl dL_law_1310 ?_
  refine sim_iconst dL_law_1312 (by decide) ?_
  refine sim_iadd dL_law_1313 ?_
  refine sim_sld dL_law_1314 ?_ (hidx h0 h1 hx (by decide))
  refine kn_VIp hW v_RL_187 sh_0 dL_law_1315 (k_W_byteAt ((xs (w32 (i + 1)).toNat).toInt) σ) rfl ⟨by decide, by decide⟩ (as := [vI (xs (w32 (i + 1)).toNat).toInt]) (S := []) rfl (Nat.le_of_ble_eq_true rfl) ?_
  refine sim_aload_n 2 rfl dL_law_1318 ?_
  refine sim_aload_n 0 rfl dL_law_1319 ?_
  refine sim_iload 4 rfl dL_law_1320 ?_
  refine sim_iconst dL_law_1322 (by decide) ?_
  refine sim_iadd dL_law_1323 ?_
  refine sim_sld dL_law_1324 ?_ (hidx h0 h1 hx (by decide))
  refine kn_VIm hM v_RL_190 sh_179 dL_law_1325 (k_M_byteAt ((xs (w32 (i + 1)).toNat).toInt) σ) rfl ⟨by decide, by decide⟩ (as := [vI (xs (w32 (i + 1)).toNat).toInt]) (S := [vI r]) rfl (Nat.le_of_ble_eq_true rfl) ?_
  refine kn_icmp_eq (tgt := 1471) rfl dL_law_1328 (by decide) ?_
  exact kend σ2 hI2
set_option maxRecDepth 20000 in
set_option maxHeartbeats 2000000 in
theorem law_c_40 {Inv : JSg → Prop} {b Lx g : Nat} {xs : Nat → Int32} (hx : Lx ≤ 3072) {i : Int} (h0 : 0 ≤ i) (h1 : i + 5 < (Lx : Int)) {σ : JSg} (hI : Inv σ) (hop : Op_gaps Inv) (kend : ∀ s : JSg, Inv s → GSim RL cL_law 7 (some .boolean) 100 SH RHO 1471 [(0, vR 3000000), (1, vR 0), (2, vR 179), (3, vR 203), (4, vI i)] [] s (fun _ : Unit => rL b Lx xs g) (some ())) : GSim RL cL_law 7 (some .boolean) 100 SH RHO 1333 [(0, vR 3000000), (1, vR 0), (2, vR 179), (3, vR 203), (4, vI i)] [] σ (fun _ : Unit => rL b Lx xs g) (some ()) := by
  obtain ⟨r, σ2, hW, hM, hI2⟩ := hop σ hI (xs (w32 (i + 1)).toNat).toInt (ok32 _)
  refine sim_aload_n 1 rfl dL_law_1333 ?_
  refine sim_aload_n 0 rfl dL_law_1334 ?_
  refine sim_iload 4 rfl dL_law_1335 ?_
  refine sim_iconst dL_law_1337 (by decide) ?_
  refine sim_iadd dL_law_1338 ?_
  refine sim_sld dL_law_1339 ?_ (hidx h0 h1 hx (by decide))
  refine kn_VIp hW v_RL_191 sh_0 dL_law_1340 (k_W_gaps NN ((xs (w32 (i + 1)).toNat).toInt) σ) rfl ⟨by decide, by decide⟩ (as := [vI (xs (w32 (i + 1)).toNat).toInt]) (S := []) rfl (Nat.le_of_ble_eq_true rfl) ?_
  refine sim_aload_n 2 rfl dL_law_1343 ?_
  refine sim_aload_n 0 rfl dL_law_1344 ?_
  refine sim_iload 4 rfl dL_law_1345 ?_
  refine sim_iconst dL_law_1347 (by decide) ?_
  refine sim_iadd dL_law_1348 ?_
  refine sim_sld dL_law_1349 ?_ (hidx h0 h1 hx (by decide))
  refine kn_VIm hM v_RL_194 sh_179 dL_law_1350 (k_M_gaps NN ((xs (w32 (i + 1)).toNat).toInt) σ) rfl ⟨by decide, by decide⟩ (as := [vI (xs (w32 (i + 1)).toNat).toInt]) (S := [vI r]) rfl (Nat.le_of_ble_eq_true rfl) ?_
  refine kn_icmp_eq (tgt := 1471) rfl dL_law_1353 (by decide) ?_
  exact kend σ2 hI2
set_option maxRecDepth 20000 in
set_option maxHeartbeats 2000000 in
theorem law_c_41 {Inv : JSg → Prop} {b Lx g : Nat} {xs : Nat → Int32} (hx : Lx ≤ 3072) {i : Int} (h0 : 0 ≤ i) (h1 : i + 5 < (Lx : Int)) {σ : JSg} (hI : Inv σ) (hop : Op_sentence Inv) (kend : ∀ s : JSg, Inv s → GSim RL cL_law 7 (some .boolean) 100 SH RHO 1471 [(0, vR 3000000), (1, vR 0), (2, vR 179), (3, vR 203), (4, vI i)] [] s (fun _ : Unit => rL b Lx xs g) (some ())) : GSim RL cL_law 7 (some .boolean) 100 SH RHO 1358 [(0, vR 3000000), (1, vR 0), (2, vR 179), (3, vR 203), (4, vI i)] [] σ (fun _ : Unit => rL b Lx xs g) (some ()) := by
  obtain ⟨r, σ1, σ2, hW, hM, hI2⟩ := hop σ hI 
  refine sim_aload_n 1 rfl dL_law_1358 ?_
  refine kn_VIm hW v_RL_195 sh_0 dL_law_1359 (k_W_sentence NN σ) rfl ⟨by decide, by decide⟩ (as := []) (S := []) rfl (Nat.le_of_ble_eq_true rfl) ?_
  refine sim_aload_n 2 rfl dL_law_1362 ?_
  refine kn_VIm hM v_RL_198 sh_179 dL_law_1363 (k_M_sentence NN σ1) rfl ⟨by decide, by decide⟩ (as := []) (S := [vI r]) rfl (Nat.le_of_ble_eq_true rfl) ?_
  refine kn_icmp_eq (tgt := 1471) rfl dL_law_1366 (by decide) ?_
  exact kend σ2 hI2
set_option maxRecDepth 20000 in
set_option maxHeartbeats 2000000 in
theorem law_c_42 {Inv : JSg → Prop} {b Lx g : Nat} {xs : Nat → Int32} (hx : Lx ≤ 3072) {i : Int} (h0 : 0 ≤ i) (h1 : i + 5 < (Lx : Int)) {σ : JSg} (hI : Inv σ) (hop : Op_said Inv) (kend : ∀ s : JSg, Inv s → GSim RL cL_law 7 (some .boolean) 100 SH RHO 1471 [(0, vR 3000000), (1, vR 0), (2, vR 179), (3, vR 203), (4, vI i)] [] s (fun _ : Unit => rL b Lx xs g) (some ())) : GSim RL cL_law 7 (some .boolean) 100 SH RHO 1371 [(0, vR 3000000), (1, vR 0), (2, vR 179), (3, vR 203), (4, vI i)] [] σ (fun _ : Unit => rL b Lx xs g) (some ()) := by
  obtain ⟨r, σ1, σ2, hW, hM, hI2⟩ := hop σ hI (xs (w32 (i + 1)).toNat).toInt (ok32 _)
  refine sim_aload_n 1 rfl dL_law_1371 ?_
  refine sim_aload_n 0 rfl dL_law_1372 ?_
  refine sim_iload 4 rfl dL_law_1373 ?_
  refine sim_iconst dL_law_1375 (by decide) ?_
  refine sim_iadd dL_law_1376 ?_
  refine sim_sld dL_law_1377 ?_ (hidx h0 h1 hx (by decide))
  refine kn_VIm hW v_RL_199 sh_0 dL_law_1378 (k_W_said NN ((xs (w32 (i + 1)).toNat).toInt) σ) rfl ⟨by decide, by decide⟩ (as := [vI (xs (w32 (i + 1)).toNat).toInt]) (S := []) rfl (Nat.le_of_ble_eq_true rfl) ?_
  refine sim_aload_n 2 rfl dL_law_1381 ?_
  refine sim_aload_n 0 rfl dL_law_1382 ?_
  refine sim_iload 4 rfl dL_law_1383 ?_
  refine sim_iconst dL_law_1385 (by decide) ?_
  refine sim_iadd dL_law_1386 ?_
  refine sim_sld dL_law_1387 ?_ (hidx h0 h1 hx (by decide))
  refine kn_VIm hM v_RL_202 sh_179 dL_law_1388 (k_M_said NN ((xs (w32 (i + 1)).toNat).toInt) σ1) rfl ⟨by decide, by decide⟩ (as := [vI (xs (w32 (i + 1)).toNat).toInt]) (S := [vI r]) rfl (Nat.le_of_ble_eq_true rfl) ?_
  refine kn_icmp_eq (tgt := 1471) rfl dL_law_1391 (by decide) ?_
  exact kend σ2 hI2
set_option maxRecDepth 20000 in
set_option maxHeartbeats 2000000 in
theorem law_c_43 {Inv : JSg → Prop} {b Lx g : Nat} {xs : Nat → Int32} (hx : Lx ≤ 3072) {i : Int} (h0 : 0 ≤ i) (h1 : i + 5 < (Lx : Int)) {σ : JSg} (hI : Inv σ) (hop : Op_image Inv) (kend : ∀ s : JSg, Inv s → GSim RL cL_law 7 (some .boolean) 100 SH RHO 1471 [(0, vR 3000000), (1, vR 0), (2, vR 179), (3, vR 203), (4, vI i)] [] s (fun _ : Unit => rL b Lx xs g) (some ())) : GSim RL cL_law 7 (some .boolean) 100 SH RHO 1396 [(0, vR 3000000), (1, vR 0), (2, vR 179), (3, vR 203), (4, vI i)] [] σ (fun _ : Unit => rL b Lx xs g) (some ()) := by
  obtain ⟨r, σ1, σ2, hW, hM, hI2⟩ := hop σ hI (xs (w32 (i + 1)).toNat).toInt (ok32 _)
  refine sim_aload_n 1 rfl dL_law_1396 ?_
  refine sim_aload_n 0 rfl dL_law_1397 ?_
  refine sim_iload 4 rfl dL_law_1398 ?_
  refine sim_iconst dL_law_1400 (by decide) ?_
  refine sim_iadd dL_law_1401 ?_
  refine sim_sld dL_law_1402 ?_ (hidx h0 h1 hx (by decide))
  refine kn_VIm hW v_RL_203 sh_0 dL_law_1403 (k_W_image ((xs (w32 (i + 1)).toNat).toInt) σ) rfl ⟨by decide, by decide⟩ (as := [vI (xs (w32 (i + 1)).toNat).toInt]) (S := []) rfl (Nat.le_of_ble_eq_true rfl) ?_
  refine sim_aload_n 2 rfl dL_law_1406 ?_
  refine sim_aload_n 0 rfl dL_law_1407 ?_
  refine sim_iload 4 rfl dL_law_1408 ?_
  refine sim_iconst dL_law_1410 (by decide) ?_
  refine sim_iadd dL_law_1411 ?_
  refine sim_sld dL_law_1412 ?_ (hidx h0 h1 hx (by decide))
  refine kn_VIm hM v_RL_206 sh_179 dL_law_1413 (k_M_image NN ((xs (w32 (i + 1)).toNat).toInt) σ1) rfl ⟨by decide, by decide⟩ (as := [vI (xs (w32 (i + 1)).toNat).toInt]) (S := [vI r]) rfl (Nat.le_of_ble_eq_true rfl) ?_
  refine kn_icmp_eq (tgt := 1471) rfl dL_law_1416 (by decide) ?_
  exact kend σ2 hI2
set_option maxRecDepth 20000 in
set_option maxHeartbeats 2000000 in
theorem law_c_44 {Inv : JSg → Prop} {b Lx g : Nat} {xs : Nat → Int32} (hx : Lx ≤ 3072) {i : Int} (h0 : 0 ≤ i) (h1 : i + 5 < (Lx : Int)) {σ : JSg} (hI : Inv σ) (hop : Op_restore Inv) (kend : ∀ s : JSg, Inv s → GSim RL cL_law 7 (some .boolean) 100 SH RHO 1471 [(0, vR 3000000), (1, vR 0), (2, vR 179), (3, vR 203), (4, vI i)] [] s (fun _ : Unit => rL b Lx xs g) (some ())) : GSim RL cL_law 7 (some .boolean) 100 SH RHO 1421 [(0, vR 3000000), (1, vR 0), (2, vR 179), (3, vR 203), (4, vI i)] [] σ (fun _ : Unit => rL b Lx xs g) (some ()) := by
  obtain ⟨r, σ1, σ2, hW, hM, hI2⟩ := hop σ hI (xs (w32 (i + 1)).toNat).toInt (ok32 _)
  refine sim_aload_n 1 rfl dL_law_1421 ?_
  refine sim_aload_n 0 rfl dL_law_1422 ?_
  refine sim_iload 4 rfl dL_law_1423 ?_
  refine sim_iconst dL_law_1425 (by decide) ?_
  refine sim_iadd dL_law_1426 ?_
  refine sim_sld dL_law_1427 ?_ (hidx h0 h1 hx (by decide))
  refine kn_VIm hW v_RL_207 sh_0 dL_law_1428 (k_W_restore ((xs (w32 (i + 1)).toNat).toInt) σ) rfl ⟨by decide, by decide⟩ (as := [vI (xs (w32 (i + 1)).toNat).toInt]) (S := []) rfl (Nat.le_of_ble_eq_true rfl) ?_
  refine sim_aload_n 2 rfl dL_law_1431 ?_
  refine sim_aload_n 0 rfl dL_law_1432 ?_
  refine sim_iload 4 rfl dL_law_1433 ?_
  refine sim_iconst dL_law_1435 (by decide) ?_
  refine sim_iadd dL_law_1436 ?_
  refine sim_sld dL_law_1437 ?_ (hidx h0 h1 hx (by decide))
  refine kn_VIm hM v_RL_210 sh_179 dL_law_1438 (k_M_restore NN ((xs (w32 (i + 1)).toNat).toInt) σ1) rfl ⟨by decide, by decide⟩ (as := [vI (xs (w32 (i + 1)).toNat).toInt]) (S := [vI r]) rfl (Nat.le_of_ble_eq_true rfl) ?_
  refine kn_icmp_eq (tgt := 1471) rfl dL_law_1441 (by decide) ?_
  exact kend σ2 hI2
set_option maxRecDepth 20000 in
set_option maxHeartbeats 2000000 in
theorem law_c_45 {Inv : JSg → Prop} {b Lx g : Nat} {xs : Nat → Int32} (hx : Lx ≤ 3072) {i : Int} (h0 : 0 ≤ i) (h1 : i + 5 < (Lx : Int)) {σ : JSg} (hI : Inv σ) (hop : Op_count Inv) (kend : ∀ s : JSg, Inv s → GSim RL cL_law 7 (some .boolean) 100 SH RHO 1471 [(0, vR 3000000), (1, vR 0), (2, vR 179), (3, vR 203), (4, vI i)] [] s (fun _ : Unit => rL b Lx xs g) (some ())) : GSim RL cL_law 7 (some .boolean) 100 SH RHO 1446 [(0, vR 3000000), (1, vR 0), (2, vR 179), (3, vR 203), (4, vI i)] [] σ (fun _ : Unit => rL b Lx xs g) (some ()) := by
  obtain ⟨r, σ2, hW, hM, hI2⟩ := hop σ hI (xs (w32 (i + 1)).toNat).toInt (ok32 _)
  refine sim_aload_n 1 rfl dL_law_1446 ?_
  refine sim_aload_n 0 rfl dL_law_1447 ?_
  refine sim_iload 4 rfl dL_law_1448 ?_
  refine sim_iconst dL_law_1450 (by decide) ?_
  refine sim_iadd dL_law_1451 ?_
  refine sim_sld dL_law_1452 ?_ (hidx h0 h1 hx (by decide))
  refine kn_VIp hW v_RL_211 sh_0 dL_law_1453 (k_W_count ((xs (w32 (i + 1)).toNat).toInt) σ) rfl ⟨by decide, by decide⟩ (as := [vI (xs (w32 (i + 1)).toNat).toInt]) (S := []) rfl (Nat.le_of_ble_eq_true rfl) ?_
  refine sim_aload_n 2 rfl dL_law_1456 ?_
  refine sim_aload_n 0 rfl dL_law_1457 ?_
  refine sim_iload 4 rfl dL_law_1458 ?_
  refine sim_iconst dL_law_1460 (by decide) ?_
  refine sim_iadd dL_law_1461 ?_
  refine sim_sld dL_law_1462 ?_ (hidx h0 h1 hx (by decide))
  refine kn_VIm hM v_RL_214 sh_179 dL_law_1463 (k_M_count NN ((xs (w32 (i + 1)).toNat).toInt) σ) rfl ⟨by decide, by decide⟩ (as := [vI (xs (w32 (i + 1)).toNat).toInt]) (S := [vI r]) rfl (Nat.le_of_ble_eq_true rfl) ?_
  refine kn_icmp_eq (tgt := 1471) rfl dL_law_1466 (by decide) ?_
  exact kend σ2 hI2
