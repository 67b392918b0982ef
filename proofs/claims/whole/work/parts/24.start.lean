theorem P_left {D : va_G} {cl : List vw_C} {a b : va_W} {H : Heap} (h : va_P D cl (a ++ b) H) : va_P D cl a H := fun k q hq => h k q (by rw [List.getElem?_append_left (List.getElem?_eq_some_iff.mp hq).1]; exact hq)
theorem P_right {D : va_G} {cl : List vw_C} {a b : va_W} {H : Heap} (h : va_P D cl (a ++ b) H) : va_P D cl b H := fun k q hq => h (a.length + k) q (by rw [List.getElem?_append_right (by omega), Nat.add_sub_cancel_left]; exact hq)
theorem D_right {A : Nat → Prop} {a b : va_W} (h : va_D A (a ++ b)) : va_D A b := by
  have key : ∀ (k : Nat) (q : Nat × va_E), b[k]? = some q → (a ++ b)[a.length + k]? = some q := fun k q hq => by rw [List.getElem?_append_right (by omega), Nat.add_sub_cancel_left]; exact hq
  refine ⟨fun i j p q hi hj e => ?_, fun k q hq => h.2 _ q (key k q hq)⟩
  have := h.1 _ _ p q (key i p hi) (key j q hj) e
  omega
theorem D_cross {A : Nat → Prop} {a b : va_W} (h : va_D A (a ++ b)) {i j : Nat} {p q : Nat × va_E} (hi : a[i]? = some p) (hj : b[j]? = some q) : p.1 ≠ q.1 := by
  intro e
  have hl := (List.getElem?_eq_some_iff.mp hi).1
  have := h.1 i (a.length + j) p q (by rw [List.getElem?_append_left hl]; exact hi) (by rw [List.getElem?_append_right (by omega), Nat.add_sub_cancel_left]; exact hj) e
  omega
theorem arr_known {args : Array Value} {s : State} {ty : FieldType} (h : (Cond.arrayClass ty).before args s = true) (hR : ∀ c : ClassId, s.vm.findClass ("[" ++ ty.toString) = some c → va_RA s c ty) : ∃ c : ClassId, ArrOfT s c ty ∧ va_RA s c ty := by
  obtain ⟨cA, kA, comp, h1, h2, h3⟩ := Cond.arrayClass_spec h
  exact ⟨cA, fun n z => ⟨fun k hk => (by cases hk), kA, h2, comp, h3⟩, hR cA h1⟩
set_option maxHeartbeats 8000000 in
set_option maxRecDepth 100000 in
theorem law_start {p : Program} {e : Env} {s : State} {m : MethodId} {below : List Frame} {meth : Method} {c : Code} (l : Launch) {b L : Nat} {xs : Nat → Int32} {Sim : Sg → Sg → Prop} (hsim : simAll Sim) {sX sM : Sg} (h0X : f_X8_init0 σz = some sX) (h0M : f_X9_init0 σz = some sM) (h0s : Sim sX sM) (hL : L ≤ 2048) (C0 : lw_At p s m meth c b L xs) : W p l e room_1 s m #[Value.ref b] below meth c s.heap [] 0 0 (lw_Z below #[Value.ref b] s) (entryFrame m ([Value.ref b] : List Value).toArray 4) := by
  obtain ⟨hx, hb, hr, hml, hown, hts, hX, hbl, hlocks, hgv⟩ := id C0
  have hF : CallFix p m c code 4 s #[Value.ref b] WA R_law := ⟨hx, hb, hml, hown, fun w h => hts w (wa_tbl w h)⟩
  have htw := hF.2.2.2.2
  have hA : ∀ q : Nat, s.heap.size ≤ q → lwA s q := fun _ h => h
  have hNo : ∀ a : Nat, a < s.heap.size → ¬ lwA s a := fun a h => Nat.not_le.mpr h
  have hN : NW s := by
    intro w hw
    have h1 : w ∈ lw_tbl := List.mem_append_right _ (by revert w; decide +kernel)
    have h2 : w.onTables = true := by revert w; decide +kernel
    exact va_Nw.of h2 (hts w h1)
  obtain ⟨k0, i0, hKn0⟩ := u_known (C := RX1) (T := TX1) (N := 11) (n := 11) htw inWX1 (htw (.instantiable RX1 11) wt52)
  obtain ⟨k1, i1, hKn1⟩ := u_known (C := RX2) (T := TX2) (N := 3) (n := 3) htw inWX2 (htw (.instantiable RX2 3) wt92)
  obtain ⟨k2, i2, hKn2⟩ := u_known (C := RX3) (T := TX3) (N := 2) (n := 2) htw inWX3 (htw (.instantiable RX3 2) wt121)
  obtain ⟨k3, i3, hKn3⟩ := u_known (C := RX4) (T := TX4) (N := 2) (n := 2) htw inWX4 (htw (.instantiable RX4 2) wt39)
  obtain ⟨k4, i4, hKn4⟩ := u_known (C := RX6) (T := TX6) (N := 2) (n := 2) htw inWX6 (htw (.instantiable RX6 2) wt25)
  obtain ⟨k5, i5, hKn5⟩ := u_known (C := RX7) (T := TX7) (N := 2) (n := 2) htw inWX7 (htw (.instantiable RX7 2) wt108)
  obtain ⟨k6, i6, hKn6⟩ := u_known (C := RX8) (T := TX8) (N := 12) (n := 12) htw inWX8 (htw (.instantiable RX8 12) wt17)
  obtain ⟨k7, i7, hKn7⟩ := u_known (C := RX9) (T := TX9) (N := 13) (n := 13) htw inWX9 (htw (.instantiable RX9 13) wt767)
  obtain ⟨D, hDk⟩ : ∃ D : va_G, ∀ (k : Nat) (q : vw_C), vwCl[k]? = some q → u_Kn s q.1 q.2.1 q.2.2 (D.1 k) (D.2 k) := by
    refine ⟨(fun k => match k with | 0 => k0 | 1 => k1 | 2 => k2 | 3 => k3 | 4 => k4 | 5 => k5 | 6 => k6 | 7 => k7 | _ => k0, fun k => match k with | 0 => i0 | 1 => i1 | 2 => i2 | 3 => i3 | 4 => i4 | 5 => i5 | 6 => i6 | 7 => i7 | _ => i0), ?_⟩
    intro k q hq
    match k, hq with
    | 0, hq => cases hq; exact hKn0
    | 1, hq => cases hq; exact hKn1
    | 2, hq => cases hq; exact hKn2
    | 3, hq => cases hq; exact hKn3
    | 4, hq => cases hq; exact hKn4
    | 5, hq => cases hq; exact hKn5
    | 6, hq => cases hq; exact hKn6
    | 7, hq => cases hq; exact hKn7
    | k + 8, hq => simp [vwCl] at hq
  obtain ⟨aI, hI1, hI2⟩ := arr_known (htw _ wt37) (fun c h => h)
  obtain ⟨aL, hL1, hL2⟩ := arr_known (htw _ wt824) (fun c h => h)
  have hK : va_K D vwCl (tysIL aI aL) s := by
    refine ⟨hDk, fun k q hq => ?_⟩
    match k, hq with
    | 0, hq => cases hq; exact ⟨hI1, hI2⟩
    | 1, hq => cases hq; exact ⟨hL1, hL2⟩
    | k + 2, hq => simp [tysIL] at hq
  have C : CT p m c code 4 s #[Value.ref b] R_law D aI aL := ⟨hF, hK, hN⟩
  have hg := flat_of_before _ hgv
  obtain ⟨adK, adV, hvS, hvE⟩ := vk_Sof (args := #[Value.ref b]) (s := s) (N := 1) (tm := fun _ => .string "FloorOfProofs" 64) (len := [23]) (byt := [sgL]) (A := lwA s)
    (fun i hi => by rcases (show i = 0 by omega) with rfl; decide) (fun i hi => hg _ (by decide +kernel)) (fun i hi => hg _ (by decide +kernel)) (fun i hi => hg _ (by decide +kernel))
    (fun i hi => by rcases (show i = 0 by omega) with rfl; exact hg _ (by decide +kernel))
    (fun i hi j hj => by
      rcases (show i = 0 by omega) with rfl
      have hj : j < 23 := hj
      rcases (show j = 0 ∨ j = 1 ∨ j = 2 ∨ j = 3 ∨ j = 4 ∨ j = 5 ∨ j = 6 ∨ j = 7 ∨ j = 8 ∨ j = 9 ∨ j = 10 ∨ j = 11 ∨ j = 12 ∨ j = 13 ∨ j = 14 ∨ j = 15 ∨ j = 16 ∨ j = 17 ∨ j = 18 ∨ j = 19 ∨ j = 20 ∨ j = 21 ∨ j = 22 by omega) with rfl | rfl | rfl | rfl | rfl | rfl | rfl | rfl | rfl | rfl | rfl | rfl | rfl | rfl | rfl | rfl | rfl | rfl | rfl | rfl | rfl | rfl | rfl <;> exact hg _ (by decide +kernel))
    (fun i j hi hj hij => absurd (show i = j by omega) hij) hNo
  have hSE : SEv (adK 0) (adV 0) (lwA s) s s.heap := by
    obtain ⟨h1, h2, h3, h4⟩ := hvS.1 0 (by decide)
    refine ⟨va_Zof (hts _ (List.mem_append_right _ (List.mem_of_getElem? (i := 147) (by decide +kernel)))) (htw _ wt8) (va_eqi (hg _ (by decide +kernel))) hNo, va_Zqof (hts _ (List.mem_append_right _ (List.mem_of_getElem? (i := 163) (by decide +kernel)))) (htw _ wt10) (hg _ (by decide +kernel)) hNo, h1, h2, h3, h4⟩
  have hvR : vk_R RX8 64 "n4;a0;a1;t0,1,2;t2,2,3;" (adK 0) s := vk_R.of (A := #[Value.ref b]) (hts _ (List.mem_append_right _ (List.mem_of_getElem? (i := 133) (by decide +kernel)))) (hvE 0 (by decide))
  have hS : va_S (lwA s) s.heap s.heap [] := va_S.rf
  have hP : va_P D vwCl [] s.heap := fun k q h => by simp at h
  have hD : va_D (lwA s) [] := ⟨fun i j p q h => by simp at h, fun k q h => by simp at h⟩
  have hl := lv_entry ([.ref b]) (n := 4) (Nat.le_of_ble_eq_true rfl)
  rw [lg_entry_eq]
  generalize (lg_sl ([.ref b]) ++ List.replicate (4 - (lg_sl ([.ref b])).length) Slot.unset).toArray = ls at hl ⊢
  have hl : lv_has ls 4 [(0, .ref b)] := hl
  refine va_new (ci := 6) (fs := [.null, .null, .null, .null, .null, .null, .null, .null, .null, .null, .int 0, .int 0]) (C := RX8) (T := TX8) (N := 12) hx hb htw inWX8 tyX8 tyX8_ok hown (htw _ wt16) (htw _ wt17) (htw _ wt1) hK hP hD hS hA rfl (fun j hj => by rcases (show j = 0 ∨ j = 1 ∨ j = 2 ∨ j = 3 ∨ j = 4 ∨ j = 5 ∨ j = 6 ∨ j = 7 ∨ j = 8 ∨ j = 9 ∨ j = 10 ∨ j = 11 by omega) with rfl | rfl | rfl | rfl | rfl | rfl | rfl | rfl | rfl | rfl | rfl | rfl <;> rfl) (Nat.le_of_ble_eq_true rfl) (Nat.le_of_ble_eq_true rfl) dL_law_0 (fun oX H hP hD hS => ?_)
  have hP : va_P D vwCl [(oX, .inr (6, [.null, .null, .null, .null, .null, .null, .null, .null, .null, .null, .int 0, .int 0]))] H := hP
  have hD : va_D (lwA s) [(oX, .inr (6, [.null, .null, .null, .null, .null, .null, .null, .null, .null, .null, .int 0, .int 0]))] := hD
  refine lv_dup hx hb dL_law_3 rfl ?_
  have hFc := va_free (wc := [(oX, .inr (6, [.null, .null, .null, .null, .null, .null, .null, .null, .null, .null, .int 0, .int 0]))]) hD hS hA [0] rfl
  refine va_callv (va_runI (As := []) (rest := [.ref oX]) hF (c_X8_init l D aI aL oX (adK 0) (adV 0) H.size sX h0X) ⟨callB_of 0 htw (goodWA wt20) rfl rfl rfl (htw _ wt1) (htw _ wt18) ⟨by decide +kernel, by decide +kernel, by decide +kernel⟩ ⟨Nat.le_of_ble_eq_true rfl, Nat.le_of_ble_eq_true rfl⟩, rfl, htw _ wt19⟩ ⟨PnS_blind, fun U hU hW => ⟨rfl, by rw [hU], by rw [hU]; exact hP, va_K.moved hW.alike hK, NW_warm hW hN, hD.weaken (fun _ _ _ _ => trivial), by rw [hU]; exact SEv.moved hW.alike ((hSE.kept hS.2.1).narrow hFc), vk_R.warm hW hvR⟩⟩ rfl rfl hl.1 rfl (lv_room (Nat.le_of_ble_eq_true rfl)) dL_law_4 ⟨Nat.le_of_ble_eq_true rfl, Nat.le_of_ble_eq_true rfl⟩) hS (fun q _ h => hFc q h) hFc (fun u t H1 locs ht hvm hw hB hz1 hk1 hS => ?_)
  obtain ⟨aX, iX, aX0, hWX, gA⟩ := hB
  rw [ht] at hWX
  have gX : ∀ i, i < 42 → s.heap.size ≤ aX i := fun i hi => hFc _ (gA i hi)
  clear hP hD hFc
  generalize H1 = H at hWX hS ⊢
  have hDX : va_D (lwA s) (wl aI aL 42 shX aX sX) := wl_D iX gX
  refine lv_astore_n (lv' := [(1, .ref oX), (0, .ref b)]) hx hb dL_law_7 rfl hl (by decide) rfl (fun ls hl => ?_)
  refine va_new (ci := 7) (fs := [.null, .int 0, .int 0, .null, .int 0, .null, .int 0, .int 0, .null, .int 0, .null, .null, .null]) (C := RX9) (T := TX9) (N := 13) hx hb htw inWX9 tyX9 tyX9_ok hown (htw _ wt766) (htw _ wt767) (htw _ wt12) hK hWX hDX hS hA rfl (fun j hj => by rcases (show j = 0 ∨ j = 1 ∨ j = 2 ∨ j = 3 ∨ j = 4 ∨ j = 5 ∨ j = 6 ∨ j = 7 ∨ j = 8 ∨ j = 9 ∨ j = 10 ∨ j = 11 ∨ j = 12 by omega) with rfl | rfl | rfl | rfl | rfl | rfl | rfl | rfl | rfl | rfl | rfl | rfl | rfl <;> rfl) (Nat.le_of_ble_eq_true rfl) (Nat.le_of_ble_eq_true rfl) dL_law_8 (fun oM H hP hD hS => ?_)
  have hWX : Wd D aI aL 42 shX aX sX H := P_left hP
  have hPM : va_P D vwCl [(oM, .inr (7, [.null, .int 0, .int 0, .null, .int 0, .null, .int 0, .int 0, .null, .int 0, .null, .null, .null]))] H := P_right hP
  have hDM : va_D (lwA s) [(oM, .inr (7, [.null, .int 0, .int 0, .null, .int 0, .null, .int 0, .int 0, .null, .int 0, .null, .null, .null]))] := D_right hD
  have hXM : ∀ i, i < 42 → aX i ≠ oM := fun i hi => D_cross hD (j := 0) (wl_get hi) rfl
  have hFc := va_free (wc := [(oM, .inr (7, [.null, .int 0, .int 0, .null, .int 0, .null, .int 0, .int 0, .null, .int 0, .null, .null, .null]))]) hDM hS hA [0] rfl
  refine lv_dup hx hb dL_law_11 rfl ?_
  refine va_callv (va_runI (As := []) (rest := [.ref oM]) hF (c_X9_init l D aI aL oM H.size sM h0M) ⟨callB_of 0 htw (goodWA wt770) rfl rfl rfl (htw _ wt12) (htw _ wt768) ⟨by decide +kernel, by decide +kernel, by decide +kernel⟩ ⟨Nat.le_of_ble_eq_true rfl, Nat.le_of_ble_eq_true rfl⟩, rfl, htw _ wt769⟩ ⟨Pn_blind, Pn_at C hPM hDM [.ref oM]⟩ rfl rfl hl.1 rfl (lv_room (Nat.le_of_ble_eq_true rfl)) dL_law_12 ⟨Nat.le_of_ble_eq_true rfl, Nat.le_of_ble_eq_true rfl⟩) hS (fun q _ h => hFc q h) hFc (fun u t H1 locs ht hvm hw hB hz1 hk1 hS => ?_)
  obtain ⟨aM, iM, aM0, hWM, gB⟩ := hB
  rw [ht] at hWM
  have gM : ∀ j, j < 8 → s.heap.size ≤ aM j := fun j hj => hFc _ (gB j hj)
  have nX : ∀ i, i < 42 → ¬ va_A [(oM, .inr (7, [.null, .int 0, .int 0, .null, .int 0, .null, .int 0, .int 0, .null, .int 0, .null, .null, .null]))] H.size (aX i) := by
    rintro i hi (⟨k, e, h⟩ | h)
    · match k, h with
      | 0, h => cases h; exact hXM i hi rfl
      | k + 1, h => simp at h
    · exact absurd (Wd_lt hWX hi) (by omega)
  have hXM2 : ∀ i j, i < 42 → j < 8 → aX i ≠ aM j := fun i j hi hj q => nX i hi (by rw [q]; exact gB j hj)
  have hWX : Wd D aI aL 42 shX aX sX H1 := Wd_kept hWX (fun i hi => hk1 _ (Wd_lt hWX hi) (nX i hi))
  have hLW : LWd D aI aL aX aM sX sM s H1 locs := ⟨hWX, hWM, hS, iX, iM, gX, gM, hXM2⟩
  subst aX0; subst aM0
  refine W.widen (k := 50) (n := 6756) (Nat.le_of_ble_eq_true rfl) (Nat.le_of_ble_eq_true rfl) ?_
  refine lv_astore_n (lv' := [(2, .ref (aM 0)), (1, .ref (aX 0)), (0, .ref b)]) hx hb dL_law_15 rfl hl (by decide) rfl (fun ls hl => ?_)
  refine lv_iconst (v := 0) hx hb dL_law_16 (by decide) ?_
  refine lv_istore_n (lv' := [(3, .int 0), (2, .ref (aM 0)), (1, .ref (aX 0)), (0, .ref b)]) hx hb dL_law_17 rfl hl (by decide) rfl (fun ls hl => ?_)
  exact law_loop hsim hL C0 hK hN aX aM (L + 5) 0 (by omega) (by omega) sX sM h0s _ _ hLW ls (lv_sub hl [3, 2, 1, 0] rfl)
