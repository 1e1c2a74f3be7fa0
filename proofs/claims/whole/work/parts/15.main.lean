/-! The machine computes what zex computes: the induction. -/
theorem zrv_1 {A : zM} {c : Nat} {as : List zV} (hk : zkd c = 1) (h : zrv A c as = true) : ∃ r as', as = .inr (.inr r) :: as' ∧ ((A.1[r]? = some (10 + zcls c, zNF (zcls c)) ∧ zcls c < 9) ∨ (zcls c = 11 ∧ 5003 ≤ r ∧ r < 5033)) := by
  unfold zrv at h
  rw [hk] at h
  match as, h with
  | [], h => cases h
  | .inl x :: t, h => cases h
  | .inr (.inl x) :: t, h => cases h
  | .inr (.inr r) :: t, h =>
    have h' : (decide (A.1[r]? = some (10 + zcls c, zNF (zcls c)) ∧ zcls c < 9) || decide (zcls c = 11 ∧ 5003 ≤ r ∧ r < 5033)) = true := h
    rw [Bool.or_eq_true, decide_eq_true_eq, decide_eq_true_eq] at h'
    exact ⟨r, t, rfl, h'⟩
theorem zrv_2 {A : zM} {c : Nat} {as : List zV} (hk : zkd c = 2) (h : zrv A c as = true) : ∃ r as', as = .inr (.inr r) :: as' ∧ r < 5000 := by
  unfold zrv at h
  rw [hk] at h
  match as, h with
  | [], h => cases h
  | .inl x :: t, h => cases h
  | .inr (.inl x) :: t, h => cases h
  | .inr (.inr r) :: t, h =>
    have h' : decide (r < 5000) = true := h
    exact ⟨r, t, rfl, of_decide_eq_true h'⟩
section ZW11
variable {p : Program} {l : Launch} {e : Env} {R : Room} {s : State} {m : MethodId} {args : Array Value} {below : List Frame} {meth : Method} {c : Code} {H : Heap} {locs : List Loc} {cells slots : Nat} {Q : State → Prop}
variable {D : va_G} {tc : Nat → ClassId} {base b : Nat} {sc : zSc} {fmt : Value} {adK adV : Nat → Nat} {j pc len : Nat} {i : Instr} {ls : Array Slot} {st : List Value}
theorem zW_call {n q q1 n0 s0 cal : Nat} {L : zL} {S as rest : List zV} {A A1 : zM} {r1 : Option zV} (ih : zSnd l D tc base b sc fmt adK adV n) (F : zFr p s m args meth c j) (E : zEv D tc base b sc fmt adK adV s s.heap) (hs : s.heap.size = base + n0) (hq1 : q ≤ R.frames) (hq2 : 64 * q ≤ R.locals) (hd : decode (zcode j) pc = .ok (i, len)) (hc : zcall j S i len = some (cal, as, rest)) (hq : q1 < q) (hal : (zarg0 as).length ≤ zml cal) (hrv : zrv A cal as = true)
    (hx : zex sc n q1 cal 0 (zarg (zml cal) as) [] A = some (r1, A1)) (hrc : A1.1.length ≤ n0 + R.cells) (hrs : zsl A1.1 ≤ s0 + R.slots) (hst : zSt D tc base b fmt adK adV s n0 s0 j L S A H locs cells slots ls)
    (kk : ∀ (H' : Heap) (locs' : List Loc) (cells' slots' : Nat), zSt D tc base b fmt adK adV s n0 s0 j L (r1.toList ++ rest) A1 H' locs' cells' slots' ls → W p l e R s m args below meth c H' locs' cells' slots' Q (F0 m (pc + 3) ls ((r1.toList ++ rest).map (zval base (zX b fmt adK adV))))) :
    W p l e R s m args below meth c H locs cells slots Q (F0 m pc ls (S.map (zval base (zX b fmt adK adV)))) := by
  obtain ⟨hl, hok, hP, hM, hS, hcl, hsl⟩ := hst
  have hX := zX_ok (b := b) (adK := adK) (adV := adV) E.2.2.2.2.2.2.1
  have F' := F
  obtain ⟨hxe, hb, hml, hown, hts, hin⟩ := F'
  obtain ⟨le1, le2⟩ := zex_le hx
  unfold zcall at hc
  split at hc
  · rename_i idx kd hik
    split at hc
    · rename_i e2 he
      obtain ⟨hw, hcal⟩ := zLK_w he
      by_cases hk : zkd e2.2.1 = kd ∧ znp e2.2.1 + (if kd = 0 then 0 else 1) ≤ S.length ∧ ((S.drop (znp e2.2.1 + (if kd = 0 then 0 else 1))).map zcat).sum ≤ 8
      · rw [if_pos hk] at hc
        cases hc
        obtain ⟨hk1, hk2, hk3⟩ := hk
        obtain ⟨f1, f2, f3, f4, f5, f6, f7, f8, f9, f10⟩ := zM_facts hcal
        have hSe : S = (S.take (znp e2.2.1 + (if kd = 0 then 0 else 1))).reverse.reverse ++ S.drop (znp e2.2.1 + (if kd = 0 then 0 else 1)) := by
          rw [List.reverse_reverse, List.take_append_drop]
        have hasl : (S.take (znp e2.2.1 + (if kd = 0 then 0 else 1))).reverse.length = znp e2.2.1 + (if kd = 0 then 0 else 1) := by
          rw [List.length_reverse, List.length_take]
          omega
        generalize has : (S.take (znp e2.2.1 + (if kd = 0 then 0 else 1))).reverse = as at *
        generalize hre : S.drop (znp e2.2.1 + (if kd = 0 then 0 else 1)) = rest at *
        have hoka : ∀ v ∈ as, zokv v := fun v hv => hok v (by rw [hSe]; simp [hv])
        have hokr : ∀ v ∈ rest, zokv v := fun v hv => hok v (by rw [hSe]; simp [hv])
        refine W_sz fun hz => ?_
        have hHs := zH_size hP hs hS hcl hz
        have hMet := zMet ih hX hcal hx hM hoka hal
        have hPc : ∀ U : State, U.heap = H → s.WarmedH U.vm → zPc D tc base b sc fmt adK adV A as (as.map (zval base (zX b fmt adK adV))).toArray U := fun U hU hW =>
          ⟨rfl, by rw [hU]; exact hHs, by rw [hU]; exact hP, by rw [hU]; exact zEv_kept (zEv_warm hW E) hS.1 hS.2.1⟩
        have hcf : CallFix p m c (zcode j) (zml j) s args zGW (zRNi (zcls j)) := ⟨hxe, hb, hml, hown, hts⟩
        have hroom : q1 + 1 ≤ R.frames ∧ 8 + (zml e2.2.1 + 11) + 64 * q1 ≤ R.locals := by omega
        have hcb : (A1.1.length - A.1.length) = (A1.1.length - A.1.length) ∧ (zsl A1.1 - zsl A.1) = (zsl A1.1 - zsl A.1) ∧ q1 + 1 ≤ R.frames ∧ 8 + (zml e2.2.1 + 11) + 64 * q1 ≤ R.locals ∧ (∀ w ∈ zws e2.2.1, ∀ (a' : Array Value) (U : State), s.WarmedH U.vm → w.before a' U = true) ∧ Jvm.Cond.code (zy e2.2.1) (zcode e2.2.1) (zml e2.2.1) (zrt e2.2.1) ∈ zws e2.2.1 := ⟨rfl, rfl, hroom.1, hroom.2, zws_good hcal hts, List.mem_cons_self⟩
        have hlen : ∀ sig, parseMethodDescriptor (zy e2.2.1).desc = some sig → znp e2.2.1 = sig.parameters.length := fun sig h => by
          rw [h] at f6
          exact (Option.some.inj f6).symm
        have hres : ((rest.map (zval base (zX b fmt adK adV))).map (fun v => v.category)).sum ≤ 8 := by rw [zcat_sum hX]; exact hk3
        have hfit : cells + (A1.1.length - A.1.length) ≤ R.cells ∧ slots + (zsl A1.1 - zsl A.1) ≤ R.slots := by omega
        have fin : ∀ (a0 : Array Value), va_Run p l e R s m args below meth c H locs cells slots (A1.1.length - A.1.length) (zsl A1.1 - zsl A.1) (F0 m pc ls (S.map (zval base (zX b fmt adK adV)))) (rest.map (zval base (zX b fmt adK adV))) (zQ base (zX b fmt adK adV) D tc r1 A1 a0) (fun q => base ≤ q) → W p l e R s m args below meth c H locs cells slots Q (F0 m pc ls (S.map (zval base (zX b fmt adK adV)))) := by
          intro a0 hr
          refine zW_run hr hS (fun H1 l1 a1 a2 a4 a3 => ?_)
          have e1 : (r1.map (zval base (zX b fmt adK adV))).toList ++ rest.map (zval base (zX b fmt adK adV)) = (r1.toList ++ rest).map (zval base (zX b fmt adK adV)) := by
            cases r1 <;> simp
          rw [e1]
          refine kk H1 l1 _ _ ⟨hl, fun v hv => ?_, a1, a2, a3, by omega, by omega⟩
          rcases List.mem_append.mp hv with h | h
          · exact a4 v (by cases r1 <;> simp_all)
          · exact hokr v h
        have hmap : S.map (zval base (zX b fmt adK adV)) = (as.map (zval base (zX b fmt adK adV))).reverse ++ rest.map (zval base (zX b fmt adK adV)) := by
          conv => lhs; rw [hSe]
          rw [List.map_append, List.map_reverse]
        split at hik
        · -- static
          split at hik
          · rename_i hl3
            cases hik
            subst hl3
            have hcs := hts _ (f8 hk1)
            have hn : (as.map (zval base (zX b fmt adK adV))).length = znp e2.2.1 := by rw [List.length_map, hasl]; rfl
            split at hw
            · have hwn := va_Nw.use (A := args) rfl (E.2.2.2.2.2.2.2.1 _ hw)
              exact fin _ (va_runSN hcf hMet ⟨⟨hcb, hts _ f1, hts _ f2, f5, hlen, hwn⟩, hcs, trivial⟩ ⟨zPc_blind, hPc⟩ rfl hn hl.1 hmap (lv_room hres) hd hfit)
            · exact fin _ (va_runS hcf hMet ⟨⟨hcb.1, hcb.2.1, hcb.2.2.1, hcb.2.2.2.1, hcb.2.2.2.2.1, hcb.2.2.2.2.2, hts _ f1, hts _ f2, f5, hlen, hts _ hw⟩, hcs⟩ ⟨zPc_blind, hPc⟩ rfl hn hl.1 hmap (lv_room hres) hd hfit)
          · cases hik
        · -- virtual
          split at hik
          · rename_i hl3
            cases hik
            subst hl3
            obtain ⟨g1, g2⟩ := f9 hk1
            obtain ⟨r0, as0, rfl, hrv'⟩ := zrv_1 hk1 hrv
            rw [List.map_cons, List.reverse_cons, List.append_assoc] at hmap
            have hn : (as0.map (zval base (zX b fmt adK adV))).length = znp e2.2.1 := by
              rw [List.length_map]
              rw [List.length_cons] at hasl
              simp at hasl
              exact hasl
            have hcell : ∃ bb, zval base (zX b fmt adK adV) (.inr (.inr r0)) = .ref bb ∧ ∃ cellB : Cell, H[bb]? = some cellB ∧ cellB.vm.isStatics = false ∧ s.vm.findClass (zy e2.2.1).cls = some cellB.cls := by
              rw [f3]
              rcases hrv' with ⟨hA, h9⟩ | ⟨h11, hr1, hr2⟩
              · refine ⟨base + r0, zref_own (zMo_lt hM hA), ?_⟩
                have hg := zWo_get (base := base) (tc := tc) hA
                rw [zEnt_obj] at hg
                exact va_recv E.1 hP (zVW_ok _ h9) hg
              · obtain ⟨i0, rfl⟩ : ∃ i0, r0 = 5003 + i0 := ⟨r0 - 5003, by omega⟩
                have hi0 : i0 < 30 := by omega
                obtain ⟨hV, -⟩ := E.2.2.2.1 i0 hi0
                refine ⟨adK i0, (zst_ci hi0).1, ?_⟩
                rw [h11]
                exact vk_recv hV (i := 0) (by omega) hS
            obtain ⟨bb, hbb, hce⟩ := hcell
            rw [List.map_cons, hbb] at hPc
            rw [hbb] at hmap
            split at hw
            · have hwn := va_Nw.use (A := args) rfl (E.2.2.2.2.2.2.2.1 _ hw)
              exact fin _ (va_runVN hcf hMet ⟨⟨hcb, hts _ f1, hts _ f2, f5, hlen, hwn⟩, hts _ g1, hts _ g2⟩ ⟨zPc_blind, hce, hPc⟩ rfl hn hl.1 hmap (lv_room hres) hd hfit)
            · exact fin _ (va_runV hcf hMet ⟨⟨hcb.1, hcb.2.1, hcb.2.2.1, hcb.2.2.2.1, hcb.2.2.2.2.1, hcb.2.2.2.2.2, hts _ f1, hts _ f2, f5, hlen, hts _ hw⟩, hts _ g1, hts _ g2⟩ ⟨zPc_blind, hce, hPc⟩ rfl hn hl.1 hmap (lv_room hres) hd hfit)
          · cases hik
        · -- special
          split at hik
          · rename_i hl3
            cases hik
            subst hl3
            obtain ⟨g1, g2, g3⟩ := f10 (by omega) (by omega)
            obtain ⟨r0, as0, rfl, hr5⟩ := zrv_2 hk1 hrv
            rw [List.map_cons, List.reverse_cons, List.append_assoc] at hmap
            have hn : (as0.map (zval base (zX b fmt adK adV))).length = znp e2.2.1 := by
              rw [List.length_map]
              rw [List.length_cons] at hasl
              simp at hasl
              exact hasl
            have hbb : zval base (zX b fmt adK adV) (.inr (.inr r0)) = .ref (base + r0) := zref_own hr5
            rw [List.map_cons, hbb] at hPc
            rw [hbb] at hmap
            rw [g3] at hcb f1
            split at hw
            · have hwn := va_Nw.use (A := args) rfl (E.2.2.2.2.2.2.2.1 _ hw)
              exact fin _ (va_runIN hcf hMet ⟨⟨hcb, hts _ f1, hts _ f2, f5, hlen, hwn⟩, g2, hts _ g1⟩ ⟨zPc_blind, hPc⟩ rfl hn hl.1 hmap (lv_room hres) hd hfit)
            · exact fin _ (va_runI hcf hMet ⟨⟨hcb.1, hcb.2.1, hcb.2.2.1, hcb.2.2.2.1, hcb.2.2.2.2.1, hcb.2.2.2.2.2, hts _ f1, hts _ f2, f5, hlen, hts _ hw⟩, g2, hts _ g1⟩ ⟨zPc_blind, hPc⟩ rfl hn hl.1 hmap (lv_room hres) hd hfit)
          · cases hik
        · cases hik
      · rw [if_neg hk] at hc
        cases hc
    · cases hc
  · cases hc
end ZW11
theorem zsound (l : Launch) (D : va_G) (tc : Nat → ClassId) (base b : Nat) (sc : zSc) (fmt : Value) (adK adV : Nat → Nat) : ∀ n, zSnd l D tc base b sc fmt adK adV n
  | 0 => fun q j pc L S A r A' h => by cases h
  | n + 1 => by
    have ih := zsound l D tc base b sc fmt adK adV n
    intro q j pc L S A r A' h p e R s m args below meth c H locs cells slots Q ls n0 s0 F E hs hq1 hq2 hrc hrs hst hret
    unfold zex at h
    split at h
    · cases h
    · rename_i i len hd
      split at h
      · rename_i r0 hr
        cases h
        exact hret pc i len L S H locs cells slots ls hd hr hst
      · split at h
        · rename_i pc' L' S' A1 hs1
          obtain ⟨le1, le2⟩ := zex_le h
          exact zstep_ok F E hs hq1 hq2 hd hs1 (by omega) (by omega) hst (fun H' l' c' s' ls' hst' => ih q j pc' L' S' A1 r A' h p e R s m args below meth c H' l' c' s' Q ls' n0 s0 F E hs hq1 hq2 hrc hrs hst' hret)
        · split at h
          · rename_i cal as rest hc
            split at h
            · rename_i hk
              split at h
              · rename_i r1 A1 hx
                obtain ⟨le1, le2⟩ := zex_le h
                exact zW_call ih F E hs hq1 hq2 hd hc hk.1 hk.2.1 hk.2.2 hx (by omega) (by omega) hst (fun H' l' c' s' hst' => ih q j (pc + 3) L _ A1 r A' h p e R s m args below meth c H' l' c' s' Q ls n0 s0 F E hs hq1 hq2 hrc hrs hst' hret)
              · cases h
            · cases h
          · cases h
