def rm_L_law : Room := room_1
theorem rmc_L_law : rm_L_law.cells = 600000 := rfl
theorem rms_L_law : rm_L_law.slots = 7302250 := rfl
set_option maxRecDepth 100000 in
set_option maxHeartbeats 4000000 in
theorem B_L_law_18 (l : Launch) (b : Nat) (D : va_G) (z : Nat → Nat) (k j : Nat) {Φ : Option Value → qH → Nat → Prop} {a0 : Nat} {a1 : Nat} {a2 : Nat} {a3 : Int32} {h : qH} {nx : Nat} {o : (Int32 × qH × Nat) ⊕ (((qH × Nat) ⊕ ((qH × Nat) ⊕ ((qH × Nat) ⊕ ((qH × Nat) ⊕ ((qH × Nat) ⊕ ((qH × Nat) ⊕ ((qH × Nat) ⊕ ((qH × Nat) ⊕ ((qH × Nat) ⊕ ((qH × Nat) ⊕ ((qH × Nat) ⊕ ((qH × Nat) ⊕ ((qH × Nat) ⊕ ((qH × Nat) ⊕ ((qH × Nat) ⊕ ((qH × Nat) ⊕ ((qH × Nat) ⊕ ((qH × Nat) ⊕ ((qH × Nat) ⊕ ((qH × Nat) ⊕ ((qH × Nat) ⊕ ((qH × Nat) ⊕ ((qH × Nat) ⊕ ((qH × Nat) ⊕ ((qH × Nat) ⊕ ((qH × Nat) ⊕ ((qH × Nat) ⊕ ((qH × Nat) ⊕ ((qH × Nat) ⊕ ((qH × Nat) ⊕ ((qH × Nat) ⊕ ((qH × Nat) ⊕ (qH × Nat))))))))))))))))))))))))))))))))))} (hF : b_L_law_18 z a0 a1 a2 a3 h nx = some o) (hk0 : k + 73 ≤ 600000) (hj0 : j + 2724 ≤ 7302250) (hback : ∀ (b3 : Int32) (bh : qH) (bn : Nat), o = .inl (b3, bh, bn) → Go l b D z yL_law cL_law 4 (some .boolean) rm_L_law Φ 18 [(0, .ref a0), (1, .ref a1), (2, .ref a2), (3, .int b3)] [] bh bn (k + 73) (j + 2724)) (hx0 : ∀  (bh : qH) (bn : Nat), o = .inr (.inl (bh, bn)) → Go l b D z yL_law cL_law 4 (some .boolean) rm_L_law Φ 237 [] [] bh bn (k + 73) (j + 2724)) (hx1 : ∀  (bh : qH) (bn : Nat), o = .inr (.inr (.inl (bh, bn))) → Go l b D z yL_law cL_law 4 (some .boolean) rm_L_law Φ 260 [] [] bh bn (k + 73) (j + 2724)) (hx2 : ∀  (bh : qH) (bn : Nat), o = .inr (.inr (.inr (.inl (bh, bn)))) → Go l b D z yL_law cL_law 4 (some .boolean) rm_L_law Φ 293 [] [] bh bn (k + 73) (j + 2724)) (hx3 : ∀  (bh : qH) (bn : Nat), o = .inr (.inr (.inr (.inr (.inl (bh, bn))))) → Go l b D z yL_law cL_law 4 (some .boolean) rm_L_law Φ 316 [] [] bh bn (k + 73) (j + 2724)) (hx4 : ∀  (bh : qH) (bn : Nat), o = .inr (.inr (.inr (.inr (.inr (.inl (bh, bn)))))) → Go l b D z yL_law cL_law 4 (some .boolean) rm_L_law Φ 349 [] [] bh bn (k + 73) (j + 2724)) (hx5 : ∀  (bh : qH) (bn : Nat), o = .inr (.inr (.inr (.inr (.inr (.inr (.inl (bh, bn))))))) → Go l b D z yL_law cL_law 4 (some .boolean) rm_L_law Φ 392 [] [] bh bn (k + 73) (j + 2724)) (hx6 : ∀  (bh : qH) (bn : Nat), o = .inr (.inr (.inr (.inr (.inr (.inr (.inr (.inl (bh, bn)))))))) → Go l b D z yL_law cL_law 4 (some .boolean) rm_L_law Φ 435 [] [] bh bn (k + 73) (j + 2724)) (hx7 : ∀  (bh : qH) (bn : Nat), o = .inr (.inr (.inr (.inr (.inr (.inr (.inr (.inr (.inl (bh, bn))))))))) → Go l b D z yL_law cL_law 4 (some .boolean) rm_L_law Φ 468 [] [] bh bn (k + 73) (j + 2724)) (hx8 : ∀  (bh : qH) (bn : Nat), o = .inr (.inr (.inr (.inr (.inr (.inr (.inr (.inr (.inr (.inl (bh, bn)))))))))) → Go l b D z yL_law cL_law 4 (some .boolean) rm_L_law Φ 521 [] [] bh bn (k + 73) (j + 2724)) (hx9 : ∀  (bh : qH) (bn : Nat), o = .inr (.inr (.inr (.inr (.inr (.inr (.inr (.inr (.inr (.inr (.inl (bh, bn))))))))))) → Go l b D z yL_law cL_law 4 (some .boolean) rm_L_law Φ 574 [] [] bh bn (k + 73) (j + 2724)) (hx10 : ∀  (bh : qH) (bn : Nat), o = .inr (.inr (.inr (.inr (.inr (.inr (.inr (.inr (.inr (.inr (.inr (.inl (bh, bn)))))))))))) → Go l b D z yL_law cL_law 4 (some .boolean) rm_L_law Φ 617 [] [] bh bn (k + 73) (j + 2724)) (hx11 : ∀  (bh : qH) (bn : Nat), o = .inr (.inr (.inr (.inr (.inr (.inr (.inr (.inr (.inr (.inr (.inr (.inr (.inl (bh, bn))))))))))))) → Go l b D z yL_law cL_law 4 (some .boolean) rm_L_law Φ 660 [] [] bh bn (k + 73) (j + 2724)) (hx12 : ∀  (bh : qH) (bn : Nat), o = .inr (.inr (.inr (.inr (.inr (.inr (.inr (.inr (.inr (.inr (.inr (.inr (.inr (.inl (bh, bn)))))))))))))) → Go l b D z yL_law cL_law 4 (some .boolean) rm_L_law Φ 756 [] [] bh bn (k + 73) (j + 2724)) (hx13 : ∀  (bh : qH) (bn : Nat), o = .inr (.inr (.inr (.inr (.inr (.inr (.inr (.inr (.inr (.inr (.inr (.inr (.inr (.inr (.inl (bh, bn))))))))))))))) → Go l b D z yL_law cL_law 4 (some .boolean) rm_L_law Φ 842 [] [] bh bn (k + 73) (j + 2724)) (hx14 : ∀  (bh : qH) (bn : Nat), o = .inr (.inr (.inr (.inr (.inr (.inr (.inr (.inr (.inr (.inr (.inr (.inr (.inr (.inr (.inr (.inl (bh, bn)))))))))))))))) → Go l b D z yL_law cL_law 4 (some .boolean) rm_L_law Φ 891 [] [] bh bn (k + 73) (j + 2724)) (hx15 : ∀  (bh : qH) (bn : Nat), o = .inr (.inr (.inr (.inr (.inr (.inr (.inr (.inr (.inr (.inr (.inr (.inr (.inr (.inr (.inr (.inr (.inl (bh, bn))))))))))))))))) → Go l b D z yL_law cL_law 4 (some .boolean) rm_L_law Φ 944 [] [] bh bn (k + 73) (j + 2724)) (hx16 : ∀  (bh : qH) (bn : Nat), o = .inr (.inr (.inr (.inr (.inr (.inr (.inr (.inr (.inr (.inr (.inr (.inr (.inr (.inr (.inr (.inr (.inr (.inl (bh, bn)))))))))))))))))) → Go l b D z yL_law cL_law 4 (some .boolean) rm_L_law Φ 977 [] [] bh bn (k + 73) (j + 2724)) (hx17 : ∀  (bh : qH) (bn : Nat), o = .inr (.inr (.inr (.inr (.inr (.inr (.inr (.inr (.inr (.inr (.inr (.inr (.inr (.inr (.inr (.inr (.inr (.inr (.inl (bh, bn))))))))))))))))))) → Go l b D z yL_law cL_law 4 (some .boolean) rm_L_law Φ 1021 [] [] bh bn (k + 73) (j + 2724)) (hx18 : ∀  (bh : qH) (bn : Nat), o = .inr (.inr (.inr (.inr (.inr (.inr (.inr (.inr (.inr (.inr (.inr (.inr (.inr (.inr (.inr (.inr (.inr (.inr (.inr (.inl (bh, bn)))))))))))))))))))) → Go l b D z yL_law cL_law 4 (some .boolean) rm_L_law Φ 1054 [] [] bh bn (k + 73) (j + 2724)) (hx19 : ∀  (bh : qH) (bn : Nat), o = .inr (.inr (.inr (.inr (.inr (.inr (.inr (.inr (.inr (.inr (.inr (.inr (.inr (.inr (.inr (.inr (.inr (.inr (.inr (.inr (.inl (bh, bn))))))))))))))))))))) → Go l b D z yL_law cL_law 4 (some .boolean) rm_L_law Φ 1107 [] [] bh bn (k + 73) (j + 2724)) (hx20 : ∀  (bh : qH) (bn : Nat), o = .inr (.inr (.inr (.inr (.inr (.inr (.inr (.inr (.inr (.inr (.inr (.inr (.inr (.inr (.inr (.inr (.inr (.inr (.inr (.inr (.inr (.inl (bh, bn)))))))))))))))))))))) → Go l b D z yL_law cL_law 4 (some .boolean) rm_L_law Φ 1140 [] [] bh bn (k + 73) (j + 2724)) (hx21 : ∀  (bh : qH) (bn : Nat), o = .inr (.inr (.inr (.inr (.inr (.inr (.inr (.inr (.inr (.inr (.inr (.inr (.inr (.inr (.inr (.inr (.inr (.inr (.inr (.inr (.inr (.inr (.inl (bh, bn))))))))))))))))))))))) → Go l b D z yL_law cL_law 4 (some .boolean) rm_L_law Φ 1173 [] [] bh bn (k + 73) (j + 2724)) (hx22 : ∀  (bh : qH) (bn : Nat), o = .inr (.inr (.inr (.inr (.inr (.inr (.inr (.inr (.inr (.inr (.inr (.inr (.inr (.inr (.inr (.inr (.inr (.inr (.inr (.inr (.inr (.inr (.inr (.inl (bh, bn)))))))))))))))))))))))) → Go l b D z yL_law cL_law 4 (some .boolean) rm_L_law Φ 1207 [] [] bh bn (k + 73) (j + 2724)) (hx23 : ∀  (bh : qH) (bn : Nat), o = .inr (.inr (.inr (.inr (.inr (.inr (.inr (.inr (.inr (.inr (.inr (.inr (.inr (.inr (.inr (.inr (.inr (.inr (.inr (.inr (.inr (.inr (.inr (.inr (.inl (bh, bn))))))))))))))))))))))))) → Go l b D z yL_law cL_law 4 (some .boolean) rm_L_law Φ 1276 [] [] bh bn (k + 73) (j + 2724)) (hx24 : ∀  (bh : qH) (bn : Nat), o = .inr (.inr (.inr (.inr (.inr (.inr (.inr (.inr (.inr (.inr (.inr (.inr (.inr (.inr (.inr (.inr (.inr (.inr (.inr (.inr (.inr (.inr (.inr (.inr (.inr (.inl (bh, bn)))))))))))))))))))))))))) → Go l b D z yL_law cL_law 4 (some .boolean) rm_L_law Φ 1325 [] [] bh bn (k + 73) (j + 2724)) (hx25 : ∀  (bh : qH) (bn : Nat), o = .inr (.inr (.inr (.inr (.inr (.inr (.inr (.inr (.inr (.inr (.inr (.inr (.inr (.inr (.inr (.inr (.inr (.inr (.inr (.inr (.inr (.inr (.inr (.inr (.inr (.inr (.inl (bh, bn))))))))))))))))))))))))))) → Go l b D z yL_law cL_law 4 (some .boolean) rm_L_law Φ 1368 [] [] bh bn (k + 73) (j + 2724)) (hx26 : ∀  (bh : qH) (bn : Nat), o = .inr (.inr (.inr (.inr (.inr (.inr (.inr (.inr (.inr (.inr (.inr (.inr (.inr (.inr (.inr (.inr (.inr (.inr (.inr (.inr (.inr (.inr (.inr (.inr (.inr (.inr (.inr (.inl (bh, bn)))))))))))))))))))))))))))) → Go l b D z yL_law cL_law 4 (some .boolean) rm_L_law Φ 1428 [] [] bh bn (k + 73) (j + 2724)) (hx27 : ∀  (bh : qH) (bn : Nat), o = .inr (.inr (.inr (.inr (.inr (.inr (.inr (.inr (.inr (.inr (.inr (.inr (.inr (.inr (.inr (.inr (.inr (.inr (.inr (.inr (.inr (.inr (.inr (.inr (.inr (.inr (.inr (.inr (.inl (bh, bn))))))))))))))))))))))))))))) → Go l b D z yL_law cL_law 4 (some .boolean) rm_L_law Φ 1461 [] [] bh bn (k + 73) (j + 2724)) (hx28 : ∀  (bh : qH) (bn : Nat), o = .inr (.inr (.inr (.inr (.inr (.inr (.inr (.inr (.inr (.inr (.inr (.inr (.inr (.inr (.inr (.inr (.inr (.inr (.inr (.inr (.inr (.inr (.inr (.inr (.inr (.inr (.inr (.inr (.inr (.inl (bh, bn)))))))))))))))))))))))))))))) → Go l b D z yL_law cL_law 4 (some .boolean) rm_L_law Φ 1504 [] [] bh bn (k + 73) (j + 2724)) (hx29 : ∀  (bh : qH) (bn : Nat), o = .inr (.inr (.inr (.inr (.inr (.inr (.inr (.inr (.inr (.inr (.inr (.inr (.inr (.inr (.inr (.inr (.inr (.inr (.inr (.inr (.inr (.inr (.inr (.inr (.inr (.inr (.inr (.inr (.inr (.inr (.inl (bh, bn))))))))))))))))))))))))))))))) → Go l b D z yL_law cL_law 4 (some .boolean) rm_L_law Φ 1527 [] [] bh bn (k + 73) (j + 2724)) (hx30 : ∀  (bh : qH) (bn : Nat), o = .inr (.inr (.inr (.inr (.inr (.inr (.inr (.inr (.inr (.inr (.inr (.inr (.inr (.inr (.inr (.inr (.inr (.inr (.inr (.inr (.inr (.inr (.inr (.inr (.inr (.inr (.inr (.inr (.inr (.inr (.inr (.inl (bh, bn)))))))))))))))))))))))))))))))) → Go l b D z yL_law cL_law 4 (some .boolean) rm_L_law Φ 1550 [] [] bh bn (k + 73) (j + 2724)) (hx31 : ∀  (bh : qH) (bn : Nat), o = .inr (.inr (.inr (.inr (.inr (.inr (.inr (.inr (.inr (.inr (.inr (.inr (.inr (.inr (.inr (.inr (.inr (.inr (.inr (.inr (.inr (.inr (.inr (.inr (.inr (.inr (.inr (.inr (.inr (.inr (.inr (.inr (.inl (bh, bn))))))))))))))))))))))))))))))))) → Go l b D z yL_law cL_law 4 (some .boolean) rm_L_law Φ 1573 [] [] bh bn (k + 73) (j + 2724)) (hx32 : ∀  (bh : qH) (bn : Nat), o = .inr (.inr (.inr (.inr (.inr (.inr (.inr (.inr (.inr (.inr (.inr (.inr (.inr (.inr (.inr (.inr (.inr (.inr (.inr (.inr (.inr (.inr (.inr (.inr (.inr (.inr (.inr (.inr (.inr (.inr (.inr (.inr (.inr (bh, bn))))))))))))))))))))))))))))))))) → Go l b D z yL_law cL_law 4 (some .boolean) rm_L_law Φ 1581 [] [] bh bn (k + 73) (j + 2724)) : Go l b D z yL_law cL_law 4 (some .boolean) rm_L_law Φ 18 [(0, .ref a0), (1, .ref a1), (2, .ref a2), (3, .int a3)] [] h nx k j := by
  unfold b_L_law_18 at hF
  refine g_iload_n 3 dL_law_18 rfl ?_
  refine g_aload_n 0 dL_law_19 rfl ?_
  obtain ⟨x1, e2, hF⟩ := q_bind hF
  refine g_alen e2 dL_law_20 ?_
  refine g_bipush dL_law_21 lt_bipush_6 ?_
  refine g_isub dL_law_23 ?_
  refine g_icmp_gt 1581 dL_law_24 (by decide) (fun c3 => ?_) (fun c3 => ?_)
  · replace hF := q_t c3 hF
    cases hF
    refine g_widen (k1 := k + 73) (j1 := j + 2724) (by (try simp only [rmc_L_law, rms_L_law, rmc_X11_init, rms_X11_init, rmc_X12_init, rms_X12_init, rmc_X11_image, rms_X11_image]); omega) (by (try simp only [rmc_L_law, rms_L_law, rmc_X11_init, rms_X11_init, rmc_X12_init, rms_X12_init, rmc_X11_image, rms_X11_image]); omega) ?_
    refine g_sub [] rfl ?_
    exact hx32 _ _ rfl
  · replace hF := q_f c3 hF
    refine g_aload_n 0 dL_law_27 rfl ?_
    refine g_iload_n 3 dL_law_28 rfl ?_
    obtain ⟨x4, e5, hF⟩ := q_bind hF
    refine g_iald e5 dL_law_29 ?_
    refine g_bipush dL_law_30 lt_bipush_31 ?_
    refine g_iand dL_law_32 ?_
    by_cases c6 : (x4 &&& (31 : Int32)) = 0
    · replace hF := q_t c6 hF
      refine g_tabIn (off := 143) 176 dL_law_33 (by rw [c6]; decide) (by rw [c6]; decide) (by rw [c6]; decide) (by decide) ?_
      refine g_aload_n 1 dL_law_176 rfl ?_
      refine g_aload_n 0 dL_law_177 rfl ?_
      refine g_iload_n 3 dL_law_178 rfl ?_
      refine g_iconst dL_law_179 lt_iconst_1 ?_
      refine g_iadd dL_law_180 ?_
      obtain ⟨x7, e8, hF⟩ := q_bind hF
      refine g_iald e8 dL_law_181 ?_
      refine g_aload_n 0 dL_law_182 rfl ?_
      refine g_iload_n 3 dL_law_183 rfl ?_
      refine g_iconst dL_law_184 lt_iconst_2 ?_
      refine g_iadd dL_law_185 ?_
      obtain ⟨x9, e10, hF⟩ := q_bind hF
      refine g_iald e10 dL_law_186 ?_
      refine g_aload_n 0 dL_law_187 rfl ?_
      refine g_iload_n 3 dL_law_188 rfl ?_
      refine g_iconst dL_law_189 lt_iconst_3 ?_
      refine g_iadd dL_law_190 ?_
      obtain ⟨x11, e12, hF⟩ := q_bind hF
      refine g_iald e12 dL_law_191 ?_
      refine g_aload_n 0 dL_law_192 rfl ?_
      refine g_iload_n 3 dL_law_193 rfl ?_
      refine g_iconst dL_law_194 lt_iconst_4 ?_
      refine g_iadd dL_law_195 ?_
      obtain ⟨x13, e14, hF⟩ := q_bind hF
      refine g_iald e14 dL_law_196 ?_
      refine g_aload_n 0 dL_law_197 rfl ?_
      refine g_iload_n 3 dL_law_198 rfl ?_
      refine g_iconst dL_law_199 lt_iconst_5 ?_
      refine g_iadd dL_law_200 ?_
      obtain ⟨x15, e16, hF⟩ := q_bind hF
      refine g_iald e16 dL_law_201 ?_
      obtain ⟨u17, e18, hF⟩ := q_bind hF
      obtain ⟨x19, e20, hF⟩ := q_bind hF
      refine g_callVr0 (ci := 11) (q := (RX11, TX11, 8)) qm_X11_feed wd_541 wd_542 wd_543 rfl e18 (M_X11_feed l b D z nx e20) (As := [.int x7, .int x9, .int x11, .int x13, .int x15]) rfl rfl (Nat.le_of_ble_eq_true rfl) ⟨(Nat.le_of_ble_eq_true rfl), (Nat.le_of_ble_eq_true rfl)⟩ ⟨rfl, rfl⟩ ⟨(by (try simp only [rmc_L_law, rms_L_law, rmc_X11_init, rms_X11_init, rmc_X12_init, rms_X12_init, rmc_X11_image, rms_X11_image]); omega), (by (try simp only [rmc_L_law, rms_L_law, rmc_X11_init, rms_X11_init, rmc_X12_init, rms_X12_init, rmc_X11_image, rms_X11_image]); omega)⟩ dL_law_202 ?_
      refine g_aload_n 2 dL_law_205 rfl ?_
      refine g_aload_n 0 dL_law_206 rfl ?_
      refine g_iload_n 3 dL_law_207 rfl ?_
      refine g_iconst dL_law_208 lt_iconst_1 ?_
      refine g_iadd dL_law_209 ?_
      obtain ⟨x21, e22, hF⟩ := q_bind hF
      refine g_iald e22 dL_law_210 ?_
      refine g_aload_n 0 dL_law_211 rfl ?_
      refine g_iload_n 3 dL_law_212 rfl ?_
      refine g_iconst dL_law_213 lt_iconst_2 ?_
      refine g_iadd dL_law_214 ?_
      obtain ⟨x23, e24, hF⟩ := q_bind hF
      refine g_iald e24 dL_law_215 ?_
      refine g_aload_n 0 dL_law_216 rfl ?_
      refine g_iload_n 3 dL_law_217 rfl ?_
      refine g_iconst dL_law_218 lt_iconst_3 ?_
      refine g_iadd dL_law_219 ?_
      obtain ⟨x25, e26, hF⟩ := q_bind hF
      refine g_iald e26 dL_law_220 ?_
      refine g_aload_n 0 dL_law_221 rfl ?_
      refine g_iload_n 3 dL_law_222 rfl ?_
      refine g_iconst dL_law_223 lt_iconst_4 ?_
      refine g_iadd dL_law_224 ?_
      obtain ⟨x27, e28, hF⟩ := q_bind hF
      refine g_iald e28 dL_law_225 ?_
      refine g_aload_n 0 dL_law_226 rfl ?_
      refine g_iload_n 3 dL_law_227 rfl ?_
      refine g_iconst dL_law_228 lt_iconst_5 ?_
      refine g_iadd dL_law_229 ?_
      obtain ⟨x29, e30, hF⟩ := q_bind hF
      refine g_iald e30 dL_law_230 ?_
      obtain ⟨u31, e32, hF⟩ := q_bind hF
      obtain ⟨x33, e34, hF⟩ := q_bind hF
      refine g_callVr0 (ci := 12) (q := (RX12, TX12, 49)) qm_X12_feed wd_1611 wd_1612 wd_1613 rfl e32 (M_X12_feed l b D z nx e34) (As := [.int x21, .int x23, .int x25, .int x27, .int x29]) rfl rfl (Nat.le_of_ble_eq_true rfl) ⟨(Nat.le_of_ble_eq_true rfl), (Nat.le_of_ble_eq_true rfl)⟩ ⟨rfl, rfl⟩ ⟨(by (try simp only [rmc_L_law, rms_L_law, rmc_X11_init, rms_X11_init, rmc_X12_init, rms_X12_init, rmc_X11_image, rms_X11_image]); omega), (by (try simp only [rmc_L_law, rms_L_law, rmc_X11_init, rms_X11_init, rmc_X12_init, rms_X12_init, rmc_X11_image, rms_X11_image]); omega)⟩ dL_law_231 ?_
      refine g_icmp_eq 1575 dL_law_234 (by decide) (fun c35 => ?_) (fun c35 => ?_)
      · replace hF := q_t c35 hF
        refine g_iinc [(3, .int (a3 + 6)), (0, .ref a0), (1, .ref a1), (2, .ref a2)] 3 dL_law_1575 rfl (congrArg (a3 + ·) lt_iconst_6) (Nat.le_of_ble_eq_true rfl) rfl ?_
        refine g_goto 18 dL_law_1578 (by decide) ?_
        cases hF
        refine g_widen (k1 := k + 73) (j1 := j + 2724) (by (try simp only [rmc_L_law, rms_L_law, rmc_X11_init, rms_X11_init, rmc_X12_init, rms_X12_init, rmc_X11_image, rms_X11_image]); omega) (by (try simp only [rmc_L_law, rms_L_law, rmc_X11_init, rms_X11_init, rmc_X12_init, rms_X12_init, rmc_X11_image, rms_X11_image]); omega) ?_
        refine g_sub [1, 2, 3, 0] rfl ?_
        exact hback _ _ _ rfl
      · replace hF := q_f c35 hF
        cases hF
        refine g_widen (k1 := k + 73) (j1 := j + 2724) (by (try simp only [rmc_L_law, rms_L_law, rmc_X11_init, rms_X11_init, rmc_X12_init, rms_X12_init, rmc_X11_image, rms_X11_image]); omega) (by (try simp only [rmc_L_law, rms_L_law, rmc_X11_init, rms_X11_init, rmc_X12_init, rms_X12_init, rmc_X11_image, rms_X11_image]); omega) ?_
        refine g_sub [] rfl ?_
        exact hx0 _ _ rfl
    replace hF := q_f c6 hF
    by_cases c36 : (x4 &&& (31 : Int32)) = 1
    · replace hF := q_t c36 hF
      refine g_tabIn (off := 206) 239 dL_law_33 (by rw [c36]; decide) (by rw [c36]; decide) (by rw [c36]; decide) (by decide) ?_
      refine g_aload_n 1 dL_law_239 rfl ?_
      refine g_aload_n 0 dL_law_240 rfl ?_
      refine g_iload_n 3 dL_law_241 rfl ?_
      refine g_iconst dL_law_242 lt_iconst_1 ?_
      refine g_iadd dL_law_243 ?_
      obtain ⟨x37, e38, hF⟩ := q_bind hF
      refine g_iald e38 dL_law_244 ?_
      obtain ⟨u39, e40, hF⟩ := q_bind hF
      obtain ⟨x41, e42, hF⟩ := q_bind hF
      refine g_callVr0 (ci := 11) (q := (RX11, TX11, 8)) qm_X11_end wd_549 wd_550 wd_551 rfl e40 (M_X11_end l b D z nx e42) (As := [.int x37]) rfl rfl (Nat.le_of_ble_eq_true rfl) ⟨(Nat.le_of_ble_eq_true rfl), (Nat.le_of_ble_eq_true rfl)⟩ ⟨rfl, rfl⟩ ⟨(by (try simp only [rmc_L_law, rms_L_law, rmc_X11_init, rms_X11_init, rmc_X12_init, rms_X12_init, rmc_X11_image, rms_X11_image]); omega), (by (try simp only [rmc_L_law, rms_L_law, rmc_X11_init, rms_X11_init, rmc_X12_init, rms_X12_init, rmc_X11_image, rms_X11_image]); omega)⟩ dL_law_245 ?_
      refine g_aload_n 2 dL_law_248 rfl ?_
      refine g_aload_n 0 dL_law_249 rfl ?_
      refine g_iload_n 3 dL_law_250 rfl ?_
      refine g_iconst dL_law_251 lt_iconst_1 ?_
      refine g_iadd dL_law_252 ?_
      obtain ⟨x43, e44, hF⟩ := q_bind hF
      refine g_iald e44 dL_law_253 ?_
      obtain ⟨u45, e46, hF⟩ := q_bind hF
      obtain ⟨x47, e48, hF⟩ := q_bind hF
      refine g_callVr0 (ci := 12) (q := (RX12, TX12, 49)) qm_X12_end wd_1619 wd_1620 wd_1621 rfl e46 (M_X12_end l b D z nx e48) (As := [.int x43]) rfl rfl (Nat.le_of_ble_eq_true rfl) ⟨(Nat.le_of_ble_eq_true rfl), (Nat.le_of_ble_eq_true rfl)⟩ ⟨rfl, rfl⟩ ⟨(by (try simp only [rmc_L_law, rms_L_law, rmc_X11_init, rms_X11_init, rmc_X12_init, rms_X12_init, rmc_X11_image, rms_X11_image]); omega), (by (try simp only [rmc_L_law, rms_L_law, rmc_X11_init, rms_X11_init, rmc_X12_init, rms_X12_init, rmc_X11_image, rms_X11_image]); omega)⟩ dL_law_254 ?_
      refine g_icmp_eq 1575 dL_law_257 (by decide) (fun c49 => ?_) (fun c49 => ?_)
      · replace hF := q_t c49 hF
        refine g_iinc [(3, .int (a3 + 6)), (0, .ref a0), (1, .ref a1), (2, .ref a2)] 3 dL_law_1575 rfl (congrArg (a3 + ·) lt_iconst_6) (Nat.le_of_ble_eq_true rfl) rfl ?_
        refine g_goto 18 dL_law_1578 (by decide) ?_
        cases hF
        refine g_widen (k1 := k + 73) (j1 := j + 2724) (by (try simp only [rmc_L_law, rms_L_law, rmc_X11_init, rms_X11_init, rmc_X12_init, rms_X12_init, rmc_X11_image, rms_X11_image]); omega) (by (try simp only [rmc_L_law, rms_L_law, rmc_X11_init, rms_X11_init, rmc_X12_init, rms_X12_init, rmc_X11_image, rms_X11_image]); omega) ?_
        refine g_sub [1, 2, 3, 0] rfl ?_
        exact hback _ _ _ rfl
      · replace hF := q_f c49 hF
        cases hF
        refine g_widen (k1 := k + 73) (j1 := j + 2724) (by (try simp only [rmc_L_law, rms_L_law, rmc_X11_init, rms_X11_init, rmc_X12_init, rms_X12_init, rmc_X11_image, rms_X11_image]); omega) (by (try simp only [rmc_L_law, rms_L_law, rmc_X11_init, rms_X11_init, rmc_X12_init, rms_X12_init, rmc_X11_image, rms_X11_image]); omega) ?_
        refine g_sub [] rfl ?_
        exact hx1 _ _ rfl
    replace hF := q_f c36 hF
    by_cases c50 : (x4 &&& (31 : Int32)) = 2
    · replace hF := q_t c50 hF
      refine g_tabIn (off := 229) 262 dL_law_33 (by rw [c50]; decide) (by rw [c50]; decide) (by rw [c50]; decide) (by decide) ?_
      refine g_aload_n 1 dL_law_262 rfl ?_
      refine g_aload_n 0 dL_law_263 rfl ?_
      refine g_iload_n 3 dL_law_264 rfl ?_
      refine g_iconst dL_law_265 lt_iconst_1 ?_
      refine g_iadd dL_law_266 ?_
      obtain ⟨x51, e52, hF⟩ := q_bind hF
      refine g_iald e52 dL_law_267 ?_
      refine g_aload_n 0 dL_law_268 rfl ?_
      refine g_iload_n 3 dL_law_269 rfl ?_
      refine g_iconst dL_law_270 lt_iconst_2 ?_
      refine g_iadd dL_law_271 ?_
      obtain ⟨x53, e54, hF⟩ := q_bind hF
      refine g_iald e54 dL_law_272 ?_
      obtain ⟨u55, e56, hF⟩ := q_bind hF
      obtain ⟨x57, e58, hF⟩ := q_bind hF
      refine g_callVr0 (ci := 11) (q := (RX11, TX11, 8)) qm_X11_text wd_553 wd_554 wd_555 rfl e56 (M_X11_text l b D z nx e58) (As := [.int x51, .int x53]) rfl rfl (Nat.le_of_ble_eq_true rfl) ⟨(Nat.le_of_ble_eq_true rfl), (Nat.le_of_ble_eq_true rfl)⟩ ⟨rfl, rfl⟩ ⟨(by (try simp only [rmc_L_law, rms_L_law, rmc_X11_init, rms_X11_init, rmc_X12_init, rms_X12_init, rmc_X11_image, rms_X11_image]); omega), (by (try simp only [rmc_L_law, rms_L_law, rmc_X11_init, rms_X11_init, rmc_X12_init, rms_X12_init, rmc_X11_image, rms_X11_image]); omega)⟩ dL_law_273 ?_
      refine g_aload_n 2 dL_law_276 rfl ?_
      refine g_aload_n 0 dL_law_277 rfl ?_
      refine g_iload_n 3 dL_law_278 rfl ?_
      refine g_iconst dL_law_279 lt_iconst_1 ?_
      refine g_iadd dL_law_280 ?_
      obtain ⟨x59, e60, hF⟩ := q_bind hF
      refine g_iald e60 dL_law_281 ?_
      refine g_aload_n 0 dL_law_282 rfl ?_
      refine g_iload_n 3 dL_law_283 rfl ?_
      refine g_iconst dL_law_284 lt_iconst_2 ?_
      refine g_iadd dL_law_285 ?_
      obtain ⟨x61, e62, hF⟩ := q_bind hF
      refine g_iald e62 dL_law_286 ?_
      obtain ⟨u63, e64, hF⟩ := q_bind hF
      obtain ⟨x65, e66, hF⟩ := q_bind hF
      refine g_callVr0 (ci := 12) (q := (RX12, TX12, 49)) qm_X12_text wd_1626 wd_1627 wd_1628 rfl e64 (M_X12_text l b D z nx e66) (As := [.int x59, .int x61]) rfl rfl (Nat.le_of_ble_eq_true rfl) ⟨(Nat.le_of_ble_eq_true rfl), (Nat.le_of_ble_eq_true rfl)⟩ ⟨rfl, rfl⟩ ⟨(by (try simp only [rmc_L_law, rms_L_law, rmc_X11_init, rms_X11_init, rmc_X12_init, rms_X12_init, rmc_X11_image, rms_X11_image]); omega), (by (try simp only [rmc_L_law, rms_L_law, rmc_X11_init, rms_X11_init, rmc_X12_init, rms_X12_init, rmc_X11_image, rms_X11_image]); omega)⟩ dL_law_287 ?_
      refine g_icmp_eq 1575 dL_law_290 (by decide) (fun c67 => ?_) (fun c67 => ?_)
      · replace hF := q_t c67 hF
        refine g_iinc [(3, .int (a3 + 6)), (0, .ref a0), (1, .ref a1), (2, .ref a2)] 3 dL_law_1575 rfl (congrArg (a3 + ·) lt_iconst_6) (Nat.le_of_ble_eq_true rfl) rfl ?_
        refine g_goto 18 dL_law_1578 (by decide) ?_
        cases hF
        refine g_widen (k1 := k + 73) (j1 := j + 2724) (by (try simp only [rmc_L_law, rms_L_law, rmc_X11_init, rms_X11_init, rmc_X12_init, rms_X12_init, rmc_X11_image, rms_X11_image]); omega) (by (try simp only [rmc_L_law, rms_L_law, rmc_X11_init, rms_X11_init, rmc_X12_init, rms_X12_init, rmc_X11_image, rms_X11_image]); omega) ?_
        refine g_sub [1, 2, 3, 0] rfl ?_
        exact hback _ _ _ rfl
      · replace hF := q_f c67 hF
        cases hF
        refine g_widen (k1 := k + 73) (j1 := j + 2724) (by (try simp only [rmc_L_law, rms_L_law, rmc_X11_init, rms_X11_init, rmc_X12_init, rms_X12_init, rmc_X11_image, rms_X11_image]); omega) (by (try simp only [rmc_L_law, rms_L_law, rmc_X11_init, rms_X11_init, rmc_X12_init, rms_X12_init, rmc_X11_image, rms_X11_image]); omega) ?_
        refine g_sub [] rfl ?_
        exact hx2 _ _ rfl
    replace hF := q_f c50 hF
    by_cases c68 : (x4 &&& (31 : Int32)) = 3
    · replace hF := q_t c68 hF
      refine g_tabIn (off := 262) 295 dL_law_33 (by rw [c68]; decide) (by rw [c68]; decide) (by rw [c68]; decide) (by decide) ?_
      refine g_aload_n 1 dL_law_295 rfl ?_
      refine g_aload_n 0 dL_law_296 rfl ?_
      refine g_iload_n 3 dL_law_297 rfl ?_
      refine g_iconst dL_law_298 lt_iconst_1 ?_
      refine g_iadd dL_law_299 ?_
      obtain ⟨x69, e70, hF⟩ := q_bind hF
      refine g_iald e70 dL_law_300 ?_
      obtain ⟨u71, e72, hF⟩ := q_bind hF
      obtain ⟨x73, e74, hF⟩ := q_bind hF
      refine g_callVr0 (ci := 11) (q := (RX11, TX11, 8)) qm_X11_fault wd_850 wd_851 wd_852 rfl e72 (M_X11_fault l b D z nx e74) (As := [.int x69]) rfl rfl (Nat.le_of_ble_eq_true rfl) ⟨(Nat.le_of_ble_eq_true rfl), (Nat.le_of_ble_eq_true rfl)⟩ ⟨rfl, rfl⟩ ⟨(by (try simp only [rmc_L_law, rms_L_law, rmc_X11_init, rms_X11_init, rmc_X12_init, rms_X12_init, rmc_X11_image, rms_X11_image]); omega), (by (try simp only [rmc_L_law, rms_L_law, rmc_X11_init, rms_X11_init, rmc_X12_init, rms_X12_init, rmc_X11_image, rms_X11_image]); omega)⟩ dL_law_301 ?_
      refine g_aload_n 2 dL_law_304 rfl ?_
      refine g_aload_n 0 dL_law_305 rfl ?_
      refine g_iload_n 3 dL_law_306 rfl ?_
      refine g_iconst dL_law_307 lt_iconst_1 ?_
      refine g_iadd dL_law_308 ?_
      obtain ⟨x75, e76, hF⟩ := q_bind hF
      refine g_iald e76 dL_law_309 ?_
      obtain ⟨u77, e78, hF⟩ := q_bind hF
      obtain ⟨x79, e80, hF⟩ := q_bind hF
      refine g_callVr0 (ci := 12) (q := (RX12, TX12, 49)) qm_X12_fault wd_1742 wd_1743 wd_1744 rfl e78 (M_X12_fault l b D z nx e80) (As := [.int x75]) rfl rfl (Nat.le_of_ble_eq_true rfl) ⟨(Nat.le_of_ble_eq_true rfl), (Nat.le_of_ble_eq_true rfl)⟩ ⟨rfl, rfl⟩ ⟨(by (try simp only [rmc_L_law, rms_L_law, rmc_X11_init, rms_X11_init, rmc_X12_init, rms_X12_init, rmc_X11_image, rms_X11_image]); omega), (by (try simp only [rmc_L_law, rms_L_law, rmc_X11_init, rms_X11_init, rmc_X12_init, rms_X12_init, rmc_X11_image, rms_X11_image]); omega)⟩ dL_law_310 ?_
      refine g_icmp_eq 1575 dL_law_313 (by decide) (fun c81 => ?_) (fun c81 => ?_)
      · replace hF := q_t c81 hF
        refine g_iinc [(3, .int (a3 + 6)), (0, .ref a0), (1, .ref a1), (2, .ref a2)] 3 dL_law_1575 rfl (congrArg (a3 + ·) lt_iconst_6) (Nat.le_of_ble_eq_true rfl) rfl ?_
        refine g_goto 18 dL_law_1578 (by decide) ?_
        cases hF
        refine g_widen (k1 := k + 73) (j1 := j + 2724) (by (try simp only [rmc_L_law, rms_L_law, rmc_X11_init, rms_X11_init, rmc_X12_init, rms_X12_init, rmc_X11_image, rms_X11_image]); omega) (by (try simp only [rmc_L_law, rms_L_law, rmc_X11_init, rms_X11_init, rmc_X12_init, rms_X12_init, rmc_X11_image, rms_X11_image]); omega) ?_
        refine g_sub [1, 2, 3, 0] rfl ?_
        exact hback _ _ _ rfl
      · replace hF := q_f c81 hF
        cases hF
        refine g_widen (k1 := k + 73) (j1 := j + 2724) (by (try simp only [rmc_L_law, rms_L_law, rmc_X11_init, rms_X11_init, rmc_X12_init, rms_X12_init, rmc_X11_image, rms_X11_image]); omega) (by (try simp only [rmc_L_law, rms_L_law, rmc_X11_init, rms_X11_init, rmc_X12_init, rms_X12_init, rmc_X11_image, rms_X11_image]); omega) ?_
        refine g_sub [] rfl ?_
        exact hx3 _ _ rfl
    replace hF := q_f c68 hF
    by_cases c82 : (x4 &&& (31 : Int32)) = 4
    · replace hF := q_t c82 hF
      refine g_tabIn (off := 285) 318 dL_law_33 (by rw [c82]; decide) (by rw [c82]; decide) (by rw [c82]; decide) (by decide) ?_
      refine g_aload_n 1 dL_law_318 rfl ?_
      refine g_aload_n 0 dL_law_319 rfl ?_
      refine g_iload_n 3 dL_law_320 rfl ?_
      refine g_iconst dL_law_321 lt_iconst_1 ?_
      refine g_iadd dL_law_322 ?_
      obtain ⟨x83, e84, hF⟩ := q_bind hF
      refine g_iald e84 dL_law_323 ?_
      refine g_aload_n 0 dL_law_324 rfl ?_
      refine g_iload_n 3 dL_law_325 rfl ?_
      refine g_iconst dL_law_326 lt_iconst_2 ?_
      refine g_iadd dL_law_327 ?_
      obtain ⟨x85, e86, hF⟩ := q_bind hF
      refine g_iald e86 dL_law_328 ?_
      obtain ⟨u87, e88, hF⟩ := q_bind hF
      obtain ⟨x89, e90, hF⟩ := q_bind hF
      refine g_callVr0 (ci := 11) (q := (RX11, TX11, 8)) qm_X11_book wd_854 wd_855 wd_856 rfl e88 (M_X11_book l b D z nx e90) (As := [.int x83, .int x85]) rfl rfl (Nat.le_of_ble_eq_true rfl) ⟨(Nat.le_of_ble_eq_true rfl), (Nat.le_of_ble_eq_true rfl)⟩ ⟨rfl, rfl⟩ ⟨(by (try simp only [rmc_L_law, rms_L_law, rmc_X11_init, rms_X11_init, rmc_X12_init, rms_X12_init, rmc_X11_image, rms_X11_image]); omega), (by (try simp only [rmc_L_law, rms_L_law, rmc_X11_init, rms_X11_init, rmc_X12_init, rms_X12_init, rmc_X11_image, rms_X11_image]); omega)⟩ dL_law_329 ?_
      refine g_aload_n 2 dL_law_332 rfl ?_
      refine g_aload_n 0 dL_law_333 rfl ?_
      refine g_iload_n 3 dL_law_334 rfl ?_
      refine g_iconst dL_law_335 lt_iconst_1 ?_
      refine g_iadd dL_law_336 ?_
      obtain ⟨x91, e92, hF⟩ := q_bind hF
      refine g_iald e92 dL_law_337 ?_
      refine g_aload_n 0 dL_law_338 rfl ?_
      refine g_iload_n 3 dL_law_339 rfl ?_
      refine g_iconst dL_law_340 lt_iconst_2 ?_
      refine g_iadd dL_law_341 ?_
      obtain ⟨x93, e94, hF⟩ := q_bind hF
      refine g_iald e94 dL_law_342 ?_
      obtain ⟨u95, e96, hF⟩ := q_bind hF
      obtain ⟨x97, e98, hF⟩ := q_bind hF
      refine g_callVr0 (ci := 12) (q := (RX12, TX12, 49)) qm_X12_book wd_1746 wd_1747 wd_1748 rfl e96 (M_X12_book l b D z nx e98) (As := [.int x91, .int x93]) rfl rfl (Nat.le_of_ble_eq_true rfl) ⟨(Nat.le_of_ble_eq_true rfl), (Nat.le_of_ble_eq_true rfl)⟩ ⟨rfl, rfl⟩ ⟨(by (try simp only [rmc_L_law, rms_L_law, rmc_X11_init, rms_X11_init, rmc_X12_init, rms_X12_init, rmc_X11_image, rms_X11_image]); omega), (by (try simp only [rmc_L_law, rms_L_law, rmc_X11_init, rms_X11_init, rmc_X12_init, rms_X12_init, rmc_X11_image, rms_X11_image]); omega)⟩ dL_law_343 ?_
      refine g_icmp_eq 1575 dL_law_346 (by decide) (fun c99 => ?_) (fun c99 => ?_)
      · replace hF := q_t c99 hF
        refine g_iinc [(3, .int (a3 + 6)), (0, .ref a0), (1, .ref a1), (2, .ref a2)] 3 dL_law_1575 rfl (congrArg (a3 + ·) lt_iconst_6) (Nat.le_of_ble_eq_true rfl) rfl ?_
        refine g_goto 18 dL_law_1578 (by decide) ?_
        cases hF
        refine g_widen (k1 := k + 73) (j1 := j + 2724) (by (try simp only [rmc_L_law, rms_L_law, rmc_X11_init, rms_X11_init, rmc_X12_init, rms_X12_init, rmc_X11_image, rms_X11_image]); omega) (by (try simp only [rmc_L_law, rms_L_law, rmc_X11_init, rms_X11_init, rmc_X12_init, rms_X12_init, rmc_X11_image, rms_X11_image]); omega) ?_
        refine g_sub [1, 2, 3, 0] rfl ?_
        exact hback _ _ _ rfl
      · replace hF := q_f c99 hF
        cases hF
        refine g_widen (k1 := k + 73) (j1 := j + 2724) (by (try simp only [rmc_L_law, rms_L_law, rmc_X11_init, rms_X11_init, rmc_X12_init, rms_X12_init, rmc_X11_image, rms_X11_image]); omega) (by (try simp only [rmc_L_law, rms_L_law, rmc_X11_init, rms_X11_init, rmc_X12_init, rms_X12_init, rmc_X11_image, rms_X11_image]); omega) ?_
        refine g_sub [] rfl ?_
        exact hx4 _ _ rfl
    replace hF := q_f c82 hF
    by_cases c100 : (x4 &&& (31 : Int32)) = 5
    · replace hF := q_t c100 hF
      refine g_tabIn (off := 318) 351 dL_law_33 (by rw [c100]; decide) (by rw [c100]; decide) (by rw [c100]; decide) (by decide) ?_
      refine g_aload_n 1 dL_law_351 rfl ?_
      refine g_aload_n 0 dL_law_352 rfl ?_
      refine g_iload_n 3 dL_law_353 rfl ?_
      refine g_iconst dL_law_354 lt_iconst_1 ?_
      refine g_iadd dL_law_355 ?_
      obtain ⟨x101, e102, hF⟩ := q_bind hF
      refine g_iald e102 dL_law_356 ?_
      refine g_aload_n 0 dL_law_357 rfl ?_
      refine g_iload_n 3 dL_law_358 rfl ?_
      refine g_iconst dL_law_359 lt_iconst_2 ?_
      refine g_iadd dL_law_360 ?_
      obtain ⟨x103, e104, hF⟩ := q_bind hF
      refine g_iald e104 dL_law_361 ?_
      refine g_aload_n 0 dL_law_362 rfl ?_
      refine g_iload_n 3 dL_law_363 rfl ?_
      refine g_iconst dL_law_364 lt_iconst_3 ?_
      refine g_iadd dL_law_365 ?_
      obtain ⟨x105, e106, hF⟩ := q_bind hF
      refine g_iald e106 dL_law_366 ?_
      obtain ⟨u107, e108, hF⟩ := q_bind hF
      obtain ⟨x109, e110, hF⟩ := q_bind hF
      refine g_callVr0 (ci := 11) (q := (RX11, TX11, 8)) qm_X11_follower wd_875 wd_876 wd_877 rfl e108 (M_X11_follower l b D z nx e110) (As := [.int x101, .int x103, .int x105]) rfl rfl (Nat.le_of_ble_eq_true rfl) ⟨(Nat.le_of_ble_eq_true rfl), (Nat.le_of_ble_eq_true rfl)⟩ ⟨rfl, rfl⟩ ⟨(by (try simp only [rmc_L_law, rms_L_law, rmc_X11_init, rms_X11_init, rmc_X12_init, rms_X12_init, rmc_X11_image, rms_X11_image]); omega), (by (try simp only [rmc_L_law, rms_L_law, rmc_X11_init, rms_X11_init, rmc_X12_init, rms_X12_init, rmc_X11_image, rms_X11_image]); omega)⟩ dL_law_367 ?_
      refine g_aload_n 2 dL_law_370 rfl ?_
      refine g_aload_n 0 dL_law_371 rfl ?_
      refine g_iload_n 3 dL_law_372 rfl ?_
      refine g_iconst dL_law_373 lt_iconst_1 ?_
      refine g_iadd dL_law_374 ?_
      obtain ⟨x111, e112, hF⟩ := q_bind hF
      refine g_iald e112 dL_law_375 ?_
      refine g_aload_n 0 dL_law_376 rfl ?_
      refine g_iload_n 3 dL_law_377 rfl ?_
      refine g_iconst dL_law_378 lt_iconst_2 ?_
      refine g_iadd dL_law_379 ?_
      obtain ⟨x113, e114, hF⟩ := q_bind hF
      refine g_iald e114 dL_law_380 ?_
      refine g_aload_n 0 dL_law_381 rfl ?_
      refine g_iload_n 3 dL_law_382 rfl ?_
      refine g_iconst dL_law_383 lt_iconst_3 ?_
      refine g_iadd dL_law_384 ?_
      obtain ⟨x115, e116, hF⟩ := q_bind hF
      refine g_iald e116 dL_law_385 ?_
      obtain ⟨u117, e118, hF⟩ := q_bind hF
      obtain ⟨x119, e120, hF⟩ := q_bind hF
      refine g_callVr0 (ci := 12) (q := (RX12, TX12, 49)) qm_X12_follower wd_1777 wd_1778 wd_1779 rfl e118 (M_X12_follower l b D z nx e120) (As := [.int x111, .int x113, .int x115]) rfl rfl (Nat.le_of_ble_eq_true rfl) ⟨(Nat.le_of_ble_eq_true rfl), (Nat.le_of_ble_eq_true rfl)⟩ ⟨rfl, rfl⟩ ⟨(by (try simp only [rmc_L_law, rms_L_law, rmc_X11_init, rms_X11_init, rmc_X12_init, rms_X12_init, rmc_X11_image, rms_X11_image]); omega), (by (try simp only [rmc_L_law, rms_L_law, rmc_X11_init, rms_X11_init, rmc_X12_init, rms_X12_init, rmc_X11_image, rms_X11_image]); omega)⟩ dL_law_386 ?_
      refine g_icmp_eq 1575 dL_law_389 (by decide) (fun c121 => ?_) (fun c121 => ?_)
      · replace hF := q_t c121 hF
        refine g_iinc [(3, .int (a3 + 6)), (0, .ref a0), (1, .ref a1), (2, .ref a2)] 3 dL_law_1575 rfl (congrArg (a3 + ·) lt_iconst_6) (Nat.le_of_ble_eq_true rfl) rfl ?_
        refine g_goto 18 dL_law_1578 (by decide) ?_
        cases hF
        refine g_widen (k1 := k + 73) (j1 := j + 2724) (by (try simp only [rmc_L_law, rms_L_law, rmc_X11_init, rms_X11_init, rmc_X12_init, rms_X12_init, rmc_X11_image, rms_X11_image]); omega) (by (try simp only [rmc_L_law, rms_L_law, rmc_X11_init, rms_X11_init, rmc_X12_init, rms_X12_init, rmc_X11_image, rms_X11_image]); omega) ?_
        refine g_sub [1, 2, 3, 0] rfl ?_
        exact hback _ _ _ rfl
      · replace hF := q_f c121 hF
        cases hF
        refine g_widen (k1 := k + 73) (j1 := j + 2724) (by (try simp only [rmc_L_law, rms_L_law, rmc_X11_init, rms_X11_init, rmc_X12_init, rms_X12_init, rmc_X11_image, rms_X11_image]); omega) (by (try simp only [rmc_L_law, rms_L_law, rmc_X11_init, rms_X11_init, rmc_X12_init, rms_X12_init, rmc_X11_image, rms_X11_image]); omega) ?_
        refine g_sub [] rfl ?_
        exact hx5 _ _ rfl
    replace hF := q_f c100 hF
    by_cases c122 : (x4 &&& (31 : Int32)) = 6
    · replace hF := q_t c122 hF
      refine g_tabIn (off := 361) 394 dL_law_33 (by rw [c122]; decide) (by rw [c122]; decide) (by rw [c122]; decide) (by decide) ?_
      refine g_aload_n 1 dL_law_394 rfl ?_
      refine g_aload_n 0 dL_law_395 rfl ?_
      refine g_iload_n 3 dL_law_396 rfl ?_
      refine g_iconst dL_law_397 lt_iconst_1 ?_
      refine g_iadd dL_law_398 ?_
      obtain ⟨x123, e124, hF⟩ := q_bind hF
      refine g_iald e124 dL_law_399 ?_
      refine g_aload_n 0 dL_law_400 rfl ?_
      refine g_iload_n 3 dL_law_401 rfl ?_
      refine g_iconst dL_law_402 lt_iconst_2 ?_
      refine g_iadd dL_law_403 ?_
      obtain ⟨x125, e126, hF⟩ := q_bind hF
      refine g_iald e126 dL_law_404 ?_
      refine g_aload_n 0 dL_law_405 rfl ?_
      refine g_iload_n 3 dL_law_406 rfl ?_
      refine g_iconst dL_law_407 lt_iconst_3 ?_
      refine g_iadd dL_law_408 ?_
      obtain ⟨x127, e128, hF⟩ := q_bind hF
      refine g_iald e128 dL_law_409 ?_
      obtain ⟨u129, e130, hF⟩ := q_bind hF
      obtain ⟨x131, e132, hF⟩ := q_bind hF
      refine g_callVr0 (ci := 11) (q := (RX11, TX11, 8)) qm_X11_deed wd_880 wd_881 wd_882 rfl e130 (M_X11_deed l b D z nx e132) (As := [.int x123, .int x125, .int x127]) rfl rfl (Nat.le_of_ble_eq_true rfl) ⟨(Nat.le_of_ble_eq_true rfl), (Nat.le_of_ble_eq_true rfl)⟩ ⟨rfl, rfl⟩ ⟨(by (try simp only [rmc_L_law, rms_L_law, rmc_X11_init, rms_X11_init, rmc_X12_init, rms_X12_init, rmc_X11_image, rms_X11_image]); omega), (by (try simp only [rmc_L_law, rms_L_law, rmc_X11_init, rms_X11_init, rmc_X12_init, rms_X12_init, rmc_X11_image, rms_X11_image]); omega)⟩ dL_law_410 ?_
      refine g_aload_n 2 dL_law_413 rfl ?_
      refine g_aload_n 0 dL_law_414 rfl ?_
      refine g_iload_n 3 dL_law_415 rfl ?_
      refine g_iconst dL_law_416 lt_iconst_1 ?_
      refine g_iadd dL_law_417 ?_
      obtain ⟨x133, e134, hF⟩ := q_bind hF
      refine g_iald e134 dL_law_418 ?_
      refine g_aload_n 0 dL_law_419 rfl ?_
      refine g_iload_n 3 dL_law_420 rfl ?_
      refine g_iconst dL_law_421 lt_iconst_2 ?_
      refine g_iadd dL_law_422 ?_
      obtain ⟨x135, e136, hF⟩ := q_bind hF
      refine g_iald e136 dL_law_423 ?_
      refine g_aload_n 0 dL_law_424 rfl ?_
      refine g_iload_n 3 dL_law_425 rfl ?_
      refine g_iconst dL_law_426 lt_iconst_3 ?_
      refine g_iadd dL_law_427 ?_
      obtain ⟨x137, e138, hF⟩ := q_bind hF
      refine g_iald e138 dL_law_428 ?_
      obtain ⟨u139, e140, hF⟩ := q_bind hF
      obtain ⟨x141, e142, hF⟩ := q_bind hF
      refine g_callVr0 (ci := 12) (q := (RX12, TX12, 49)) qm_X12_deed wd_1781 wd_1782 wd_1783 rfl e140 (M_X12_deed l b D z nx e142) (As := [.int x133, .int x135, .int x137]) rfl rfl (Nat.le_of_ble_eq_true rfl) ⟨(Nat.le_of_ble_eq_true rfl), (Nat.le_of_ble_eq_true rfl)⟩ ⟨rfl, rfl⟩ ⟨(by (try simp only [rmc_L_law, rms_L_law, rmc_X11_init, rms_X11_init, rmc_X12_init, rms_X12_init, rmc_X11_image, rms_X11_image]); omega), (by (try simp only [rmc_L_law, rms_L_law, rmc_X11_init, rms_X11_init, rmc_X12_init, rms_X12_init, rmc_X11_image, rms_X11_image]); omega)⟩ dL_law_429 ?_
      refine g_icmp_eq 1575 dL_law_432 (by decide) (fun c143 => ?_) (fun c143 => ?_)
      · replace hF := q_t c143 hF
        refine g_iinc [(3, .int (a3 + 6)), (0, .ref a0), (1, .ref a1), (2, .ref a2)] 3 dL_law_1575 rfl (congrArg (a3 + ·) lt_iconst_6) (Nat.le_of_ble_eq_true rfl) rfl ?_
        refine g_goto 18 dL_law_1578 (by decide) ?_
        cases hF
        refine g_widen (k1 := k + 73) (j1 := j + 2724) (by (try simp only [rmc_L_law, rms_L_law, rmc_X11_init, rms_X11_init, rmc_X12_init, rms_X12_init, rmc_X11_image, rms_X11_image]); omega) (by (try simp only [rmc_L_law, rms_L_law, rmc_X11_init, rms_X11_init, rmc_X12_init, rms_X12_init, rmc_X11_image, rms_X11_image]); omega) ?_
        refine g_sub [1, 2, 3, 0] rfl ?_
        exact hback _ _ _ rfl
      · replace hF := q_f c143 hF
        cases hF
        refine g_widen (k1 := k + 73) (j1 := j + 2724) (by (try simp only [rmc_L_law, rms_L_law, rmc_X11_init, rms_X11_init, rmc_X12_init, rms_X12_init, rmc_X11_image, rms_X11_image]); omega) (by (try simp only [rmc_L_law, rms_L_law, rmc_X11_init, rms_X11_init, rmc_X12_init, rms_X12_init, rmc_X11_image, rms_X11_image]); omega) ?_
        refine g_sub [] rfl ?_
        exact hx6 _ _ rfl
    replace hF := q_f c122 hF
    by_cases c144 : (x4 &&& (31 : Int32)) = 7
    · replace hF := q_t c144 hF
      refine g_tabIn (off := 404) 437 dL_law_33 (by rw [c144]; decide) (by rw [c144]; decide) (by rw [c144]; decide) (by decide) ?_
      refine g_aload_n 1 dL_law_437 rfl ?_
      refine g_aload_n 0 dL_law_438 rfl ?_
      refine g_iload_n 3 dL_law_439 rfl ?_
      refine g_iconst dL_law_440 lt_iconst_1 ?_
      refine g_iadd dL_law_441 ?_
      obtain ⟨x145, e146, hF⟩ := q_bind hF
      refine g_iald e146 dL_law_442 ?_
      refine g_aload_n 0 dL_law_443 rfl ?_
      refine g_iload_n 3 dL_law_444 rfl ?_
      refine g_iconst dL_law_445 lt_iconst_2 ?_
      refine g_iadd dL_law_446 ?_
      obtain ⟨x147, e148, hF⟩ := q_bind hF
      refine g_iald e148 dL_law_447 ?_
      obtain ⟨u149, e150, hF⟩ := q_bind hF
      obtain ⟨x151, e152, hF⟩ := q_bind hF
      refine g_callVr0 (ci := 11) (q := (RX11, TX11, 8)) qm_X11_till wd_901 wd_902 wd_903 rfl e150 (M_X11_till l b D z nx e152) (As := [.int x145, .int x147]) rfl rfl (Nat.le_of_ble_eq_true rfl) ⟨(Nat.le_of_ble_eq_true rfl), (Nat.le_of_ble_eq_true rfl)⟩ ⟨rfl, rfl⟩ ⟨(by (try simp only [rmc_L_law, rms_L_law, rmc_X11_init, rms_X11_init, rmc_X12_init, rms_X12_init, rmc_X11_image, rms_X11_image]); omega), (by (try simp only [rmc_L_law, rms_L_law, rmc_X11_init, rms_X11_init, rmc_X12_init, rms_X12_init, rmc_X11_image, rms_X11_image]); omega)⟩ dL_law_448 ?_
      refine g_aload_n 2 dL_law_451 rfl ?_
      refine g_aload_n 0 dL_law_452 rfl ?_
      refine g_iload_n 3 dL_law_453 rfl ?_
      refine g_iconst dL_law_454 lt_iconst_1 ?_
      refine g_iadd dL_law_455 ?_
      obtain ⟨x153, e154, hF⟩ := q_bind hF
      refine g_iald e154 dL_law_456 ?_
      refine g_aload_n 0 dL_law_457 rfl ?_
      refine g_iload_n 3 dL_law_458 rfl ?_
      refine g_iconst dL_law_459 lt_iconst_2 ?_
      refine g_iadd dL_law_460 ?_
      obtain ⟨x155, e156, hF⟩ := q_bind hF
      refine g_iald e156 dL_law_461 ?_
      obtain ⟨u157, e158, hF⟩ := q_bind hF
      obtain ⟨x159, e160, hF⟩ := q_bind hF
      refine g_callVr0 (ci := 12) (q := (RX12, TX12, 49)) qm_X12_till wd_1797 wd_1798 wd_1799 rfl e158 (M_X12_till l b D z nx e160) (As := [.int x153, .int x155]) rfl rfl (Nat.le_of_ble_eq_true rfl) ⟨(Nat.le_of_ble_eq_true rfl), (Nat.le_of_ble_eq_true rfl)⟩ ⟨rfl, rfl⟩ ⟨(by (try simp only [rmc_L_law, rms_L_law, rmc_X11_init, rms_X11_init, rmc_X12_init, rms_X12_init, rmc_X11_image, rms_X11_image]); omega), (by (try simp only [rmc_L_law, rms_L_law, rmc_X11_init, rms_X11_init, rmc_X12_init, rms_X12_init, rmc_X11_image, rms_X11_image]); omega)⟩ dL_law_462 ?_
      refine g_icmp_eq 1575 dL_law_465 (by decide) (fun c161 => ?_) (fun c161 => ?_)
      · replace hF := q_t c161 hF
        refine g_iinc [(3, .int (a3 + 6)), (0, .ref a0), (1, .ref a1), (2, .ref a2)] 3 dL_law_1575 rfl (congrArg (a3 + ·) lt_iconst_6) (Nat.le_of_ble_eq_true rfl) rfl ?_
        refine g_goto 18 dL_law_1578 (by decide) ?_
        cases hF
        refine g_widen (k1 := k + 73) (j1 := j + 2724) (by (try simp only [rmc_L_law, rms_L_law, rmc_X11_init, rms_X11_init, rmc_X12_init, rms_X12_init, rmc_X11_image, rms_X11_image]); omega) (by (try simp only [rmc_L_law, rms_L_law, rmc_X11_init, rms_X11_init, rmc_X12_init, rms_X12_init, rmc_X11_image, rms_X11_image]); omega) ?_
        refine g_sub [1, 2, 3, 0] rfl ?_
        exact hback _ _ _ rfl
      · replace hF := q_f c161 hF
        cases hF
        refine g_widen (k1 := k + 73) (j1 := j + 2724) (by (try simp only [rmc_L_law, rms_L_law, rmc_X11_init, rms_X11_init, rmc_X12_init, rms_X12_init, rmc_X11_image, rms_X11_image]); omega) (by (try simp only [rmc_L_law, rms_L_law, rmc_X11_init, rms_X11_init, rmc_X12_init, rms_X12_init, rmc_X11_image, rms_X11_image]); omega) ?_
        refine g_sub [] rfl ?_
        exact hx7 _ _ rfl
    replace hF := q_f c144 hF
    by_cases c162 : (x4 &&& (31 : Int32)) = 8
    · replace hF := q_t c162 hF
      refine g_tabIn (off := 437) 470 dL_law_33 (by rw [c162]; decide) (by rw [c162]; decide) (by rw [c162]; decide) (by decide) ?_
      refine g_aload_n 1 dL_law_470 rfl ?_
      refine g_aload_n 0 dL_law_471 rfl ?_
      refine g_iload_n 3 dL_law_472 rfl ?_
      refine g_iconst dL_law_473 lt_iconst_1 ?_
      refine g_iadd dL_law_474 ?_
      obtain ⟨x163, e164, hF⟩ := q_bind hF
      refine g_iald e164 dL_law_475 ?_
      refine g_aload_n 0 dL_law_476 rfl ?_
      refine g_iload_n 3 dL_law_477 rfl ?_
      refine g_iconst dL_law_478 lt_iconst_2 ?_
      refine g_iadd dL_law_479 ?_
      obtain ⟨x165, e166, hF⟩ := q_bind hF
      refine g_iald e166 dL_law_480 ?_
      refine g_aload_n 0 dL_law_481 rfl ?_
      refine g_iload_n 3 dL_law_482 rfl ?_
      refine g_iconst dL_law_483 lt_iconst_3 ?_
      refine g_iadd dL_law_484 ?_
      obtain ⟨x167, e168, hF⟩ := q_bind hF
      refine g_iald e168 dL_law_485 ?_
      refine g_aload_n 0 dL_law_486 rfl ?_
      refine g_iload_n 3 dL_law_487 rfl ?_
      refine g_iconst dL_law_488 lt_iconst_4 ?_
      refine g_iadd dL_law_489 ?_
      obtain ⟨x169, e170, hF⟩ := q_bind hF
      refine g_iald e170 dL_law_490 ?_
      obtain ⟨u171, e172, hF⟩ := q_bind hF
      obtain ⟨x173, e174, hF⟩ := q_bind hF
      refine g_callVr0 (ci := 11) (q := (RX11, TX11, 8)) qm_X11_state wd_963 wd_964 wd_965 rfl e172 (M_X11_state l b D z nx e174) (As := [.int x163, .int x165, .int x167, .int x169]) rfl rfl (Nat.le_of_ble_eq_true rfl) ⟨(Nat.le_of_ble_eq_true rfl), (Nat.le_of_ble_eq_true rfl)⟩ ⟨rfl, rfl⟩ ⟨(by (try simp only [rmc_L_law, rms_L_law, rmc_X11_init, rms_X11_init, rmc_X12_init, rms_X12_init, rmc_X11_image, rms_X11_image]); omega), (by (try simp only [rmc_L_law, rms_L_law, rmc_X11_init, rms_X11_init, rmc_X12_init, rms_X12_init, rmc_X11_image, rms_X11_image]); omega)⟩ dL_law_491 ?_
      refine g_aload_n 2 dL_law_494 rfl ?_
      refine g_aload_n 0 dL_law_495 rfl ?_
      refine g_iload_n 3 dL_law_496 rfl ?_
      refine g_iconst dL_law_497 lt_iconst_1 ?_
      refine g_iadd dL_law_498 ?_
      obtain ⟨x175, e176, hF⟩ := q_bind hF
      refine g_iald e176 dL_law_499 ?_
      refine g_aload_n 0 dL_law_500 rfl ?_
      refine g_iload_n 3 dL_law_501 rfl ?_
      refine g_iconst dL_law_502 lt_iconst_2 ?_
      refine g_iadd dL_law_503 ?_
      obtain ⟨x177, e178, hF⟩ := q_bind hF
      refine g_iald e178 dL_law_504 ?_
      refine g_aload_n 0 dL_law_505 rfl ?_
      refine g_iload_n 3 dL_law_506 rfl ?_
      refine g_iconst dL_law_507 lt_iconst_3 ?_
      refine g_iadd dL_law_508 ?_
      obtain ⟨x179, e180, hF⟩ := q_bind hF
      refine g_iald e180 dL_law_509 ?_
      refine g_aload_n 0 dL_law_510 rfl ?_
      refine g_iload_n 3 dL_law_511 rfl ?_
      refine g_iconst dL_law_512 lt_iconst_4 ?_
      refine g_iadd dL_law_513 ?_
      obtain ⟨x181, e182, hF⟩ := q_bind hF
      refine g_iald e182 dL_law_514 ?_
      obtain ⟨u183, e184, hF⟩ := q_bind hF
      obtain ⟨x185, e186, hF⟩ := q_bind hF
      refine g_callVr0 (ci := 12) (q := (RX12, TX12, 49)) qm_X12_state wd_1868 wd_1869 wd_1870 rfl e184 (M_X12_state l b D z nx e186) (As := [.int x175, .int x177, .int x179, .int x181]) rfl rfl (Nat.le_of_ble_eq_true rfl) ⟨(Nat.le_of_ble_eq_true rfl), (Nat.le_of_ble_eq_true rfl)⟩ ⟨rfl, rfl⟩ ⟨(by (try simp only [rmc_L_law, rms_L_law, rmc_X11_init, rms_X11_init, rmc_X12_init, rms_X12_init, rmc_X11_image, rms_X11_image]); omega), (by (try simp only [rmc_L_law, rms_L_law, rmc_X11_init, rms_X11_init, rmc_X12_init, rms_X12_init, rmc_X11_image, rms_X11_image]); omega)⟩ dL_law_515 ?_
      refine g_icmp_eq 1575 dL_law_518 (by decide) (fun c187 => ?_) (fun c187 => ?_)
      · replace hF := q_t c187 hF
        refine g_iinc [(3, .int (a3 + 6)), (0, .ref a0), (1, .ref a1), (2, .ref a2)] 3 dL_law_1575 rfl (congrArg (a3 + ·) lt_iconst_6) (Nat.le_of_ble_eq_true rfl) rfl ?_
        refine g_goto 18 dL_law_1578 (by decide) ?_
        cases hF
        refine g_widen (k1 := k + 73) (j1 := j + 2724) (by (try simp only [rmc_L_law, rms_L_law, rmc_X11_init, rms_X11_init, rmc_X12_init, rms_X12_init, rmc_X11_image, rms_X11_image]); omega) (by (try simp only [rmc_L_law, rms_L_law, rmc_X11_init, rms_X11_init, rmc_X12_init, rms_X12_init, rmc_X11_image, rms_X11_image]); omega) ?_
        refine g_sub [1, 2, 3, 0] rfl ?_
        exact hback _ _ _ rfl
      · replace hF := q_f c187 hF
        cases hF
        refine g_widen (k1 := k + 73) (j1 := j + 2724) (by (try simp only [rmc_L_law, rms_L_law, rmc_X11_init, rms_X11_init, rmc_X12_init, rms_X12_init, rmc_X11_image, rms_X11_image]); omega) (by (try simp only [rmc_L_law, rms_L_law, rmc_X11_init, rms_X11_init, rmc_X12_init, rms_X12_init, rmc_X11_image, rms_X11_image]); omega) ?_
        refine g_sub [] rfl ?_
        exact hx8 _ _ rfl
    replace hF := q_f c162 hF
    by_cases c188 : (x4 &&& (31 : Int32)) = 9
    · replace hF := q_t c188 hF
      refine g_tabIn (off := 490) 523 dL_law_33 (by rw [c188]; decide) (by rw [c188]; decide) (by rw [c188]; decide) (by decide) ?_
      refine g_aload_n 1 dL_law_523 rfl ?_
      refine g_aload_n 0 dL_law_524 rfl ?_
      refine g_iload_n 3 dL_law_525 rfl ?_
      refine g_iconst dL_law_526 lt_iconst_1 ?_
      refine g_iadd dL_law_527 ?_
      obtain ⟨x189, e190, hF⟩ := q_bind hF
      refine g_iald e190 dL_law_528 ?_
      refine g_aload_n 0 dL_law_529 rfl ?_
      refine g_iload_n 3 dL_law_530 rfl ?_
      refine g_iconst dL_law_531 lt_iconst_2 ?_
      refine g_iadd dL_law_532 ?_
      obtain ⟨x191, e192, hF⟩ := q_bind hF
      refine g_iald e192 dL_law_533 ?_
      refine g_aload_n 0 dL_law_534 rfl ?_
      refine g_iload_n 3 dL_law_535 rfl ?_
      refine g_iconst dL_law_536 lt_iconst_3 ?_
      refine g_iadd dL_law_537 ?_
      obtain ⟨x193, e194, hF⟩ := q_bind hF
      refine g_iald e194 dL_law_538 ?_
      refine g_aload_n 0 dL_law_539 rfl ?_
      refine g_iload_n 3 dL_law_540 rfl ?_
      refine g_iconst dL_law_541 lt_iconst_4 ?_
      refine g_iadd dL_law_542 ?_
      obtain ⟨x195, e196, hF⟩ := q_bind hF
      refine g_iald e196 dL_law_543 ?_
      obtain ⟨u197, e198, hF⟩ := q_bind hF
      obtain ⟨x199, e200, hF⟩ := q_bind hF
      refine g_callVr0 (ci := 11) (q := (RX11, TX11, 8)) qm_X11_avoid wd_976 wd_977 wd_978 rfl e198 (M_X11_avoid l b D z nx e200) (As := [.int x189, .int x191, .int x193, .int x195]) rfl rfl (Nat.le_of_ble_eq_true rfl) ⟨(Nat.le_of_ble_eq_true rfl), (Nat.le_of_ble_eq_true rfl)⟩ ⟨rfl, rfl⟩ ⟨(by (try simp only [rmc_L_law, rms_L_law, rmc_X11_init, rms_X11_init, rmc_X12_init, rms_X12_init, rmc_X11_image, rms_X11_image]); omega), (by (try simp only [rmc_L_law, rms_L_law, rmc_X11_init, rms_X11_init, rmc_X12_init, rms_X12_init, rmc_X11_image, rms_X11_image]); omega)⟩ dL_law_544 ?_
      refine g_aload_n 2 dL_law_547 rfl ?_
      refine g_aload_n 0 dL_law_548 rfl ?_
      refine g_iload_n 3 dL_law_549 rfl ?_
      refine g_iconst dL_law_550 lt_iconst_1 ?_
      refine g_iadd dL_law_551 ?_
      obtain ⟨x201, e202, hF⟩ := q_bind hF
      refine g_iald e202 dL_law_552 ?_
      refine g_aload_n 0 dL_law_553 rfl ?_
      refine g_iload_n 3 dL_law_554 rfl ?_
      refine g_iconst dL_law_555 lt_iconst_2 ?_
      refine g_iadd dL_law_556 ?_
      obtain ⟨x203, e204, hF⟩ := q_bind hF
      refine g_iald e204 dL_law_557 ?_
      refine g_aload_n 0 dL_law_558 rfl ?_
      refine g_iload_n 3 dL_law_559 rfl ?_
      refine g_iconst dL_law_560 lt_iconst_3 ?_
      refine g_iadd dL_law_561 ?_
      obtain ⟨x205, e206, hF⟩ := q_bind hF
      refine g_iald e206 dL_law_562 ?_
      refine g_aload_n 0 dL_law_563 rfl ?_
      refine g_iload_n 3 dL_law_564 rfl ?_
      refine g_iconst dL_law_565 lt_iconst_4 ?_
      refine g_iadd dL_law_566 ?_
      obtain ⟨x207, e208, hF⟩ := q_bind hF
      refine g_iald e208 dL_law_567 ?_
      obtain ⟨u209, e210, hF⟩ := q_bind hF
      obtain ⟨x211, e212, hF⟩ := q_bind hF
      refine g_callVr0 (ci := 12) (q := (RX12, TX12, 49)) qm_X12_avoid wd_1876 wd_1877 wd_1878 rfl e210 (M_X12_avoid l b D z nx e212) (As := [.int x201, .int x203, .int x205, .int x207]) rfl rfl (Nat.le_of_ble_eq_true rfl) ⟨(Nat.le_of_ble_eq_true rfl), (Nat.le_of_ble_eq_true rfl)⟩ ⟨rfl, rfl⟩ ⟨(by (try simp only [rmc_L_law, rms_L_law, rmc_X11_init, rms_X11_init, rmc_X12_init, rms_X12_init, rmc_X11_image, rms_X11_image]); omega), (by (try simp only [rmc_L_law, rms_L_law, rmc_X11_init, rms_X11_init, rmc_X12_init, rms_X12_init, rmc_X11_image, rms_X11_image]); omega)⟩ dL_law_568 ?_
      refine g_icmp_eq 1575 dL_law_571 (by decide) (fun c213 => ?_) (fun c213 => ?_)
      · replace hF := q_t c213 hF
        refine g_iinc [(3, .int (a3 + 6)), (0, .ref a0), (1, .ref a1), (2, .ref a2)] 3 dL_law_1575 rfl (congrArg (a3 + ·) lt_iconst_6) (Nat.le_of_ble_eq_true rfl) rfl ?_
        refine g_goto 18 dL_law_1578 (by decide) ?_
        cases hF
        refine g_widen (k1 := k + 73) (j1 := j + 2724) (by (try simp only [rmc_L_law, rms_L_law, rmc_X11_init, rms_X11_init, rmc_X12_init, rms_X12_init, rmc_X11_image, rms_X11_image]); omega) (by (try simp only [rmc_L_law, rms_L_law, rmc_X11_init, rms_X11_init, rmc_X12_init, rms_X12_init, rmc_X11_image, rms_X11_image]); omega) ?_
        refine g_sub [1, 2, 3, 0] rfl ?_
        exact hback _ _ _ rfl
      · replace hF := q_f c213 hF
        cases hF
        refine g_widen (k1 := k + 73) (j1 := j + 2724) (by (try simp only [rmc_L_law, rms_L_law, rmc_X11_init, rms_X11_init, rmc_X12_init, rms_X12_init, rmc_X11_image, rms_X11_image]); omega) (by (try simp only [rmc_L_law, rms_L_law, rmc_X11_init, rms_X11_init, rmc_X12_init, rms_X12_init, rmc_X11_image, rms_X11_image]); omega) ?_
        refine g_sub [] rfl ?_
        exact hx9 _ _ rfl
    replace hF := q_f c188 hF
    by_cases c214 : (x4 &&& (31 : Int32)) = 10
    · replace hF := q_t c214 hF
      refine g_tabIn (off := 543) 576 dL_law_33 (by rw [c214]; decide) (by rw [c214]; decide) (by rw [c214]; decide) (by decide) ?_
      refine g_aload_n 1 dL_law_576 rfl ?_
      refine g_aload_n 0 dL_law_577 rfl ?_
      refine g_iload_n 3 dL_law_578 rfl ?_
      refine g_iconst dL_law_579 lt_iconst_1 ?_
      refine g_iadd dL_law_580 ?_
      obtain ⟨x215, e216, hF⟩ := q_bind hF
      refine g_iald e216 dL_law_581 ?_
      refine g_aload_n 0 dL_law_582 rfl ?_
      refine g_iload_n 3 dL_law_583 rfl ?_
      refine g_iconst dL_law_584 lt_iconst_2 ?_
      refine g_iadd dL_law_585 ?_
      obtain ⟨x217, e218, hF⟩ := q_bind hF
      refine g_iald e218 dL_law_586 ?_
      refine g_aload_n 0 dL_law_587 rfl ?_
      refine g_iload_n 3 dL_law_588 rfl ?_
      refine g_iconst dL_law_589 lt_iconst_3 ?_
      refine g_iadd dL_law_590 ?_
      obtain ⟨x219, e220, hF⟩ := q_bind hF
      refine g_iald e220 dL_law_591 ?_
      obtain ⟨u221, e222, hF⟩ := q_bind hF
      obtain ⟨x223, e224, hF⟩ := q_bind hF
      refine g_callVr0 (ci := 11) (q := (RX11, TX11, 8)) qm_X11_soonest wd_1014 wd_1015 wd_1016 rfl e222 (M_X11_soonest l b D z nx e224) (As := [.int x215, .int x217, .int x219]) rfl rfl (Nat.le_of_ble_eq_true rfl) ⟨(Nat.le_of_ble_eq_true rfl), (Nat.le_of_ble_eq_true rfl)⟩ ⟨rfl, rfl⟩ ⟨(by (try simp only [rmc_L_law, rms_L_law, rmc_X11_init, rms_X11_init, rmc_X12_init, rms_X12_init, rmc_X11_image, rms_X11_image]); omega), (by (try simp only [rmc_L_law, rms_L_law, rmc_X11_init, rms_X11_init, rmc_X12_init, rms_X12_init, rmc_X11_image, rms_X11_image]); omega)⟩ dL_law_592 ?_
      refine g_aload_n 2 dL_law_595 rfl ?_
      refine g_aload_n 0 dL_law_596 rfl ?_
      refine g_iload_n 3 dL_law_597 rfl ?_
      refine g_iconst dL_law_598 lt_iconst_1 ?_
      refine g_iadd dL_law_599 ?_
      obtain ⟨x225, e226, hF⟩ := q_bind hF
      refine g_iald e226 dL_law_600 ?_
      refine g_aload_n 0 dL_law_601 rfl ?_
      refine g_iload_n 3 dL_law_602 rfl ?_
      refine g_iconst dL_law_603 lt_iconst_2 ?_
      refine g_iadd dL_law_604 ?_
      obtain ⟨x227, e228, hF⟩ := q_bind hF
      refine g_iald e228 dL_law_605 ?_
      refine g_aload_n 0 dL_law_606 rfl ?_
      refine g_iload_n 3 dL_law_607 rfl ?_
      refine g_iconst dL_law_608 lt_iconst_3 ?_
      refine g_iadd dL_law_609 ?_
      obtain ⟨x229, e230, hF⟩ := q_bind hF
      refine g_iald e230 dL_law_610 ?_
      obtain ⟨u231, e232, hF⟩ := q_bind hF
      obtain ⟨x233, e234, hF⟩ := q_bind hF
      refine g_callVr0 (ci := 12) (q := (RX12, TX12, 49)) qm_X12_soonest wd_1902 wd_1903 wd_1904 rfl e232 (M_X12_soonest l b D z nx e234) (As := [.int x225, .int x227, .int x229]) rfl rfl (Nat.le_of_ble_eq_true rfl) ⟨(Nat.le_of_ble_eq_true rfl), (Nat.le_of_ble_eq_true rfl)⟩ ⟨rfl, rfl⟩ ⟨(by (try simp only [rmc_L_law, rms_L_law, rmc_X11_init, rms_X11_init, rmc_X12_init, rms_X12_init, rmc_X11_image, rms_X11_image]); omega), (by (try simp only [rmc_L_law, rms_L_law, rmc_X11_init, rms_X11_init, rmc_X12_init, rms_X12_init, rmc_X11_image, rms_X11_image]); omega)⟩ dL_law_611 ?_
      refine g_icmp_eq 1575 dL_law_614 (by decide) (fun c235 => ?_) (fun c235 => ?_)
      · replace hF := q_t c235 hF
        refine g_iinc [(3, .int (a3 + 6)), (0, .ref a0), (1, .ref a1), (2, .ref a2)] 3 dL_law_1575 rfl (congrArg (a3 + ·) lt_iconst_6) (Nat.le_of_ble_eq_true rfl) rfl ?_
        refine g_goto 18 dL_law_1578 (by decide) ?_
        cases hF
        refine g_widen (k1 := k + 73) (j1 := j + 2724) (by (try simp only [rmc_L_law, rms_L_law, rmc_X11_init, rms_X11_init, rmc_X12_init, rms_X12_init, rmc_X11_image, rms_X11_image]); omega) (by (try simp only [rmc_L_law, rms_L_law, rmc_X11_init, rms_X11_init, rmc_X12_init, rms_X12_init, rmc_X11_image, rms_X11_image]); omega) ?_
        refine g_sub [1, 2, 3, 0] rfl ?_
        exact hback _ _ _ rfl
      · replace hF := q_f c235 hF
        cases hF
        refine g_widen (k1 := k + 73) (j1 := j + 2724) (by (try simp only [rmc_L_law, rms_L_law, rmc_X11_init, rms_X11_init, rmc_X12_init, rms_X12_init, rmc_X11_image, rms_X11_image]); omega) (by (try simp only [rmc_L_law, rms_L_law, rmc_X11_init, rms_X11_init, rmc_X12_init, rms_X12_init, rmc_X11_image, rms_X11_image]); omega) ?_
        refine g_sub [] rfl ?_
        exact hx10 _ _ rfl
    replace hF := q_f c214 hF
    by_cases c236 : (x4 &&& (31 : Int32)) = 11
    · replace hF := q_t c236 hF
      refine g_tabIn (off := 586) 619 dL_law_33 (by rw [c236]; decide) (by rw [c236]; decide) (by rw [c236]; decide) (by decide) ?_
      refine g_aload_n 1 dL_law_619 rfl ?_
      refine g_aload_n 0 dL_law_620 rfl ?_
      refine g_iload_n 3 dL_law_621 rfl ?_
      refine g_iconst dL_law_622 lt_iconst_1 ?_
      refine g_iadd dL_law_623 ?_
      obtain ⟨x237, e238, hF⟩ := q_bind hF
      refine g_iald e238 dL_law_624 ?_
      refine g_aload_n 0 dL_law_625 rfl ?_
      refine g_iload_n 3 dL_law_626 rfl ?_
      refine g_iconst dL_law_627 lt_iconst_2 ?_
      refine g_iadd dL_law_628 ?_
      obtain ⟨x239, e240, hF⟩ := q_bind hF
      refine g_iald e240 dL_law_629 ?_
      refine g_aload_n 0 dL_law_630 rfl ?_
      refine g_iload_n 3 dL_law_631 rfl ?_
      refine g_iconst dL_law_632 lt_iconst_3 ?_
      refine g_iadd dL_law_633 ?_
      obtain ⟨x241, e242, hF⟩ := q_bind hF
      refine g_iald e242 dL_law_634 ?_
      obtain ⟨u243, e244, hF⟩ := q_bind hF
      obtain ⟨x245, e246, hF⟩ := q_bind hF
      refine g_callVr0 (ci := 11) (q := (RX11, TX11, 8)) qm_X11_together wd_1029 wd_1030 wd_1031 rfl e244 (M_X11_together l b D z nx e246) (As := [.int x237, .int x239, .int x241]) rfl rfl (Nat.le_of_ble_eq_true rfl) ⟨(Nat.le_of_ble_eq_true rfl), (Nat.le_of_ble_eq_true rfl)⟩ ⟨rfl, rfl⟩ ⟨(by (try simp only [rmc_L_law, rms_L_law, rmc_X11_init, rms_X11_init, rmc_X12_init, rms_X12_init, rmc_X11_image, rms_X11_image]); omega), (by (try simp only [rmc_L_law, rms_L_law, rmc_X11_init, rms_X11_init, rmc_X12_init, rms_X12_init, rmc_X11_image, rms_X11_image]); omega)⟩ dL_law_635 ?_
      refine g_aload_n 2 dL_law_638 rfl ?_
      refine g_aload_n 0 dL_law_639 rfl ?_
      refine g_iload_n 3 dL_law_640 rfl ?_
      refine g_iconst dL_law_641 lt_iconst_1 ?_
      refine g_iadd dL_law_642 ?_
      obtain ⟨x247, e248, hF⟩ := q_bind hF
      refine g_iald e248 dL_law_643 ?_
      refine g_aload_n 0 dL_law_644 rfl ?_
      refine g_iload_n 3 dL_law_645 rfl ?_
      refine g_iconst dL_law_646 lt_iconst_2 ?_
      refine g_iadd dL_law_647 ?_
      obtain ⟨x249, e250, hF⟩ := q_bind hF
      refine g_iald e250 dL_law_648 ?_
      refine g_aload_n 0 dL_law_649 rfl ?_
      refine g_iload_n 3 dL_law_650 rfl ?_
      refine g_iconst dL_law_651 lt_iconst_3 ?_
      refine g_iadd dL_law_652 ?_
      obtain ⟨x251, e252, hF⟩ := q_bind hF
      refine g_iald e252 dL_law_653 ?_
      obtain ⟨u253, e254, hF⟩ := q_bind hF
      obtain ⟨x255, e256, hF⟩ := q_bind hF
      refine g_callVr0 (ci := 12) (q := (RX12, TX12, 49)) qm_X12_together wd_1910 wd_1911 wd_1912 rfl e254 (M_X12_together l b D z nx e256) (As := [.int x247, .int x249, .int x251]) rfl rfl (Nat.le_of_ble_eq_true rfl) ⟨(Nat.le_of_ble_eq_true rfl), (Nat.le_of_ble_eq_true rfl)⟩ ⟨rfl, rfl⟩ ⟨(by (try simp only [rmc_L_law, rms_L_law, rmc_X11_init, rms_X11_init, rmc_X12_init, rms_X12_init, rmc_X11_image, rms_X11_image]); omega), (by (try simp only [rmc_L_law, rms_L_law, rmc_X11_init, rms_X11_init, rmc_X12_init, rms_X12_init, rmc_X11_image, rms_X11_image]); omega)⟩ dL_law_654 ?_
      refine g_icmp_eq 1575 dL_law_657 (by decide) (fun c257 => ?_) (fun c257 => ?_)
      · replace hF := q_t c257 hF
        refine g_iinc [(3, .int (a3 + 6)), (0, .ref a0), (1, .ref a1), (2, .ref a2)] 3 dL_law_1575 rfl (congrArg (a3 + ·) lt_iconst_6) (Nat.le_of_ble_eq_true rfl) rfl ?_
        refine g_goto 18 dL_law_1578 (by decide) ?_
        cases hF
        refine g_widen (k1 := k + 73) (j1 := j + 2724) (by (try simp only [rmc_L_law, rms_L_law, rmc_X11_init, rms_X11_init, rmc_X12_init, rms_X12_init, rmc_X11_image, rms_X11_image]); omega) (by (try simp only [rmc_L_law, rms_L_law, rmc_X11_init, rms_X11_init, rmc_X12_init, rms_X12_init, rmc_X11_image, rms_X11_image]); omega) ?_
        refine g_sub [1, 2, 3, 0] rfl ?_
        exact hback _ _ _ rfl
      · replace hF := q_f c257 hF
        cases hF
        refine g_widen (k1 := k + 73) (j1 := j + 2724) (by (try simp only [rmc_L_law, rms_L_law, rmc_X11_init, rms_X11_init, rmc_X12_init, rms_X12_init, rmc_X11_image, rms_X11_image]); omega) (by (try simp only [rmc_L_law, rms_L_law, rmc_X11_init, rms_X11_init, rmc_X12_init, rms_X12_init, rmc_X11_image, rms_X11_image]); omega) ?_
        refine g_sub [] rfl ?_
        exact hx11 _ _ rfl
    replace hF := q_f c236 hF
    by_cases c258 : (x4 &&& (31 : Int32)) = 12
    · replace hF := q_t c258 hF
      refine g_tabIn (off := 629) 662 dL_law_33 (by rw [c258]; decide) (by rw [c258]; decide) (by rw [c258]; decide) (by decide) ?_
      refine g_aload_n 1 dL_law_662 rfl ?_
      refine g_aload_n 0 dL_law_663 rfl ?_
      refine g_iload_n 3 dL_law_664 rfl ?_
      refine g_iconst dL_law_665 lt_iconst_1 ?_
      refine g_iadd dL_law_666 ?_
      obtain ⟨x259, e260, hF⟩ := q_bind hF
      refine g_iald e260 dL_law_667 ?_
      refine g_aload_n 0 dL_law_668 rfl ?_
      refine g_iload_n 3 dL_law_669 rfl ?_
      refine g_iconst dL_law_670 lt_iconst_2 ?_
      refine g_iadd dL_law_671 ?_
      obtain ⟨x261, e262, hF⟩ := q_bind hF
      refine g_iald e262 dL_law_672 ?_
      refine g_aload_n 0 dL_law_673 rfl ?_
      refine g_iload_n 3 dL_law_674 rfl ?_
      refine g_iconst dL_law_675 lt_iconst_3 ?_
      refine g_iadd dL_law_676 ?_
      obtain ⟨x263, e264, hF⟩ := q_bind hF
      refine g_iald e264 dL_law_677 ?_
      refine g_aload_n 0 dL_law_678 rfl ?_
      refine g_iload_n 3 dL_law_679 rfl ?_
      refine g_iconst dL_law_680 lt_iconst_4 ?_
      refine g_iadd dL_law_681 ?_
      obtain ⟨x265, e266, hF⟩ := q_bind hF
      refine g_iald e266 dL_law_682 ?_
      refine g_if_eq 690 dL_law_683 (by decide) (fun c267 => ?_) (fun c267 => ?_)
      · replace hF := q_t c267 hF
        refine g_iconst dL_law_690 lt_iconst_0 ?_
        refine g_aload_n 0 dL_law_691 rfl ?_
        refine g_iload_n 3 dL_law_692 rfl ?_
        refine g_iconst dL_law_693 lt_iconst_5 ?_
        refine g_iadd dL_law_694 ?_
        obtain ⟨x268, e269, hF⟩ := q_bind hF
        refine g_iald e269 dL_law_695 ?_
        refine g_if_eq 703 dL_law_696 (by decide) (fun c270 => ?_) (fun c270 => ?_)
        · replace hF := q_t c270 hF
          refine g_iconst dL_law_703 lt_iconst_0 ?_
          obtain ⟨u271, e272, hF⟩ := q_bind hF
          obtain ⟨x273, e274, hF⟩ := q_bind hF
          refine g_callVr0 (ci := 11) (q := (RX11, TX11, 8)) qm_X11_comes wd_1046 wd_1047 wd_1048 rfl e272 (M_X11_comes l b D z nx e274) (As := [.int x259, .int x261, .int x263, .int (0 : Int32), .int (0 : Int32)]) rfl rfl (Nat.le_of_ble_eq_true rfl) ⟨(Nat.le_of_ble_eq_true rfl), (Nat.le_of_ble_eq_true rfl)⟩ ⟨rfl, rfl⟩ ⟨(by (try simp only [rmc_L_law, rms_L_law, rmc_X11_init, rms_X11_init, rmc_X12_init, rms_X12_init, rmc_X11_image, rms_X11_image]); omega), (by (try simp only [rmc_L_law, rms_L_law, rmc_X11_init, rms_X11_init, rmc_X12_init, rms_X12_init, rmc_X11_image, rms_X11_image]); omega)⟩ dL_law_704 ?_
          refine g_aload_n 2 dL_law_707 rfl ?_
          refine g_aload_n 0 dL_law_708 rfl ?_
          refine g_iload_n 3 dL_law_709 rfl ?_
          refine g_iconst dL_law_710 lt_iconst_1 ?_
          refine g_iadd dL_law_711 ?_
          obtain ⟨x275, e276, hF⟩ := q_bind hF
          refine g_iald e276 dL_law_712 ?_
          refine g_aload_n 0 dL_law_713 rfl ?_
          refine g_iload_n 3 dL_law_714 rfl ?_
          refine g_iconst dL_law_715 lt_iconst_2 ?_
          refine g_iadd dL_law_716 ?_
          obtain ⟨x277, e278, hF⟩ := q_bind hF
          refine g_iald e278 dL_law_717 ?_
          refine g_aload_n 0 dL_law_718 rfl ?_
          refine g_iload_n 3 dL_law_719 rfl ?_
          refine g_iconst dL_law_720 lt_iconst_3 ?_
          refine g_iadd dL_law_721 ?_
          obtain ⟨x279, e280, hF⟩ := q_bind hF
          refine g_iald e280 dL_law_722 ?_
          refine g_aload_n 0 dL_law_723 rfl ?_
          refine g_iload_n 3 dL_law_724 rfl ?_
          refine g_iconst dL_law_725 lt_iconst_4 ?_
          refine g_iadd dL_law_726 ?_
          obtain ⟨x281, e282, hF⟩ := q_bind hF
          refine g_iald e282 dL_law_727 ?_
          refine g_if_eq 735 dL_law_728 (by decide) (fun c283 => ?_) (fun c283 => ?_)
          · replace hF := q_t c283 hF
            refine g_iconst dL_law_735 lt_iconst_0 ?_
            refine g_aload_n 0 dL_law_736 rfl ?_
            refine g_iload_n 3 dL_law_737 rfl ?_
            refine g_iconst dL_law_738 lt_iconst_5 ?_
            refine g_iadd dL_law_739 ?_
            obtain ⟨x284, e285, hF⟩ := q_bind hF
            refine g_iald e285 dL_law_740 ?_
            refine g_if_eq 748 dL_law_741 (by decide) (fun c286 => ?_) (fun c286 => ?_)
            · replace hF := q_t c286 hF
              refine g_iconst dL_law_748 lt_iconst_0 ?_
              obtain ⟨u287, e288, hF⟩ := q_bind hF
              obtain ⟨x289, e290, hF⟩ := q_bind hF
              refine g_callVr0 (ci := 12) (q := (RX12, TX12, 49)) qm_X12_comes wd_1918 wd_1919 wd_1920 rfl e288 (M_X12_comes l b D z nx e290) (As := [.int x275, .int x277, .int x279, .int (0 : Int32), .int (0 : Int32)]) rfl rfl (Nat.le_of_ble_eq_true rfl) ⟨(Nat.le_of_ble_eq_true rfl), (Nat.le_of_ble_eq_true rfl)⟩ ⟨rfl, rfl⟩ ⟨(by (try simp only [rmc_L_law, rms_L_law, rmc_X11_init, rms_X11_init, rmc_X12_init, rms_X12_init, rmc_X11_image, rms_X11_image]); omega), (by (try simp only [rmc_L_law, rms_L_law, rmc_X11_init, rms_X11_init, rmc_X12_init, rms_X12_init, rmc_X11_image, rms_X11_image]); omega)⟩ dL_law_749 ?_
              refine g_lcmp dL_law_752 ?_
              refine g_if_eq 1575 dL_law_753 (by decide) (fun c291 => ?_) (fun c291 => ?_)
              · replace hF := q_t c291 hF
                refine g_iinc [(3, .int (a3 + 6)), (0, .ref a0), (1, .ref a1), (2, .ref a2)] 3 dL_law_1575 rfl (congrArg (a3 + ·) lt_iconst_6) (Nat.le_of_ble_eq_true rfl) rfl ?_
                refine g_goto 18 dL_law_1578 (by decide) ?_
                cases hF
                refine g_widen (k1 := k + 73) (j1 := j + 2724) (by (try simp only [rmc_L_law, rms_L_law, rmc_X11_init, rms_X11_init, rmc_X12_init, rms_X12_init, rmc_X11_image, rms_X11_image]); omega) (by (try simp only [rmc_L_law, rms_L_law, rmc_X11_init, rms_X11_init, rmc_X12_init, rms_X12_init, rmc_X11_image, rms_X11_image]); omega) ?_
                refine g_sub [1, 2, 3, 0] rfl ?_
                exact hback _ _ _ rfl
              · replace hF := q_f c291 hF
                cases hF
                refine g_widen (k1 := k + 73) (j1 := j + 2724) (by (try simp only [rmc_L_law, rms_L_law, rmc_X11_init, rms_X11_init, rmc_X12_init, rms_X12_init, rmc_X11_image, rms_X11_image]); omega) (by (try simp only [rmc_L_law, rms_L_law, rmc_X11_init, rms_X11_init, rmc_X12_init, rms_X12_init, rmc_X11_image, rms_X11_image]); omega) ?_
                refine g_sub [] rfl ?_
                exact hx12 _ _ rfl
            · replace hF := q_f c286 hF
              refine g_iconst dL_law_744 lt_iconst_1 ?_
              refine g_goto 749 dL_law_745 (by decide) ?_
              obtain ⟨u292, e293, hF⟩ := q_bind hF
              obtain ⟨x294, e295, hF⟩ := q_bind hF
              refine g_callVr0 (ci := 12) (q := (RX12, TX12, 49)) qm_X12_comes wd_1918 wd_1919 wd_1920 rfl e293 (M_X12_comes l b D z nx e295) (As := [.int x275, .int x277, .int x279, .int (0 : Int32), .int (1 : Int32)]) rfl rfl (Nat.le_of_ble_eq_true rfl) ⟨(Nat.le_of_ble_eq_true rfl), (Nat.le_of_ble_eq_true rfl)⟩ ⟨rfl, rfl⟩ ⟨(by (try simp only [rmc_L_law, rms_L_law, rmc_X11_init, rms_X11_init, rmc_X12_init, rms_X12_init, rmc_X11_image, rms_X11_image]); omega), (by (try simp only [rmc_L_law, rms_L_law, rmc_X11_init, rms_X11_init, rmc_X12_init, rms_X12_init, rmc_X11_image, rms_X11_image]); omega)⟩ dL_law_749 ?_
              refine g_lcmp dL_law_752 ?_
              refine g_if_eq 1575 dL_law_753 (by decide) (fun c296 => ?_) (fun c296 => ?_)
              · replace hF := q_t c296 hF
                refine g_iinc [(3, .int (a3 + 6)), (0, .ref a0), (1, .ref a1), (2, .ref a2)] 3 dL_law_1575 rfl (congrArg (a3 + ·) lt_iconst_6) (Nat.le_of_ble_eq_true rfl) rfl ?_
                refine g_goto 18 dL_law_1578 (by decide) ?_
                cases hF
                refine g_widen (k1 := k + 73) (j1 := j + 2724) (by (try simp only [rmc_L_law, rms_L_law, rmc_X11_init, rms_X11_init, rmc_X12_init, rms_X12_init, rmc_X11_image, rms_X11_image]); omega) (by (try simp only [rmc_L_law, rms_L_law, rmc_X11_init, rms_X11_init, rmc_X12_init, rms_X12_init, rmc_X11_image, rms_X11_image]); omega) ?_
                refine g_sub [1, 2, 3, 0] rfl ?_
                exact hback _ _ _ rfl
              · replace hF := q_f c296 hF
                cases hF
                refine g_widen (k1 := k + 73) (j1 := j + 2724) (by (try simp only [rmc_L_law, rms_L_law, rmc_X11_init, rms_X11_init, rmc_X12_init, rms_X12_init, rmc_X11_image, rms_X11_image]); omega) (by (try simp only [rmc_L_law, rms_L_law, rmc_X11_init, rms_X11_init, rmc_X12_init, rms_X12_init, rmc_X11_image, rms_X11_image]); omega) ?_
                refine g_sub [] rfl ?_
                exact hx12 _ _ rfl
          · replace hF := q_f c283 hF
            refine g_iconst dL_law_731 lt_iconst_1 ?_
            refine g_goto 736 dL_law_732 (by decide) ?_
            refine g_aload_n 0 dL_law_736 rfl ?_
            refine g_iload_n 3 dL_law_737 rfl ?_
            refine g_iconst dL_law_738 lt_iconst_5 ?_
            refine g_iadd dL_law_739 ?_
            obtain ⟨x297, e298, hF⟩ := q_bind hF
            refine g_iald e298 dL_law_740 ?_
            refine g_if_eq 748 dL_law_741 (by decide) (fun c299 => ?_) (fun c299 => ?_)
            · replace hF := q_t c299 hF
              refine g_iconst dL_law_748 lt_iconst_0 ?_
              obtain ⟨u300, e301, hF⟩ := q_bind hF
              obtain ⟨x302, e303, hF⟩ := q_bind hF
              refine g_callVr0 (ci := 12) (q := (RX12, TX12, 49)) qm_X12_comes wd_1918 wd_1919 wd_1920 rfl e301 (M_X12_comes l b D z nx e303) (As := [.int x275, .int x277, .int x279, .int (1 : Int32), .int (0 : Int32)]) rfl rfl (Nat.le_of_ble_eq_true rfl) ⟨(Nat.le_of_ble_eq_true rfl), (Nat.le_of_ble_eq_true rfl)⟩ ⟨rfl, rfl⟩ ⟨(by (try simp only [rmc_L_law, rms_L_law, rmc_X11_init, rms_X11_init, rmc_X12_init, rms_X12_init, rmc_X11_image, rms_X11_image]); omega), (by (try simp only [rmc_L_law, rms_L_law, rmc_X11_init, rms_X11_init, rmc_X12_init, rms_X12_init, rmc_X11_image, rms_X11_image]); omega)⟩ dL_law_749 ?_
              refine g_lcmp dL_law_752 ?_
              refine g_if_eq 1575 dL_law_753 (by decide) (fun c304 => ?_) (fun c304 => ?_)
              · replace hF := q_t c304 hF
                refine g_iinc [(3, .int (a3 + 6)), (0, .ref a0), (1, .ref a1), (2, .ref a2)] 3 dL_law_1575 rfl (congrArg (a3 + ·) lt_iconst_6) (Nat.le_of_ble_eq_true rfl) rfl ?_
                refine g_goto 18 dL_law_1578 (by decide) ?_
                cases hF
                refine g_widen (k1 := k + 73) (j1 := j + 2724) (by (try simp only [rmc_L_law, rms_L_law, rmc_X11_init, rms_X11_init, rmc_X12_init, rms_X12_init, rmc_X11_image, rms_X11_image]); omega) (by (try simp only [rmc_L_law, rms_L_law, rmc_X11_init, rms_X11_init, rmc_X12_init, rms_X12_init, rmc_X11_image, rms_X11_image]); omega) ?_
                refine g_sub [1, 2, 3, 0] rfl ?_
                exact hback _ _ _ rfl
              · replace hF := q_f c304 hF
                cases hF
                refine g_widen (k1 := k + 73) (j1 := j + 2724) (by (try simp only [rmc_L_law, rms_L_law, rmc_X11_init, rms_X11_init, rmc_X12_init, rms_X12_init, rmc_X11_image, rms_X11_image]); omega) (by (try simp only [rmc_L_law, rms_L_law, rmc_X11_init, rms_X11_init, rmc_X12_init, rms_X12_init, rmc_X11_image, rms_X11_image]); omega) ?_
                refine g_sub [] rfl ?_
                exact hx12 _ _ rfl
            · replace hF := q_f c299 hF
              refine g_iconst dL_law_744 lt_iconst_1 ?_
              refine g_goto 749 dL_law_745 (by decide) ?_
              obtain ⟨u305, e306, hF⟩ := q_bind hF
              obtain ⟨x307, e308, hF⟩ := q_bind hF
              refine g_callVr0 (ci := 12) (q := (RX12, TX12, 49)) qm_X12_comes wd_1918 wd_1919 wd_1920 rfl e306 (M_X12_comes l b D z nx e308) (As := [.int x275, .int x277, .int x279, .int (1 : Int32), .int (1 : Int32)]) rfl rfl (Nat.le_of_ble_eq_true rfl) ⟨(Nat.le_of_ble_eq_true rfl), (Nat.le_of_ble_eq_true rfl)⟩ ⟨rfl, rfl⟩ ⟨(by (try simp only [rmc_L_law, rms_L_law, rmc_X11_init, rms_X11_init, rmc_X12_init, rms_X12_init, rmc_X11_image, rms_X11_image]); omega), (by (try simp only [rmc_L_law, rms_L_law, rmc_X11_init, rms_X11_init, rmc_X12_init, rms_X12_init, rmc_X11_image, rms_X11_image]); omega)⟩ dL_law_749 ?_
              refine g_lcmp dL_law_752 ?_
              refine g_if_eq 1575 dL_law_753 (by decide) (fun c309 => ?_) (fun c309 => ?_)
              · replace hF := q_t c309 hF
                refine g_iinc [(3, .int (a3 + 6)), (0, .ref a0), (1, .ref a1), (2, .ref a2)] 3 dL_law_1575 rfl (congrArg (a3 + ·) lt_iconst_6) (Nat.le_of_ble_eq_true rfl) rfl ?_
                refine g_goto 18 dL_law_1578 (by decide) ?_
                cases hF
                refine g_widen (k1 := k + 73) (j1 := j + 2724) (by (try simp only [rmc_L_law, rms_L_law, rmc_X11_init, rms_X11_init, rmc_X12_init, rms_X12_init, rmc_X11_image, rms_X11_image]); omega) (by (try simp only [rmc_L_law, rms_L_law, rmc_X11_init, rms_X11_init, rmc_X12_init, rms_X12_init, rmc_X11_image, rms_X11_image]); omega) ?_
                refine g_sub [1, 2, 3, 0] rfl ?_
                exact hback _ _ _ rfl
              · replace hF := q_f c309 hF
                cases hF
                refine g_widen (k1 := k + 73) (j1 := j + 2724) (by (try simp only [rmc_L_law, rms_L_law, rmc_X11_init, rms_X11_init, rmc_X12_init, rms_X12_init, rmc_X11_image, rms_X11_image]); omega) (by (try simp only [rmc_L_law, rms_L_law, rmc_X11_init, rms_X11_init, rmc_X12_init, rms_X12_init, rmc_X11_image, rms_X11_image]); omega) ?_
                refine g_sub [] rfl ?_
                exact hx12 _ _ rfl
        · replace hF := q_f c270 hF
          refine g_iconst dL_law_699 lt_iconst_1 ?_
          refine g_goto 704 dL_law_700 (by decide) ?_
          obtain ⟨u310, e311, hF⟩ := q_bind hF
          obtain ⟨x312, e313, hF⟩ := q_bind hF
          refine g_callVr0 (ci := 11) (q := (RX11, TX11, 8)) qm_X11_comes wd_1046 wd_1047 wd_1048 rfl e311 (M_X11_comes l b D z nx e313) (As := [.int x259, .int x261, .int x263, .int (0 : Int32), .int (1 : Int32)]) rfl rfl (Nat.le_of_ble_eq_true rfl) ⟨(Nat.le_of_ble_eq_true rfl), (Nat.le_of_ble_eq_true rfl)⟩ ⟨rfl, rfl⟩ ⟨(by (try simp only [rmc_L_law, rms_L_law, rmc_X11_init, rms_X11_init, rmc_X12_init, rms_X12_init, rmc_X11_image, rms_X11_image]); omega), (by (try simp only [rmc_L_law, rms_L_law, rmc_X11_init, rms_X11_init, rmc_X12_init, rms_X12_init, rmc_X11_image, rms_X11_image]); omega)⟩ dL_law_704 ?_
          refine g_aload_n 2 dL_law_707 rfl ?_
          refine g_aload_n 0 dL_law_708 rfl ?_
          refine g_iload_n 3 dL_law_709 rfl ?_
          refine g_iconst dL_law_710 lt_iconst_1 ?_
          refine g_iadd dL_law_711 ?_
          obtain ⟨x314, e315, hF⟩ := q_bind hF
          refine g_iald e315 dL_law_712 ?_
          refine g_aload_n 0 dL_law_713 rfl ?_
          refine g_iload_n 3 dL_law_714 rfl ?_
          refine g_iconst dL_law_715 lt_iconst_2 ?_
          refine g_iadd dL_law_716 ?_
          obtain ⟨x316, e317, hF⟩ := q_bind hF
          refine g_iald e317 dL_law_717 ?_
          refine g_aload_n 0 dL_law_718 rfl ?_
          refine g_iload_n 3 dL_law_719 rfl ?_
          refine g_iconst dL_law_720 lt_iconst_3 ?_
          refine g_iadd dL_law_721 ?_
          obtain ⟨x318, e319, hF⟩ := q_bind hF
          refine g_iald e319 dL_law_722 ?_
          refine g_aload_n 0 dL_law_723 rfl ?_
          refine g_iload_n 3 dL_law_724 rfl ?_
          refine g_iconst dL_law_725 lt_iconst_4 ?_
          refine g_iadd dL_law_726 ?_
          obtain ⟨x320, e321, hF⟩ := q_bind hF
          refine g_iald e321 dL_law_727 ?_
          refine g_if_eq 735 dL_law_728 (by decide) (fun c322 => ?_) (fun c322 => ?_)
          · replace hF := q_t c322 hF
            refine g_iconst dL_law_735 lt_iconst_0 ?_
            refine g_aload_n 0 dL_law_736 rfl ?_
            refine g_iload_n 3 dL_law_737 rfl ?_
            refine g_iconst dL_law_738 lt_iconst_5 ?_
            refine g_iadd dL_law_739 ?_
            obtain ⟨x323, e324, hF⟩ := q_bind hF
            refine g_iald e324 dL_law_740 ?_
            refine g_if_eq 748 dL_law_741 (by decide) (fun c325 => ?_) (fun c325 => ?_)
            · replace hF := q_t c325 hF
              refine g_iconst dL_law_748 lt_iconst_0 ?_
              obtain ⟨u326, e327, hF⟩ := q_bind hF
              obtain ⟨x328, e329, hF⟩ := q_bind hF
              refine g_callVr0 (ci := 12) (q := (RX12, TX12, 49)) qm_X12_comes wd_1918 wd_1919 wd_1920 rfl e327 (M_X12_comes l b D z nx e329) (As := [.int x314, .int x316, .int x318, .int (0 : Int32), .int (0 : Int32)]) rfl rfl (Nat.le_of_ble_eq_true rfl) ⟨(Nat.le_of_ble_eq_true rfl), (Nat.le_of_ble_eq_true rfl)⟩ ⟨rfl, rfl⟩ ⟨(by (try simp only [rmc_L_law, rms_L_law, rmc_X11_init, rms_X11_init, rmc_X12_init, rms_X12_init, rmc_X11_image, rms_X11_image]); omega), (by (try simp only [rmc_L_law, rms_L_law, rmc_X11_init, rms_X11_init, rmc_X12_init, rms_X12_init, rmc_X11_image, rms_X11_image]); omega)⟩ dL_law_749 ?_
              refine g_lcmp dL_law_752 ?_
              refine g_if_eq 1575 dL_law_753 (by decide) (fun c330 => ?_) (fun c330 => ?_)
              · replace hF := q_t c330 hF
                refine g_iinc [(3, .int (a3 + 6)), (0, .ref a0), (1, .ref a1), (2, .ref a2)] 3 dL_law_1575 rfl (congrArg (a3 + ·) lt_iconst_6) (Nat.le_of_ble_eq_true rfl) rfl ?_
                refine g_goto 18 dL_law_1578 (by decide) ?_
                cases hF
                refine g_widen (k1 := k + 73) (j1 := j + 2724) (by (try simp only [rmc_L_law, rms_L_law, rmc_X11_init, rms_X11_init, rmc_X12_init, rms_X12_init, rmc_X11_image, rms_X11_image]); omega) (by (try simp only [rmc_L_law, rms_L_law, rmc_X11_init, rms_X11_init, rmc_X12_init, rms_X12_init, rmc_X11_image, rms_X11_image]); omega) ?_
                refine g_sub [1, 2, 3, 0] rfl ?_
                exact hback _ _ _ rfl
              · replace hF := q_f c330 hF
                cases hF
                refine g_widen (k1 := k + 73) (j1 := j + 2724) (by (try simp only [rmc_L_law, rms_L_law, rmc_X11_init, rms_X11_init, rmc_X12_init, rms_X12_init, rmc_X11_image, rms_X11_image]); omega) (by (try simp only [rmc_L_law, rms_L_law, rmc_X11_init, rms_X11_init, rmc_X12_init, rms_X12_init, rmc_X11_image, rms_X11_image]); omega) ?_
                refine g_sub [] rfl ?_
                exact hx12 _ _ rfl
            · replace hF := q_f c325 hF
              refine g_iconst dL_law_744 lt_iconst_1 ?_
              refine g_goto 749 dL_law_745 (by decide) ?_
              obtain ⟨u331, e332, hF⟩ := q_bind hF
              obtain ⟨x333, e334, hF⟩ := q_bind hF
              refine g_callVr0 (ci := 12) (q := (RX12, TX12, 49)) qm_X12_comes wd_1918 wd_1919 wd_1920 rfl e332 (M_X12_comes l b D z nx e334) (As := [.int x314, .int x316, .int x318, .int (0 : Int32), .int (1 : Int32)]) rfl rfl (Nat.le_of_ble_eq_true rfl) ⟨(Nat.le_of_ble_eq_true rfl), (Nat.le_of_ble_eq_true rfl)⟩ ⟨rfl, rfl⟩ ⟨(by (try simp only [rmc_L_law, rms_L_law, rmc_X11_init, rms_X11_init, rmc_X12_init, rms_X12_init, rmc_X11_image, rms_X11_image]); omega), (by (try simp only [rmc_L_law, rms_L_law, rmc_X11_init, rms_X11_init, rmc_X12_init, rms_X12_init, rmc_X11_image, rms_X11_image]); omega)⟩ dL_law_749 ?_
              refine g_lcmp dL_law_752 ?_
              refine g_if_eq 1575 dL_law_753 (by decide) (fun c335 => ?_) (fun c335 => ?_)
              · replace hF := q_t c335 hF
                refine g_iinc [(3, .int (a3 + 6)), (0, .ref a0), (1, .ref a1), (2, .ref a2)] 3 dL_law_1575 rfl (congrArg (a3 + ·) lt_iconst_6) (Nat.le_of_ble_eq_true rfl) rfl ?_
                refine g_goto 18 dL_law_1578 (by decide) ?_
                cases hF
                refine g_widen (k1 := k + 73) (j1 := j + 2724) (by (try simp only [rmc_L_law, rms_L_law, rmc_X11_init, rms_X11_init, rmc_X12_init, rms_X12_init, rmc_X11_image, rms_X11_image]); omega) (by (try simp only [rmc_L_law, rms_L_law, rmc_X11_init, rms_X11_init, rmc_X12_init, rms_X12_init, rmc_X11_image, rms_X11_image]); omega) ?_
                refine g_sub [1, 2, 3, 0] rfl ?_
                exact hback _ _ _ rfl
              · replace hF := q_f c335 hF
                cases hF
                refine g_widen (k1 := k + 73) (j1 := j + 2724) (by (try simp only [rmc_L_law, rms_L_law, rmc_X11_init, rms_X11_init, rmc_X12_init, rms_X12_init, rmc_X11_image, rms_X11_image]); omega) (by (try simp only [rmc_L_law, rms_L_law, rmc_X11_init, rms_X11_init, rmc_X12_init, rms_X12_init, rmc_X11_image, rms_X11_image]); omega) ?_
                refine g_sub [] rfl ?_
                exact hx12 _ _ rfl
          · replace hF := q_f c322 hF
            refine g_iconst dL_law_731 lt_iconst_1 ?_
            refine g_goto 736 dL_law_732 (by decide) ?_
            refine g_aload_n 0 dL_law_736 rfl ?_
            refine g_iload_n 3 dL_law_737 rfl ?_
            refine g_iconst dL_law_738 lt_iconst_5 ?_
            refine g_iadd dL_law_739 ?_
            obtain ⟨x336, e337, hF⟩ := q_bind hF
            refine g_iald e337 dL_law_740 ?_
            refine g_if_eq 748 dL_law_741 (by decide) (fun c338 => ?_) (fun c338 => ?_)
            · replace hF := q_t c338 hF
              refine g_iconst dL_law_748 lt_iconst_0 ?_
              obtain ⟨u339, e340, hF⟩ := q_bind hF
              obtain ⟨x341, e342, hF⟩ := q_bind hF
              refine g_callVr0 (ci := 12) (q := (RX12, TX12, 49)) qm_X12_comes wd_1918 wd_1919 wd_1920 rfl e340 (M_X12_comes l b D z nx e342) (As := [.int x314, .int x316, .int x318, .int (1 : Int32), .int (0 : Int32)]) rfl rfl (Nat.le_of_ble_eq_true rfl) ⟨(Nat.le_of_ble_eq_true rfl), (Nat.le_of_ble_eq_true rfl)⟩ ⟨rfl, rfl⟩ ⟨(by (try simp only [rmc_L_law, rms_L_law, rmc_X11_init, rms_X11_init, rmc_X12_init, rms_X12_init, rmc_X11_image, rms_X11_image]); omega), (by (try simp only [rmc_L_law, rms_L_law, rmc_X11_init, rms_X11_init, rmc_X12_init, rms_X12_init, rmc_X11_image, rms_X11_image]); omega)⟩ dL_law_749 ?_
              refine g_lcmp dL_law_752 ?_
              refine g_if_eq 1575 dL_law_753 (by decide) (fun c343 => ?_) (fun c343 => ?_)
              · replace hF := q_t c343 hF
                refine g_iinc [(3, .int (a3 + 6)), (0, .ref a0), (1, .ref a1), (2, .ref a2)] 3 dL_law_1575 rfl (congrArg (a3 + ·) lt_iconst_6) (Nat.le_of_ble_eq_true rfl) rfl ?_
                refine g_goto 18 dL_law_1578 (by decide) ?_
                cases hF
                refine g_widen (k1 := k + 73) (j1 := j + 2724) (by (try simp only [rmc_L_law, rms_L_law, rmc_X11_init, rms_X11_init, rmc_X12_init, rms_X12_init, rmc_X11_image, rms_X11_image]); omega) (by (try simp only [rmc_L_law, rms_L_law, rmc_X11_init, rms_X11_init, rmc_X12_init, rms_X12_init, rmc_X11_image, rms_X11_image]); omega) ?_
                refine g_sub [1, 2, 3, 0] rfl ?_
                exact hback _ _ _ rfl
              · replace hF := q_f c343 hF
                cases hF
                refine g_widen (k1 := k + 73) (j1 := j + 2724) (by (try simp only [rmc_L_law, rms_L_law, rmc_X11_init, rms_X11_init, rmc_X12_init, rms_X12_init, rmc_X11_image, rms_X11_image]); omega) (by (try simp only [rmc_L_law, rms_L_law, rmc_X11_init, rms_X11_init, rmc_X12_init, rms_X12_init, rmc_X11_image, rms_X11_image]); omega) ?_
                refine g_sub [] rfl ?_
                exact hx12 _ _ rfl
            · replace hF := q_f c338 hF
              refine g_iconst dL_law_744 lt_iconst_1 ?_
              refine g_goto 749 dL_law_745 (by decide) ?_
              obtain ⟨u344, e345, hF⟩ := q_bind hF
              obtain ⟨x346, e347, hF⟩ := q_bind hF
              refine g_callVr0 (ci := 12) (q := (RX12, TX12, 49)) qm_X12_comes wd_1918 wd_1919 wd_1920 rfl e345 (M_X12_comes l b D z nx e347) (As := [.int x314, .int x316, .int x318, .int (1 : Int32), .int (1 : Int32)]) rfl rfl (Nat.le_of_ble_eq_true rfl) ⟨(Nat.le_of_ble_eq_true rfl), (Nat.le_of_ble_eq_true rfl)⟩ ⟨rfl, rfl⟩ ⟨(by (try simp only [rmc_L_law, rms_L_law, rmc_X11_init, rms_X11_init, rmc_X12_init, rms_X12_init, rmc_X11_image, rms_X11_image]); omega), (by (try simp only [rmc_L_law, rms_L_law, rmc_X11_init, rms_X11_init, rmc_X12_init, rms_X12_init, rmc_X11_image, rms_X11_image]); omega)⟩ dL_law_749 ?_
              refine g_lcmp dL_law_752 ?_
              refine g_if_eq 1575 dL_law_753 (by decide) (fun c348 => ?_) (fun c348 => ?_)
              · replace hF := q_t c348 hF
                refine g_iinc [(3, .int (a3 + 6)), (0, .ref a0), (1, .ref a1), (2, .ref a2)] 3 dL_law_1575 rfl (congrArg (a3 + ·) lt_iconst_6) (Nat.le_of_ble_eq_true rfl) rfl ?_
                refine g_goto 18 dL_law_1578 (by decide) ?_
                cases hF
                refine g_widen (k1 := k + 73) (j1 := j + 2724) (by (try simp only [rmc_L_law, rms_L_law, rmc_X11_init, rms_X11_init, rmc_X12_init, rms_X12_init, rmc_X11_image, rms_X11_image]); omega) (by (try simp only [rmc_L_law, rms_L_law, rmc_X11_init, rms_X11_init, rmc_X12_init, rms_X12_init, rmc_X11_image, rms_X11_image]); omega) ?_
                refine g_sub [1, 2, 3, 0] rfl ?_
                exact hback _ _ _ rfl
              · replace hF := q_f c348 hF
                cases hF
                refine g_widen (k1 := k + 73) (j1 := j + 2724) (by (try simp only [rmc_L_law, rms_L_law, rmc_X11_init, rms_X11_init, rmc_X12_init, rms_X12_init, rmc_X11_image, rms_X11_image]); omega) (by (try simp only [rmc_L_law, rms_L_law, rmc_X11_init, rms_X11_init, rmc_X12_init, rms_X12_init, rmc_X11_image, rms_X11_image]); omega) ?_
                refine g_sub [] rfl ?_
                exact hx12 _ _ rfl
      · replace hF := q_f c267 hF
        refine g_iconst dL_law_686 lt_iconst_1 ?_
        refine g_goto 691 dL_law_687 (by decide) ?_
        refine g_aload_n 0 dL_law_691 rfl ?_
        refine g_iload_n 3 dL_law_692 rfl ?_
        refine g_iconst dL_law_693 lt_iconst_5 ?_
        refine g_iadd dL_law_694 ?_
        obtain ⟨x349, e350, hF⟩ := q_bind hF
        refine g_iald e350 dL_law_695 ?_
        refine g_if_eq 703 dL_law_696 (by decide) (fun c351 => ?_) (fun c351 => ?_)
        · replace hF := q_t c351 hF
          refine g_iconst dL_law_703 lt_iconst_0 ?_
          obtain ⟨u352, e353, hF⟩ := q_bind hF
          obtain ⟨x354, e355, hF⟩ := q_bind hF
          refine g_callVr0 (ci := 11) (q := (RX11, TX11, 8)) qm_X11_comes wd_1046 wd_1047 wd_1048 rfl e353 (M_X11_comes l b D z nx e355) (As := [.int x259, .int x261, .int x263, .int (1 : Int32), .int (0 : Int32)]) rfl rfl (Nat.le_of_ble_eq_true rfl) ⟨(Nat.le_of_ble_eq_true rfl), (Nat.le_of_ble_eq_true rfl)⟩ ⟨rfl, rfl⟩ ⟨(by (try simp only [rmc_L_law, rms_L_law, rmc_X11_init, rms_X11_init, rmc_X12_init, rms_X12_init, rmc_X11_image, rms_X11_image]); omega), (by (try simp only [rmc_L_law, rms_L_law, rmc_X11_init, rms_X11_init, rmc_X12_init, rms_X12_init, rmc_X11_image, rms_X11_image]); omega)⟩ dL_law_704 ?_
          refine g_aload_n 2 dL_law_707 rfl ?_
          refine g_aload_n 0 dL_law_708 rfl ?_
          refine g_iload_n 3 dL_law_709 rfl ?_
          refine g_iconst dL_law_710 lt_iconst_1 ?_
          refine g_iadd dL_law_711 ?_
          obtain ⟨x356, e357, hF⟩ := q_bind hF
          refine g_iald e357 dL_law_712 ?_
          refine g_aload_n 0 dL_law_713 rfl ?_
          refine g_iload_n 3 dL_law_714 rfl ?_
          refine g_iconst dL_law_715 lt_iconst_2 ?_
          refine g_iadd dL_law_716 ?_
          obtain ⟨x358, e359, hF⟩ := q_bind hF
          refine g_iald e359 dL_law_717 ?_
          refine g_aload_n 0 dL_law_718 rfl ?_
          refine g_iload_n 3 dL_law_719 rfl ?_
          refine g_iconst dL_law_720 lt_iconst_3 ?_
          refine g_iadd dL_law_721 ?_
          obtain ⟨x360, e361, hF⟩ := q_bind hF
          refine g_iald e361 dL_law_722 ?_
          refine g_aload_n 0 dL_law_723 rfl ?_
          refine g_iload_n 3 dL_law_724 rfl ?_
          refine g_iconst dL_law_725 lt_iconst_4 ?_
          refine g_iadd dL_law_726 ?_
          obtain ⟨x362, e363, hF⟩ := q_bind hF
          refine g_iald e363 dL_law_727 ?_
          refine g_if_eq 735 dL_law_728 (by decide) (fun c364 => ?_) (fun c364 => ?_)
          · replace hF := q_t c364 hF
            refine g_iconst dL_law_735 lt_iconst_0 ?_
            refine g_aload_n 0 dL_law_736 rfl ?_
            refine g_iload_n 3 dL_law_737 rfl ?_
            refine g_iconst dL_law_738 lt_iconst_5 ?_
            refine g_iadd dL_law_739 ?_
            obtain ⟨x365, e366, hF⟩ := q_bind hF
            refine g_iald e366 dL_law_740 ?_
            refine g_if_eq 748 dL_law_741 (by decide) (fun c367 => ?_) (fun c367 => ?_)
            · replace hF := q_t c367 hF
              refine g_iconst dL_law_748 lt_iconst_0 ?_
              obtain ⟨u368, e369, hF⟩ := q_bind hF
              obtain ⟨x370, e371, hF⟩ := q_bind hF
              refine g_callVr0 (ci := 12) (q := (RX12, TX12, 49)) qm_X12_comes wd_1918 wd_1919 wd_1920 rfl e369 (M_X12_comes l b D z nx e371) (As := [.int x356, .int x358, .int x360, .int (0 : Int32), .int (0 : Int32)]) rfl rfl (Nat.le_of_ble_eq_true rfl) ⟨(Nat.le_of_ble_eq_true rfl), (Nat.le_of_ble_eq_true rfl)⟩ ⟨rfl, rfl⟩ ⟨(by (try simp only [rmc_L_law, rms_L_law, rmc_X11_init, rms_X11_init, rmc_X12_init, rms_X12_init, rmc_X11_image, rms_X11_image]); omega), (by (try simp only [rmc_L_law, rms_L_law, rmc_X11_init, rms_X11_init, rmc_X12_init, rms_X12_init, rmc_X11_image, rms_X11_image]); omega)⟩ dL_law_749 ?_
              refine g_lcmp dL_law_752 ?_
              refine g_if_eq 1575 dL_law_753 (by decide) (fun c372 => ?_) (fun c372 => ?_)
              · replace hF := q_t c372 hF
                refine g_iinc [(3, .int (a3 + 6)), (0, .ref a0), (1, .ref a1), (2, .ref a2)] 3 dL_law_1575 rfl (congrArg (a3 + ·) lt_iconst_6) (Nat.le_of_ble_eq_true rfl) rfl ?_
                refine g_goto 18 dL_law_1578 (by decide) ?_
                cases hF
                refine g_widen (k1 := k + 73) (j1 := j + 2724) (by (try simp only [rmc_L_law, rms_L_law, rmc_X11_init, rms_X11_init, rmc_X12_init, rms_X12_init, rmc_X11_image, rms_X11_image]); omega) (by (try simp only [rmc_L_law, rms_L_law, rmc_X11_init, rms_X11_init, rmc_X12_init, rms_X12_init, rmc_X11_image, rms_X11_image]); omega) ?_
                refine g_sub [1, 2, 3, 0] rfl ?_
                exact hback _ _ _ rfl
              · replace hF := q_f c372 hF
                cases hF
                refine g_widen (k1 := k + 73) (j1 := j + 2724) (by (try simp only [rmc_L_law, rms_L_law, rmc_X11_init, rms_X11_init, rmc_X12_init, rms_X12_init, rmc_X11_image, rms_X11_image]); omega) (by (try simp only [rmc_L_law, rms_L_law, rmc_X11_init, rms_X11_init, rmc_X12_init, rms_X12_init, rmc_X11_image, rms_X11_image]); omega) ?_
                refine g_sub [] rfl ?_
                exact hx12 _ _ rfl
            · replace hF := q_f c367 hF
              refine g_iconst dL_law_744 lt_iconst_1 ?_
              refine g_goto 749 dL_law_745 (by decide) ?_
              obtain ⟨u373, e374, hF⟩ := q_bind hF
              obtain ⟨x375, e376, hF⟩ := q_bind hF
              refine g_callVr0 (ci := 12) (q := (RX12, TX12, 49)) qm_X12_comes wd_1918 wd_1919 wd_1920 rfl e374 (M_X12_comes l b D z nx e376) (As := [.int x356, .int x358, .int x360, .int (0 : Int32), .int (1 : Int32)]) rfl rfl (Nat.le_of_ble_eq_true rfl) ⟨(Nat.le_of_ble_eq_true rfl), (Nat.le_of_ble_eq_true rfl)⟩ ⟨rfl, rfl⟩ ⟨(by (try simp only [rmc_L_law, rms_L_law, rmc_X11_init, rms_X11_init, rmc_X12_init, rms_X12_init, rmc_X11_image, rms_X11_image]); omega), (by (try simp only [rmc_L_law, rms_L_law, rmc_X11_init, rms_X11_init, rmc_X12_init, rms_X12_init, rmc_X11_image, rms_X11_image]); omega)⟩ dL_law_749 ?_
              refine g_lcmp dL_law_752 ?_
              refine g_if_eq 1575 dL_law_753 (by decide) (fun c377 => ?_) (fun c377 => ?_)
              · replace hF := q_t c377 hF
                refine g_iinc [(3, .int (a3 + 6)), (0, .ref a0), (1, .ref a1), (2, .ref a2)] 3 dL_law_1575 rfl (congrArg (a3 + ·) lt_iconst_6) (Nat.le_of_ble_eq_true rfl) rfl ?_
                refine g_goto 18 dL_law_1578 (by decide) ?_
                cases hF
                refine g_widen (k1 := k + 73) (j1 := j + 2724) (by (try simp only [rmc_L_law, rms_L_law, rmc_X11_init, rms_X11_init, rmc_X12_init, rms_X12_init, rmc_X11_image, rms_X11_image]); omega) (by (try simp only [rmc_L_law, rms_L_law, rmc_X11_init, rms_X11_init, rmc_X12_init, rms_X12_init, rmc_X11_image, rms_X11_image]); omega) ?_
                refine g_sub [1, 2, 3, 0] rfl ?_
                exact hback _ _ _ rfl
              · replace hF := q_f c377 hF
                cases hF
                refine g_widen (k1 := k + 73) (j1 := j + 2724) (by (try simp only [rmc_L_law, rms_L_law, rmc_X11_init, rms_X11_init, rmc_X12_init, rms_X12_init, rmc_X11_image, rms_X11_image]); omega) (by (try simp only [rmc_L_law, rms_L_law, rmc_X11_init, rms_X11_init, rmc_X12_init, rms_X12_init, rmc_X11_image, rms_X11_image]); omega) ?_
                refine g_sub [] rfl ?_
                exact hx12 _ _ rfl
          · replace hF := q_f c364 hF
            refine g_iconst dL_law_731 lt_iconst_1 ?_
            refine g_goto 736 dL_law_732 (by decide) ?_
            refine g_aload_n 0 dL_law_736 rfl ?_
            refine g_iload_n 3 dL_law_737 rfl ?_
            refine g_iconst dL_law_738 lt_iconst_5 ?_
            refine g_iadd dL_law_739 ?_
            obtain ⟨x378, e379, hF⟩ := q_bind hF
            refine g_iald e379 dL_law_740 ?_
            refine g_if_eq 748 dL_law_741 (by decide) (fun c380 => ?_) (fun c380 => ?_)
            · replace hF := q_t c380 hF
              refine g_iconst dL_law_748 lt_iconst_0 ?_
              obtain ⟨u381, e382, hF⟩ := q_bind hF
              obtain ⟨x383, e384, hF⟩ := q_bind hF
              refine g_callVr0 (ci := 12) (q := (RX12, TX12, 49)) qm_X12_comes wd_1918 wd_1919 wd_1920 rfl e382 (M_X12_comes l b D z nx e384) (As := [.int x356, .int x358, .int x360, .int (1 : Int32), .int (0 : Int32)]) rfl rfl (Nat.le_of_ble_eq_true rfl) ⟨(Nat.le_of_ble_eq_true rfl), (Nat.le_of_ble_eq_true rfl)⟩ ⟨rfl, rfl⟩ ⟨(by (try simp only [rmc_L_law, rms_L_law, rmc_X11_init, rms_X11_init, rmc_X12_init, rms_X12_init, rmc_X11_image, rms_X11_image]); omega), (by (try simp only [rmc_L_law, rms_L_law, rmc_X11_init, rms_X11_init, rmc_X12_init, rms_X12_init, rmc_X11_image, rms_X11_image]); omega)⟩ dL_law_749 ?_
              refine g_lcmp dL_law_752 ?_
              refine g_if_eq 1575 dL_law_753 (by decide) (fun c385 => ?_) (fun c385 => ?_)
              · replace hF := q_t c385 hF
                refine g_iinc [(3, .int (a3 + 6)), (0, .ref a0), (1, .ref a1), (2, .ref a2)] 3 dL_law_1575 rfl (congrArg (a3 + ·) lt_iconst_6) (Nat.le_of_ble_eq_true rfl) rfl ?_
                refine g_goto 18 dL_law_1578 (by decide) ?_
                cases hF
                refine g_widen (k1 := k + 73) (j1 := j + 2724) (by (try simp only [rmc_L_law, rms_L_law, rmc_X11_init, rms_X11_init, rmc_X12_init, rms_X12_init, rmc_X11_image, rms_X11_image]); omega) (by (try simp only [rmc_L_law, rms_L_law, rmc_X11_init, rms_X11_init, rmc_X12_init, rms_X12_init, rmc_X11_image, rms_X11_image]); omega) ?_
                refine g_sub [1, 2, 3, 0] rfl ?_
                exact hback _ _ _ rfl
              · replace hF := q_f c385 hF
                cases hF
                refine g_widen (k1 := k + 73) (j1 := j + 2724) (by (try simp only [rmc_L_law, rms_L_law, rmc_X11_init, rms_X11_init, rmc_X12_init, rms_X12_init, rmc_X11_image, rms_X11_image]); omega) (by (try simp only [rmc_L_law, rms_L_law, rmc_X11_init, rms_X11_init, rmc_X12_init, rms_X12_init, rmc_X11_image, rms_X11_image]); omega) ?_
                refine g_sub [] rfl ?_
                exact hx12 _ _ rfl
            · replace hF := q_f c380 hF
              refine g_iconst dL_law_744 lt_iconst_1 ?_
              refine g_goto 749 dL_law_745 (by decide) ?_
              obtain ⟨u386, e387, hF⟩ := q_bind hF
              obtain ⟨x388, e389, hF⟩ := q_bind hF
              refine g_callVr0 (ci := 12) (q := (RX12, TX12, 49)) qm_X12_comes wd_1918 wd_1919 wd_1920 rfl e387 (M_X12_comes l b D z nx e389) (As := [.int x356, .int x358, .int x360, .int (1 : Int32), .int (1 : Int32)]) rfl rfl (Nat.le_of_ble_eq_true rfl) ⟨(Nat.le_of_ble_eq_true rfl), (Nat.le_of_ble_eq_true rfl)⟩ ⟨rfl, rfl⟩ ⟨(by (try simp only [rmc_L_law, rms_L_law, rmc_X11_init, rms_X11_init, rmc_X12_init, rms_X12_init, rmc_X11_image, rms_X11_image]); omega), (by (try simp only [rmc_L_law, rms_L_law, rmc_X11_init, rms_X11_init, rmc_X12_init, rms_X12_init, rmc_X11_image, rms_X11_image]); omega)⟩ dL_law_749 ?_
              refine g_lcmp dL_law_752 ?_
              refine g_if_eq 1575 dL_law_753 (by decide) (fun c390 => ?_) (fun c390 => ?_)
              · replace hF := q_t c390 hF
                refine g_iinc [(3, .int (a3 + 6)), (0, .ref a0), (1, .ref a1), (2, .ref a2)] 3 dL_law_1575 rfl (congrArg (a3 + ·) lt_iconst_6) (Nat.le_of_ble_eq_true rfl) rfl ?_
                refine g_goto 18 dL_law_1578 (by decide) ?_
                cases hF
                refine g_widen (k1 := k + 73) (j1 := j + 2724) (by (try simp only [rmc_L_law, rms_L_law, rmc_X11_init, rms_X11_init, rmc_X12_init, rms_X12_init, rmc_X11_image, rms_X11_image]); omega) (by (try simp only [rmc_L_law, rms_L_law, rmc_X11_init, rms_X11_init, rmc_X12_init, rms_X12_init, rmc_X11_image, rms_X11_image]); omega) ?_
                refine g_sub [1, 2, 3, 0] rfl ?_
                exact hback _ _ _ rfl
              · replace hF := q_f c390 hF
                cases hF
                refine g_widen (k1 := k + 73) (j1 := j + 2724) (by (try simp only [rmc_L_law, rms_L_law, rmc_X11_init, rms_X11_init, rmc_X12_init, rms_X12_init, rmc_X11_image, rms_X11_image]); omega) (by (try simp only [rmc_L_law, rms_L_law, rmc_X11_init, rms_X11_init, rmc_X12_init, rms_X12_init, rmc_X11_image, rms_X11_image]); omega) ?_
                refine g_sub [] rfl ?_
                exact hx12 _ _ rfl
        · replace hF := q_f c351 hF
          refine g_iconst dL_law_699 lt_iconst_1 ?_
          refine g_goto 704 dL_law_700 (by decide) ?_
          obtain ⟨u391, e392, hF⟩ := q_bind hF
          obtain ⟨x393, e394, hF⟩ := q_bind hF
          refine g_callVr0 (ci := 11) (q := (RX11, TX11, 8)) qm_X11_comes wd_1046 wd_1047 wd_1048 rfl e392 (M_X11_comes l b D z nx e394) (As := [.int x259, .int x261, .int x263, .int (1 : Int32), .int (1 : Int32)]) rfl rfl (Nat.le_of_ble_eq_true rfl) ⟨(Nat.le_of_ble_eq_true rfl), (Nat.le_of_ble_eq_true rfl)⟩ ⟨rfl, rfl⟩ ⟨(by (try simp only [rmc_L_law, rms_L_law, rmc_X11_init, rms_X11_init, rmc_X12_init, rms_X12_init, rmc_X11_image, rms_X11_image]); omega), (by (try simp only [rmc_L_law, rms_L_law, rmc_X11_init, rms_X11_init, rmc_X12_init, rms_X12_init, rmc_X11_image, rms_X11_image]); omega)⟩ dL_law_704 ?_
          refine g_aload_n 2 dL_law_707 rfl ?_
          refine g_aload_n 0 dL_law_708 rfl ?_
          refine g_iload_n 3 dL_law_709 rfl ?_
          refine g_iconst dL_law_710 lt_iconst_1 ?_
          refine g_iadd dL_law_711 ?_
          obtain ⟨x395, e396, hF⟩ := q_bind hF
          refine g_iald e396 dL_law_712 ?_
          refine g_aload_n 0 dL_law_713 rfl ?_
          refine g_iload_n 3 dL_law_714 rfl ?_
          refine g_iconst dL_law_715 lt_iconst_2 ?_
          refine g_iadd dL_law_716 ?_
          obtain ⟨x397, e398, hF⟩ := q_bind hF
          refine g_iald e398 dL_law_717 ?_
          refine g_aload_n 0 dL_law_718 rfl ?_
          refine g_iload_n 3 dL_law_719 rfl ?_
          refine g_iconst dL_law_720 lt_iconst_3 ?_
          refine g_iadd dL_law_721 ?_
          obtain ⟨x399, e400, hF⟩ := q_bind hF
          refine g_iald e400 dL_law_722 ?_
          refine g_aload_n 0 dL_law_723 rfl ?_
          refine g_iload_n 3 dL_law_724 rfl ?_
          refine g_iconst dL_law_725 lt_iconst_4 ?_
          refine g_iadd dL_law_726 ?_
          obtain ⟨x401, e402, hF⟩ := q_bind hF
          refine g_iald e402 dL_law_727 ?_
          refine g_if_eq 735 dL_law_728 (by decide) (fun c403 => ?_) (fun c403 => ?_)
          · replace hF := q_t c403 hF
            refine g_iconst dL_law_735 lt_iconst_0 ?_
            refine g_aload_n 0 dL_law_736 rfl ?_
            refine g_iload_n 3 dL_law_737 rfl ?_
            refine g_iconst dL_law_738 lt_iconst_5 ?_
            refine g_iadd dL_law_739 ?_
            obtain ⟨x404, e405, hF⟩ := q_bind hF
            refine g_iald e405 dL_law_740 ?_
            refine g_if_eq 748 dL_law_741 (by decide) (fun c406 => ?_) (fun c406 => ?_)
            · replace hF := q_t c406 hF
              refine g_iconst dL_law_748 lt_iconst_0 ?_
              obtain ⟨u407, e408, hF⟩ := q_bind hF
              obtain ⟨x409, e410, hF⟩ := q_bind hF
              refine g_callVr0 (ci := 12) (q := (RX12, TX12, 49)) qm_X12_comes wd_1918 wd_1919 wd_1920 rfl e408 (M_X12_comes l b D z nx e410) (As := [.int x395, .int x397, .int x399, .int (0 : Int32), .int (0 : Int32)]) rfl rfl (Nat.le_of_ble_eq_true rfl) ⟨(Nat.le_of_ble_eq_true rfl), (Nat.le_of_ble_eq_true rfl)⟩ ⟨rfl, rfl⟩ ⟨(by (try simp only [rmc_L_law, rms_L_law, rmc_X11_init, rms_X11_init, rmc_X12_init, rms_X12_init, rmc_X11_image, rms_X11_image]); omega), (by (try simp only [rmc_L_law, rms_L_law, rmc_X11_init, rms_X11_init, rmc_X12_init, rms_X12_init, rmc_X11_image, rms_X11_image]); omega)⟩ dL_law_749 ?_
              refine g_lcmp dL_law_752 ?_
              refine g_if_eq 1575 dL_law_753 (by decide) (fun c411 => ?_) (fun c411 => ?_)
              · replace hF := q_t c411 hF
                refine g_iinc [(3, .int (a3 + 6)), (0, .ref a0), (1, .ref a1), (2, .ref a2)] 3 dL_law_1575 rfl (congrArg (a3 + ·) lt_iconst_6) (Nat.le_of_ble_eq_true rfl) rfl ?_
                refine g_goto 18 dL_law_1578 (by decide) ?_
                cases hF
                refine g_widen (k1 := k + 73) (j1 := j + 2724) (by (try simp only [rmc_L_law, rms_L_law, rmc_X11_init, rms_X11_init, rmc_X12_init, rms_X12_init, rmc_X11_image, rms_X11_image]); omega) (by (try simp only [rmc_L_law, rms_L_law, rmc_X11_init, rms_X11_init, rmc_X12_init, rms_X12_init, rmc_X11_image, rms_X11_image]); omega) ?_
                refine g_sub [1, 2, 3, 0] rfl ?_
                exact hback _ _ _ rfl
              · replace hF := q_f c411 hF
                cases hF
                refine g_widen (k1 := k + 73) (j1 := j + 2724) (by (try simp only [rmc_L_law, rms_L_law, rmc_X11_init, rms_X11_init, rmc_X12_init, rms_X12_init, rmc_X11_image, rms_X11_image]); omega) (by (try simp only [rmc_L_law, rms_L_law, rmc_X11_init, rms_X11_init, rmc_X12_init, rms_X12_init, rmc_X11_image, rms_X11_image]); omega) ?_
                refine g_sub [] rfl ?_
                exact hx12 _ _ rfl
            · replace hF := q_f c406 hF
              refine g_iconst dL_law_744 lt_iconst_1 ?_
              refine g_goto 749 dL_law_745 (by decide) ?_
              obtain ⟨u412, e413, hF⟩ := q_bind hF
              obtain ⟨x414, e415, hF⟩ := q_bind hF
              refine g_callVr0 (ci := 12) (q := (RX12, TX12, 49)) qm_X12_comes wd_1918 wd_1919 wd_1920 rfl e413 (M_X12_comes l b D z nx e415) (As := [.int x395, .int x397, .int x399, .int (0 : Int32), .int (1 : Int32)]) rfl rfl (Nat.le_of_ble_eq_true rfl) ⟨(Nat.le_of_ble_eq_true rfl), (Nat.le_of_ble_eq_true rfl)⟩ ⟨rfl, rfl⟩ ⟨(by (try simp only [rmc_L_law, rms_L_law, rmc_X11_init, rms_X11_init, rmc_X12_init, rms_X12_init, rmc_X11_image, rms_X11_image]); omega), (by (try simp only [rmc_L_law, rms_L_law, rmc_X11_init, rms_X11_init, rmc_X12_init, rms_X12_init, rmc_X11_image, rms_X11_image]); omega)⟩ dL_law_749 ?_
              refine g_lcmp dL_law_752 ?_
              refine g_if_eq 1575 dL_law_753 (by decide) (fun c416 => ?_) (fun c416 => ?_)
              · replace hF := q_t c416 hF
                refine g_iinc [(3, .int (a3 + 6)), (0, .ref a0), (1, .ref a1), (2, .ref a2)] 3 dL_law_1575 rfl (congrArg (a3 + ·) lt_iconst_6) (Nat.le_of_ble_eq_true rfl) rfl ?_
                refine g_goto 18 dL_law_1578 (by decide) ?_
                cases hF
                refine g_widen (k1 := k + 73) (j1 := j + 2724) (by (try simp only [rmc_L_law, rms_L_law, rmc_X11_init, rms_X11_init, rmc_X12_init, rms_X12_init, rmc_X11_image, rms_X11_image]); omega) (by (try simp only [rmc_L_law, rms_L_law, rmc_X11_init, rms_X11_init, rmc_X12_init, rms_X12_init, rmc_X11_image, rms_X11_image]); omega) ?_
                refine g_sub [1, 2, 3, 0] rfl ?_
                exact hback _ _ _ rfl
              · replace hF := q_f c416 hF
                cases hF
                refine g_widen (k1 := k + 73) (j1 := j + 2724) (by (try simp only [rmc_L_law, rms_L_law, rmc_X11_init, rms_X11_init, rmc_X12_init, rms_X12_init, rmc_X11_image, rms_X11_image]); omega) (by (try simp only [rmc_L_law, rms_L_law, rmc_X11_init, rms_X11_init, rmc_X12_init, rms_X12_init, rmc_X11_image, rms_X11_image]); omega) ?_
                refine g_sub [] rfl ?_
                exact hx12 _ _ rfl
          · replace hF := q_f c403 hF
            refine g_iconst dL_law_731 lt_iconst_1 ?_
            refine g_goto 736 dL_law_732 (by decide) ?_
            refine g_aload_n 0 dL_law_736 rfl ?_
            refine g_iload_n 3 dL_law_737 rfl ?_
            refine g_iconst dL_law_738 lt_iconst_5 ?_
            refine g_iadd dL_law_739 ?_
            obtain ⟨x417, e418, hF⟩ := q_bind hF
            refine g_iald e418 dL_law_740 ?_
            refine g_if_eq 748 dL_law_741 (by decide) (fun c419 => ?_) (fun c419 => ?_)
            · replace hF := q_t c419 hF
              refine g_iconst dL_law_748 lt_iconst_0 ?_
              obtain ⟨u420, e421, hF⟩ := q_bind hF
              obtain ⟨x422, e423, hF⟩ := q_bind hF
              refine g_callVr0 (ci := 12) (q := (RX12, TX12, 49)) qm_X12_comes wd_1918 wd_1919 wd_1920 rfl e421 (M_X12_comes l b D z nx e423) (As := [.int x395, .int x397, .int x399, .int (1 : Int32), .int (0 : Int32)]) rfl rfl (Nat.le_of_ble_eq_true rfl) ⟨(Nat.le_of_ble_eq_true rfl), (Nat.le_of_ble_eq_true rfl)⟩ ⟨rfl, rfl⟩ ⟨(by (try simp only [rmc_L_law, rms_L_law, rmc_X11_init, rms_X11_init, rmc_X12_init, rms_X12_init, rmc_X11_image, rms_X11_image]); omega), (by (try simp only [rmc_L_law, rms_L_law, rmc_X11_init, rms_X11_init, rmc_X12_init, rms_X12_init, rmc_X11_image, rms_X11_image]); omega)⟩ dL_law_749 ?_
              refine g_lcmp dL_law_752 ?_
              refine g_if_eq 1575 dL_law_753 (by decide) (fun c424 => ?_) (fun c424 => ?_)
              · replace hF := q_t c424 hF
                refine g_iinc [(3, .int (a3 + 6)), (0, .ref a0), (1, .ref a1), (2, .ref a2)] 3 dL_law_1575 rfl (congrArg (a3 + ·) lt_iconst_6) (Nat.le_of_ble_eq_true rfl) rfl ?_
                refine g_goto 18 dL_law_1578 (by decide) ?_
                cases hF
                refine g_widen (k1 := k + 73) (j1 := j + 2724) (by (try simp only [rmc_L_law, rms_L_law, rmc_X11_init, rms_X11_init, rmc_X12_init, rms_X12_init, rmc_X11_image, rms_X11_image]); omega) (by (try simp only [rmc_L_law, rms_L_law, rmc_X11_init, rms_X11_init, rmc_X12_init, rms_X12_init, rmc_X11_image, rms_X11_image]); omega) ?_
                refine g_sub [1, 2, 3, 0] rfl ?_
                exact hback _ _ _ rfl
              · replace hF := q_f c424 hF
                cases hF
                refine g_widen (k1 := k + 73) (j1 := j + 2724) (by (try simp only [rmc_L_law, rms_L_law, rmc_X11_init, rms_X11_init, rmc_X12_init, rms_X12_init, rmc_X11_image, rms_X11_image]); omega) (by (try simp only [rmc_L_law, rms_L_law, rmc_X11_init, rms_X11_init, rmc_X12_init, rms_X12_init, rmc_X11_image, rms_X11_image]); omega) ?_
                refine g_sub [] rfl ?_
                exact hx12 _ _ rfl
            · replace hF := q_f c419 hF
              refine g_iconst dL_law_744 lt_iconst_1 ?_
              refine g_goto 749 dL_law_745 (by decide) ?_
              obtain ⟨u425, e426, hF⟩ := q_bind hF
              obtain ⟨x427, e428, hF⟩ := q_bind hF
              refine g_callVr0 (ci := 12) (q := (RX12, TX12, 49)) qm_X12_comes wd_1918 wd_1919 wd_1920 rfl e426 (M_X12_comes l b D z nx e428) (As := [.int x395, .int x397, .int x399, .int (1 : Int32), .int (1 : Int32)]) rfl rfl (Nat.le_of_ble_eq_true rfl) ⟨(Nat.le_of_ble_eq_true rfl), (Nat.le_of_ble_eq_true rfl)⟩ ⟨rfl, rfl⟩ ⟨(by (try simp only [rmc_L_law, rms_L_law, rmc_X11_init, rms_X11_init, rmc_X12_init, rms_X12_init, rmc_X11_image, rms_X11_image]); omega), (by (try simp only [rmc_L_law, rms_L_law, rmc_X11_init, rms_X11_init, rmc_X12_init, rms_X12_init, rmc_X11_image, rms_X11_image]); omega)⟩ dL_law_749 ?_
              refine g_lcmp dL_law_752 ?_
              refine g_if_eq 1575 dL_law_753 (by decide) (fun c429 => ?_) (fun c429 => ?_)
              · replace hF := q_t c429 hF
                refine g_iinc [(3, .int (a3 + 6)), (0, .ref a0), (1, .ref a1), (2, .ref a2)] 3 dL_law_1575 rfl (congrArg (a3 + ·) lt_iconst_6) (Nat.le_of_ble_eq_true rfl) rfl ?_
                refine g_goto 18 dL_law_1578 (by decide) ?_
                cases hF
                refine g_widen (k1 := k + 73) (j1 := j + 2724) (by (try simp only [rmc_L_law, rms_L_law, rmc_X11_init, rms_X11_init, rmc_X12_init, rms_X12_init, rmc_X11_image, rms_X11_image]); omega) (by (try simp only [rmc_L_law, rms_L_law, rmc_X11_init, rms_X11_init, rmc_X12_init, rms_X12_init, rmc_X11_image, rms_X11_image]); omega) ?_
                refine g_sub [1, 2, 3, 0] rfl ?_
                exact hback _ _ _ rfl
              · replace hF := q_f c429 hF
                cases hF
                refine g_widen (k1 := k + 73) (j1 := j + 2724) (by (try simp only [rmc_L_law, rms_L_law, rmc_X11_init, rms_X11_init, rmc_X12_init, rms_X12_init, rmc_X11_image, rms_X11_image]); omega) (by (try simp only [rmc_L_law, rms_L_law, rmc_X11_init, rms_X11_init, rmc_X12_init, rms_X12_init, rmc_X11_image, rms_X11_image]); omega) ?_
                refine g_sub [] rfl ?_
                exact hx12 _ _ rfl
    replace hF := q_f c258 hF
    by_cases c430 : (x4 &&& (31 : Int32)) = 13
    · replace hF := q_t c430 hF
      refine g_tabIn (off := 725) 758 dL_law_33 (by rw [c430]; decide) (by rw [c430]; decide) (by rw [c430]; decide) (by decide) ?_
      refine g_aload_n 1 dL_law_758 rfl ?_
      refine g_aload_n 0 dL_law_759 rfl ?_
      refine g_iload_n 3 dL_law_760 rfl ?_
      refine g_iconst dL_law_761 lt_iconst_1 ?_
      refine g_iadd dL_law_762 ?_
      obtain ⟨x431, e432, hF⟩ := q_bind hF
      refine g_iald e432 dL_law_763 ?_
      refine g_aload_n 0 dL_law_764 rfl ?_
      refine g_iload_n 3 dL_law_765 rfl ?_
      refine g_iconst dL_law_766 lt_iconst_2 ?_
      refine g_iadd dL_law_767 ?_
      obtain ⟨x433, e434, hF⟩ := q_bind hF
      refine g_iald e434 dL_law_768 ?_
      refine g_aload_n 0 dL_law_769 rfl ?_
      refine g_iload_n 3 dL_law_770 rfl ?_
      refine g_iconst dL_law_771 lt_iconst_3 ?_
      refine g_iadd dL_law_772 ?_
      obtain ⟨x435, e436, hF⟩ := q_bind hF
      refine g_iald e436 dL_law_773 ?_
      refine g_if_eq 781 dL_law_774 (by decide) (fun c437 => ?_) (fun c437 => ?_)
      · replace hF := q_t c437 hF
        refine g_iconst dL_law_781 lt_iconst_0 ?_
        refine g_aload_n 0 dL_law_782 rfl ?_
        refine g_iload_n 3 dL_law_783 rfl ?_
        refine g_iconst dL_law_784 lt_iconst_4 ?_
        refine g_iadd dL_law_785 ?_
        obtain ⟨x438, e439, hF⟩ := q_bind hF
        refine g_iald e439 dL_law_786 ?_
        refine g_if_eq 794 dL_law_787 (by decide) (fun c440 => ?_) (fun c440 => ?_)
        · replace hF := q_t c440 hF
          refine g_iconst dL_law_794 lt_iconst_0 ?_
          obtain ⟨u441, e442, hF⟩ := q_bind hF
          obtain ⟨x443, e444, hF⟩ := q_bind hF
          refine g_callVr0 (ci := 11) (q := (RX11, TX11, 8)) qm_X11_harm wd_1083 wd_1084 wd_1085 rfl e442 (M_X11_harm l b D z nx e444) (As := [.int x431, .int x433, .int (0 : Int32), .int (0 : Int32)]) rfl rfl (Nat.le_of_ble_eq_true rfl) ⟨(Nat.le_of_ble_eq_true rfl), (Nat.le_of_ble_eq_true rfl)⟩ ⟨rfl, rfl⟩ ⟨(by (try simp only [rmc_L_law, rms_L_law, rmc_X11_init, rms_X11_init, rmc_X12_init, rms_X12_init, rmc_X11_image, rms_X11_image]); omega), (by (try simp only [rmc_L_law, rms_L_law, rmc_X11_init, rms_X11_init, rmc_X12_init, rms_X12_init, rmc_X11_image, rms_X11_image]); omega)⟩ dL_law_795 ?_
          refine g_aload_n 2 dL_law_798 rfl ?_
          refine g_aload_n 0 dL_law_799 rfl ?_
          refine g_iload_n 3 dL_law_800 rfl ?_
          refine g_iconst dL_law_801 lt_iconst_1 ?_
          refine g_iadd dL_law_802 ?_
          obtain ⟨x445, e446, hF⟩ := q_bind hF
          refine g_iald e446 dL_law_803 ?_
          refine g_aload_n 0 dL_law_804 rfl ?_
          refine g_iload_n 3 dL_law_805 rfl ?_
          refine g_iconst dL_law_806 lt_iconst_2 ?_
          refine g_iadd dL_law_807 ?_
          obtain ⟨x447, e448, hF⟩ := q_bind hF
          refine g_iald e448 dL_law_808 ?_
          refine g_aload_n 0 dL_law_809 rfl ?_
          refine g_iload_n 3 dL_law_810 rfl ?_
          refine g_iconst dL_law_811 lt_iconst_3 ?_
          refine g_iadd dL_law_812 ?_
          obtain ⟨x449, e450, hF⟩ := q_bind hF
          refine g_iald e450 dL_law_813 ?_
          refine g_if_eq 821 dL_law_814 (by decide) (fun c451 => ?_) (fun c451 => ?_)
          · replace hF := q_t c451 hF
            refine g_iconst dL_law_821 lt_iconst_0 ?_
            refine g_aload_n 0 dL_law_822 rfl ?_
            refine g_iload_n 3 dL_law_823 rfl ?_
            refine g_iconst dL_law_824 lt_iconst_4 ?_
            refine g_iadd dL_law_825 ?_
            obtain ⟨x452, e453, hF⟩ := q_bind hF
            refine g_iald e453 dL_law_826 ?_
            refine g_if_eq 834 dL_law_827 (by decide) (fun c454 => ?_) (fun c454 => ?_)
            · replace hF := q_t c454 hF
              refine g_iconst dL_law_834 lt_iconst_0 ?_
              obtain ⟨u455, e456, hF⟩ := q_bind hF
              obtain ⟨x457, e458, hF⟩ := q_bind hF
              refine g_callVr0 (ci := 12) (q := (RX12, TX12, 49)) qm_X12_harm wd_1937 wd_1938 wd_1939 rfl e456 (M_X12_harm l b D z nx e458) (As := [.int x445, .int x447, .int (0 : Int32), .int (0 : Int32)]) rfl rfl (Nat.le_of_ble_eq_true rfl) ⟨(Nat.le_of_ble_eq_true rfl), (Nat.le_of_ble_eq_true rfl)⟩ ⟨rfl, rfl⟩ ⟨(by (try simp only [rmc_L_law, rms_L_law, rmc_X11_init, rms_X11_init, rmc_X12_init, rms_X12_init, rmc_X11_image, rms_X11_image]); omega), (by (try simp only [rmc_L_law, rms_L_law, rmc_X11_init, rms_X11_init, rmc_X12_init, rms_X12_init, rmc_X11_image, rms_X11_image]); omega)⟩ dL_law_835 ?_
              refine g_lcmp dL_law_838 ?_
              refine g_if_eq 1575 dL_law_839 (by decide) (fun c459 => ?_) (fun c459 => ?_)
              · replace hF := q_t c459 hF
                refine g_iinc [(3, .int (a3 + 6)), (0, .ref a0), (1, .ref a1), (2, .ref a2)] 3 dL_law_1575 rfl (congrArg (a3 + ·) lt_iconst_6) (Nat.le_of_ble_eq_true rfl) rfl ?_
                refine g_goto 18 dL_law_1578 (by decide) ?_
                cases hF
                refine g_widen (k1 := k + 73) (j1 := j + 2724) (by (try simp only [rmc_L_law, rms_L_law, rmc_X11_init, rms_X11_init, rmc_X12_init, rms_X12_init, rmc_X11_image, rms_X11_image]); omega) (by (try simp only [rmc_L_law, rms_L_law, rmc_X11_init, rms_X11_init, rmc_X12_init, rms_X12_init, rmc_X11_image, rms_X11_image]); omega) ?_
                refine g_sub [1, 2, 3, 0] rfl ?_
                exact hback _ _ _ rfl
              · replace hF := q_f c459 hF
                cases hF
                refine g_widen (k1 := k + 73) (j1 := j + 2724) (by (try simp only [rmc_L_law, rms_L_law, rmc_X11_init, rms_X11_init, rmc_X12_init, rms_X12_init, rmc_X11_image, rms_X11_image]); omega) (by (try simp only [rmc_L_law, rms_L_law, rmc_X11_init, rms_X11_init, rmc_X12_init, rms_X12_init, rmc_X11_image, rms_X11_image]); omega) ?_
                refine g_sub [] rfl ?_
                exact hx13 _ _ rfl
            · replace hF := q_f c454 hF
              refine g_iconst dL_law_830 lt_iconst_1 ?_
              refine g_goto 835 dL_law_831 (by decide) ?_
              obtain ⟨u460, e461, hF⟩ := q_bind hF
              obtain ⟨x462, e463, hF⟩ := q_bind hF
              refine g_callVr0 (ci := 12) (q := (RX12, TX12, 49)) qm_X12_harm wd_1937 wd_1938 wd_1939 rfl e461 (M_X12_harm l b D z nx e463) (As := [.int x445, .int x447, .int (0 : Int32), .int (1 : Int32)]) rfl rfl (Nat.le_of_ble_eq_true rfl) ⟨(Nat.le_of_ble_eq_true rfl), (Nat.le_of_ble_eq_true rfl)⟩ ⟨rfl, rfl⟩ ⟨(by (try simp only [rmc_L_law, rms_L_law, rmc_X11_init, rms_X11_init, rmc_X12_init, rms_X12_init, rmc_X11_image, rms_X11_image]); omega), (by (try simp only [rmc_L_law, rms_L_law, rmc_X11_init, rms_X11_init, rmc_X12_init, rms_X12_init, rmc_X11_image, rms_X11_image]); omega)⟩ dL_law_835 ?_
              refine g_lcmp dL_law_838 ?_
              refine g_if_eq 1575 dL_law_839 (by decide) (fun c464 => ?_) (fun c464 => ?_)
              · replace hF := q_t c464 hF
                refine g_iinc [(3, .int (a3 + 6)), (0, .ref a0), (1, .ref a1), (2, .ref a2)] 3 dL_law_1575 rfl (congrArg (a3 + ·) lt_iconst_6) (Nat.le_of_ble_eq_true rfl) rfl ?_
                refine g_goto 18 dL_law_1578 (by decide) ?_
                cases hF
                refine g_widen (k1 := k + 73) (j1 := j + 2724) (by (try simp only [rmc_L_law, rms_L_law, rmc_X11_init, rms_X11_init, rmc_X12_init, rms_X12_init, rmc_X11_image, rms_X11_image]); omega) (by (try simp only [rmc_L_law, rms_L_law, rmc_X11_init, rms_X11_init, rmc_X12_init, rms_X12_init, rmc_X11_image, rms_X11_image]); omega) ?_
                refine g_sub [1, 2, 3, 0] rfl ?_
                exact hback _ _ _ rfl
              · replace hF := q_f c464 hF
                cases hF
                refine g_widen (k1 := k + 73) (j1 := j + 2724) (by (try simp only [rmc_L_law, rms_L_law, rmc_X11_init, rms_X11_init, rmc_X12_init, rms_X12_init, rmc_X11_image, rms_X11_image]); omega) (by (try simp only [rmc_L_law, rms_L_law, rmc_X11_init, rms_X11_init, rmc_X12_init, rms_X12_init, rmc_X11_image, rms_X11_image]); omega) ?_
                refine g_sub [] rfl ?_
                exact hx13 _ _ rfl
          · replace hF := q_f c451 hF
            refine g_iconst dL_law_817 lt_iconst_1 ?_
            refine g_goto 822 dL_law_818 (by decide) ?_
            refine g_aload_n 0 dL_law_822 rfl ?_
            refine g_iload_n 3 dL_law_823 rfl ?_
            refine g_iconst dL_law_824 lt_iconst_4 ?_
            refine g_iadd dL_law_825 ?_
            obtain ⟨x465, e466, hF⟩ := q_bind hF
            refine g_iald e466 dL_law_826 ?_
            refine g_if_eq 834 dL_law_827 (by decide) (fun c467 => ?_) (fun c467 => ?_)
            · replace hF := q_t c467 hF
              refine g_iconst dL_law_834 lt_iconst_0 ?_
              obtain ⟨u468, e469, hF⟩ := q_bind hF
              obtain ⟨x470, e471, hF⟩ := q_bind hF
              refine g_callVr0 (ci := 12) (q := (RX12, TX12, 49)) qm_X12_harm wd_1937 wd_1938 wd_1939 rfl e469 (M_X12_harm l b D z nx e471) (As := [.int x445, .int x447, .int (1 : Int32), .int (0 : Int32)]) rfl rfl (Nat.le_of_ble_eq_true rfl) ⟨(Nat.le_of_ble_eq_true rfl), (Nat.le_of_ble_eq_true rfl)⟩ ⟨rfl, rfl⟩ ⟨(by (try simp only [rmc_L_law, rms_L_law, rmc_X11_init, rms_X11_init, rmc_X12_init, rms_X12_init, rmc_X11_image, rms_X11_image]); omega), (by (try simp only [rmc_L_law, rms_L_law, rmc_X11_init, rms_X11_init, rmc_X12_init, rms_X12_init, rmc_X11_image, rms_X11_image]); omega)⟩ dL_law_835 ?_
              refine g_lcmp dL_law_838 ?_
              refine g_if_eq 1575 dL_law_839 (by decide) (fun c472 => ?_) (fun c472 => ?_)
              · replace hF := q_t c472 hF
                refine g_iinc [(3, .int (a3 + 6)), (0, .ref a0), (1, .ref a1), (2, .ref a2)] 3 dL_law_1575 rfl (congrArg (a3 + ·) lt_iconst_6) (Nat.le_of_ble_eq_true rfl) rfl ?_
                refine g_goto 18 dL_law_1578 (by decide) ?_
                cases hF
                refine g_widen (k1 := k + 73) (j1 := j + 2724) (by (try simp only [rmc_L_law, rms_L_law, rmc_X11_init, rms_X11_init, rmc_X12_init, rms_X12_init, rmc_X11_image, rms_X11_image]); omega) (by (try simp only [rmc_L_law, rms_L_law, rmc_X11_init, rms_X11_init, rmc_X12_init, rms_X12_init, rmc_X11_image, rms_X11_image]); omega) ?_
                refine g_sub [1, 2, 3, 0] rfl ?_
                exact hback _ _ _ rfl
              · replace hF := q_f c472 hF
                cases hF
                refine g_widen (k1 := k + 73) (j1 := j + 2724) (by (try simp only [rmc_L_law, rms_L_law, rmc_X11_init, rms_X11_init, rmc_X12_init, rms_X12_init, rmc_X11_image, rms_X11_image]); omega) (by (try simp only [rmc_L_law, rms_L_law, rmc_X11_init, rms_X11_init, rmc_X12_init, rms_X12_init, rmc_X11_image, rms_X11_image]); omega) ?_
                refine g_sub [] rfl ?_
                exact hx13 _ _ rfl
            · replace hF := q_f c467 hF
              refine g_iconst dL_law_830 lt_iconst_1 ?_
              refine g_goto 835 dL_law_831 (by decide) ?_
              obtain ⟨u473, e474, hF⟩ := q_bind hF
              obtain ⟨x475, e476, hF⟩ := q_bind hF
              refine g_callVr0 (ci := 12) (q := (RX12, TX12, 49)) qm_X12_harm wd_1937 wd_1938 wd_1939 rfl e474 (M_X12_harm l b D z nx e476) (As := [.int x445, .int x447, .int (1 : Int32), .int (1 : Int32)]) rfl rfl (Nat.le_of_ble_eq_true rfl) ⟨(Nat.le_of_ble_eq_true rfl), (Nat.le_of_ble_eq_true rfl)⟩ ⟨rfl, rfl⟩ ⟨(by (try simp only [rmc_L_law, rms_L_law, rmc_X11_init, rms_X11_init, rmc_X12_init, rms_X12_init, rmc_X11_image, rms_X11_image]); omega), (by (try simp only [rmc_L_law, rms_L_law, rmc_X11_init, rms_X11_init, rmc_X12_init, rms_X12_init, rmc_X11_image, rms_X11_image]); omega)⟩ dL_law_835 ?_
              refine g_lcmp dL_law_838 ?_
              refine g_if_eq 1575 dL_law_839 (by decide) (fun c477 => ?_) (fun c477 => ?_)
              · replace hF := q_t c477 hF
                refine g_iinc [(3, .int (a3 + 6)), (0, .ref a0), (1, .ref a1), (2, .ref a2)] 3 dL_law_1575 rfl (congrArg (a3 + ·) lt_iconst_6) (Nat.le_of_ble_eq_true rfl) rfl ?_
                refine g_goto 18 dL_law_1578 (by decide) ?_
                cases hF
                refine g_widen (k1 := k + 73) (j1 := j + 2724) (by (try simp only [rmc_L_law, rms_L_law, rmc_X11_init, rms_X11_init, rmc_X12_init, rms_X12_init, rmc_X11_image, rms_X11_image]); omega) (by (try simp only [rmc_L_law, rms_L_law, rmc_X11_init, rms_X11_init, rmc_X12_init, rms_X12_init, rmc_X11_image, rms_X11_image]); omega) ?_
                refine g_sub [1, 2, 3, 0] rfl ?_
                exact hback _ _ _ rfl
              · replace hF := q_f c477 hF
                cases hF
                refine g_widen (k1 := k + 73) (j1 := j + 2724) (by (try simp only [rmc_L_law, rms_L_law, rmc_X11_init, rms_X11_init, rmc_X12_init, rms_X12_init, rmc_X11_image, rms_X11_image]); omega) (by (try simp only [rmc_L_law, rms_L_law, rmc_X11_init, rms_X11_init, rmc_X12_init, rms_X12_init, rmc_X11_image, rms_X11_image]); omega) ?_
                refine g_sub [] rfl ?_
                exact hx13 _ _ rfl
        · replace hF := q_f c440 hF
          refine g_iconst dL_law_790 lt_iconst_1 ?_
          refine g_goto 795 dL_law_791 (by decide) ?_
          obtain ⟨u478, e479, hF⟩ := q_bind hF
          obtain ⟨x480, e481, hF⟩ := q_bind hF
          refine g_callVr0 (ci := 11) (q := (RX11, TX11, 8)) qm_X11_harm wd_1083 wd_1084 wd_1085 rfl e479 (M_X11_harm l b D z nx e481) (As := [.int x431, .int x433, .int (0 : Int32), .int (1 : Int32)]) rfl rfl (Nat.le_of_ble_eq_true rfl) ⟨(Nat.le_of_ble_eq_true rfl), (Nat.le_of_ble_eq_true rfl)⟩ ⟨rfl, rfl⟩ ⟨(by (try simp only [rmc_L_law, rms_L_law, rmc_X11_init, rms_X11_init, rmc_X12_init, rms_X12_init, rmc_X11_image, rms_X11_image]); omega), (by (try simp only [rmc_L_law, rms_L_law, rmc_X11_init, rms_X11_init, rmc_X12_init, rms_X12_init, rmc_X11_image, rms_X11_image]); omega)⟩ dL_law_795 ?_
          refine g_aload_n 2 dL_law_798 rfl ?_
          refine g_aload_n 0 dL_law_799 rfl ?_
          refine g_iload_n 3 dL_law_800 rfl ?_
          refine g_iconst dL_law_801 lt_iconst_1 ?_
          refine g_iadd dL_law_802 ?_
          obtain ⟨x482, e483, hF⟩ := q_bind hF
          refine g_iald e483 dL_law_803 ?_
          refine g_aload_n 0 dL_law_804 rfl ?_
          refine g_iload_n 3 dL_law_805 rfl ?_
          refine g_iconst dL_law_806 lt_iconst_2 ?_
          refine g_iadd dL_law_807 ?_
          obtain ⟨x484, e485, hF⟩ := q_bind hF
          refine g_iald e485 dL_law_808 ?_
          refine g_aload_n 0 dL_law_809 rfl ?_
          refine g_iload_n 3 dL_law_810 rfl ?_
          refine g_iconst dL_law_811 lt_iconst_3 ?_
          refine g_iadd dL_law_812 ?_
          obtain ⟨x486, e487, hF⟩ := q_bind hF
          refine g_iald e487 dL_law_813 ?_
          refine g_if_eq 821 dL_law_814 (by decide) (fun c488 => ?_) (fun c488 => ?_)
          · replace hF := q_t c488 hF
            refine g_iconst dL_law_821 lt_iconst_0 ?_
            refine g_aload_n 0 dL_law_822 rfl ?_
            refine g_iload_n 3 dL_law_823 rfl ?_
            refine g_iconst dL_law_824 lt_iconst_4 ?_
            refine g_iadd dL_law_825 ?_
            obtain ⟨x489, e490, hF⟩ := q_bind hF
            refine g_iald e490 dL_law_826 ?_
            refine g_if_eq 834 dL_law_827 (by decide) (fun c491 => ?_) (fun c491 => ?_)
            · replace hF := q_t c491 hF
              refine g_iconst dL_law_834 lt_iconst_0 ?_
              obtain ⟨u492, e493, hF⟩ := q_bind hF
              obtain ⟨x494, e495, hF⟩ := q_bind hF
              refine g_callVr0 (ci := 12) (q := (RX12, TX12, 49)) qm_X12_harm wd_1937 wd_1938 wd_1939 rfl e493 (M_X12_harm l b D z nx e495) (As := [.int x482, .int x484, .int (0 : Int32), .int (0 : Int32)]) rfl rfl (Nat.le_of_ble_eq_true rfl) ⟨(Nat.le_of_ble_eq_true rfl), (Nat.le_of_ble_eq_true rfl)⟩ ⟨rfl, rfl⟩ ⟨(by (try simp only [rmc_L_law, rms_L_law, rmc_X11_init, rms_X11_init, rmc_X12_init, rms_X12_init, rmc_X11_image, rms_X11_image]); omega), (by (try simp only [rmc_L_law, rms_L_law, rmc_X11_init, rms_X11_init, rmc_X12_init, rms_X12_init, rmc_X11_image, rms_X11_image]); omega)⟩ dL_law_835 ?_
              refine g_lcmp dL_law_838 ?_
              refine g_if_eq 1575 dL_law_839 (by decide) (fun c496 => ?_) (fun c496 => ?_)
              · replace hF := q_t c496 hF
                refine g_iinc [(3, .int (a3 + 6)), (0, .ref a0), (1, .ref a1), (2, .ref a2)] 3 dL_law_1575 rfl (congrArg (a3 + ·) lt_iconst_6) (Nat.le_of_ble_eq_true rfl) rfl ?_
                refine g_goto 18 dL_law_1578 (by decide) ?_
                cases hF
                refine g_widen (k1 := k + 73) (j1 := j + 2724) (by (try simp only [rmc_L_law, rms_L_law, rmc_X11_init, rms_X11_init, rmc_X12_init, rms_X12_init, rmc_X11_image, rms_X11_image]); omega) (by (try simp only [rmc_L_law, rms_L_law, rmc_X11_init, rms_X11_init, rmc_X12_init, rms_X12_init, rmc_X11_image, rms_X11_image]); omega) ?_
                refine g_sub [1, 2, 3, 0] rfl ?_
                exact hback _ _ _ rfl
              · replace hF := q_f c496 hF
                cases hF
                refine g_widen (k1 := k + 73) (j1 := j + 2724) (by (try simp only [rmc_L_law, rms_L_law, rmc_X11_init, rms_X11_init, rmc_X12_init, rms_X12_init, rmc_X11_image, rms_X11_image]); omega) (by (try simp only [rmc_L_law, rms_L_law, rmc_X11_init, rms_X11_init, rmc_X12_init, rms_X12_init, rmc_X11_image, rms_X11_image]); omega) ?_
                refine g_sub [] rfl ?_
                exact hx13 _ _ rfl
            · replace hF := q_f c491 hF
              refine g_iconst dL_law_830 lt_iconst_1 ?_
              refine g_goto 835 dL_law_831 (by decide) ?_
              obtain ⟨u497, e498, hF⟩ := q_bind hF
              obtain ⟨x499, e500, hF⟩ := q_bind hF
              refine g_callVr0 (ci := 12) (q := (RX12, TX12, 49)) qm_X12_harm wd_1937 wd_1938 wd_1939 rfl e498 (M_X12_harm l b D z nx e500) (As := [.int x482, .int x484, .int (0 : Int32), .int (1 : Int32)]) rfl rfl (Nat.le_of_ble_eq_true rfl) ⟨(Nat.le_of_ble_eq_true rfl), (Nat.le_of_ble_eq_true rfl)⟩ ⟨rfl, rfl⟩ ⟨(by (try simp only [rmc_L_law, rms_L_law, rmc_X11_init, rms_X11_init, rmc_X12_init, rms_X12_init, rmc_X11_image, rms_X11_image]); omega), (by (try simp only [rmc_L_law, rms_L_law, rmc_X11_init, rms_X11_init, rmc_X12_init, rms_X12_init, rmc_X11_image, rms_X11_image]); omega)⟩ dL_law_835 ?_
              refine g_lcmp dL_law_838 ?_
              refine g_if_eq 1575 dL_law_839 (by decide) (fun c501 => ?_) (fun c501 => ?_)
              · replace hF := q_t c501 hF
                refine g_iinc [(3, .int (a3 + 6)), (0, .ref a0), (1, .ref a1), (2, .ref a2)] 3 dL_law_1575 rfl (congrArg (a3 + ·) lt_iconst_6) (Nat.le_of_ble_eq_true rfl) rfl ?_
                refine g_goto 18 dL_law_1578 (by decide) ?_
                cases hF
                refine g_widen (k1 := k + 73) (j1 := j + 2724) (by (try simp only [rmc_L_law, rms_L_law, rmc_X11_init, rms_X11_init, rmc_X12_init, rms_X12_init, rmc_X11_image, rms_X11_image]); omega) (by (try simp only [rmc_L_law, rms_L_law, rmc_X11_init, rms_X11_init, rmc_X12_init, rms_X12_init, rmc_X11_image, rms_X11_image]); omega) ?_
                refine g_sub [1, 2, 3, 0] rfl ?_
                exact hback _ _ _ rfl
              · replace hF := q_f c501 hF
                cases hF
                refine g_widen (k1 := k + 73) (j1 := j + 2724) (by (try simp only [rmc_L_law, rms_L_law, rmc_X11_init, rms_X11_init, rmc_X12_init, rms_X12_init, rmc_X11_image, rms_X11_image]); omega) (by (try simp only [rmc_L_law, rms_L_law, rmc_X11_init, rms_X11_init, rmc_X12_init, rms_X12_init, rmc_X11_image, rms_X11_image]); omega) ?_
                refine g_sub [] rfl ?_
                exact hx13 _ _ rfl
          · replace hF := q_f c488 hF
            refine g_iconst dL_law_817 lt_iconst_1 ?_
            refine g_goto 822 dL_law_818 (by decide) ?_
            refine g_aload_n 0 dL_law_822 rfl ?_
            refine g_iload_n 3 dL_law_823 rfl ?_
            refine g_iconst dL_law_824 lt_iconst_4 ?_
            refine g_iadd dL_law_825 ?_
            obtain ⟨x502, e503, hF⟩ := q_bind hF
            refine g_iald e503 dL_law_826 ?_
            refine g_if_eq 834 dL_law_827 (by decide) (fun c504 => ?_) (fun c504 => ?_)
            · replace hF := q_t c504 hF
              refine g_iconst dL_law_834 lt_iconst_0 ?_
              obtain ⟨u505, e506, hF⟩ := q_bind hF
              obtain ⟨x507, e508, hF⟩ := q_bind hF
              refine g_callVr0 (ci := 12) (q := (RX12, TX12, 49)) qm_X12_harm wd_1937 wd_1938 wd_1939 rfl e506 (M_X12_harm l b D z nx e508) (As := [.int x482, .int x484, .int (1 : Int32), .int (0 : Int32)]) rfl rfl (Nat.le_of_ble_eq_true rfl) ⟨(Nat.le_of_ble_eq_true rfl), (Nat.le_of_ble_eq_true rfl)⟩ ⟨rfl, rfl⟩ ⟨(by (try simp only [rmc_L_law, rms_L_law, rmc_X11_init, rms_X11_init, rmc_X12_init, rms_X12_init, rmc_X11_image, rms_X11_image]); omega), (by (try simp only [rmc_L_law, rms_L_law, rmc_X11_init, rms_X11_init, rmc_X12_init, rms_X12_init, rmc_X11_image, rms_X11_image]); omega)⟩ dL_law_835 ?_
              refine g_lcmp dL_law_838 ?_
              refine g_if_eq 1575 dL_law_839 (by decide) (fun c509 => ?_) (fun c509 => ?_)
              · replace hF := q_t c509 hF
                refine g_iinc [(3, .int (a3 + 6)), (0, .ref a0), (1, .ref a1), (2, .ref a2)] 3 dL_law_1575 rfl (congrArg (a3 + ·) lt_iconst_6) (Nat.le_of_ble_eq_true rfl) rfl ?_
                refine g_goto 18 dL_law_1578 (by decide) ?_
                cases hF
                refine g_widen (k1 := k + 73) (j1 := j + 2724) (by (try simp only [rmc_L_law, rms_L_law, rmc_X11_init, rms_X11_init, rmc_X12_init, rms_X12_init, rmc_X11_image, rms_X11_image]); omega) (by (try simp only [rmc_L_law, rms_L_law, rmc_X11_init, rms_X11_init, rmc_X12_init, rms_X12_init, rmc_X11_image, rms_X11_image]); omega) ?_
                refine g_sub [1, 2, 3, 0] rfl ?_
                exact hback _ _ _ rfl
              · replace hF := q_f c509 hF
                cases hF
                refine g_widen (k1 := k + 73) (j1 := j + 2724) (by (try simp only [rmc_L_law, rms_L_law, rmc_X11_init, rms_X11_init, rmc_X12_init, rms_X12_init, rmc_X11_image, rms_X11_image]); omega) (by (try simp only [rmc_L_law, rms_L_law, rmc_X11_init, rms_X11_init, rmc_X12_init, rms_X12_init, rmc_X11_image, rms_X11_image]); omega) ?_
                refine g_sub [] rfl ?_
                exact hx13 _ _ rfl
            · replace hF := q_f c504 hF
              refine g_iconst dL_law_830 lt_iconst_1 ?_
              refine g_goto 835 dL_law_831 (by decide) ?_
              obtain ⟨u510, e511, hF⟩ := q_bind hF
              obtain ⟨x512, e513, hF⟩ := q_bind hF
              refine g_callVr0 (ci := 12) (q := (RX12, TX12, 49)) qm_X12_harm wd_1937 wd_1938 wd_1939 rfl e511 (M_X12_harm l b D z nx e513) (As := [.int x482, .int x484, .int (1 : Int32), .int (1 : Int32)]) rfl rfl (Nat.le_of_ble_eq_true rfl) ⟨(Nat.le_of_ble_eq_true rfl), (Nat.le_of_ble_eq_true rfl)⟩ ⟨rfl, rfl⟩ ⟨(by (try simp only [rmc_L_law, rms_L_law, rmc_X11_init, rms_X11_init, rmc_X12_init, rms_X12_init, rmc_X11_image, rms_X11_image]); omega), (by (try simp only [rmc_L_law, rms_L_law, rmc_X11_init, rms_X11_init, rmc_X12_init, rms_X12_init, rmc_X11_image, rms_X11_image]); omega)⟩ dL_law_835 ?_
              refine g_lcmp dL_law_838 ?_
              refine g_if_eq 1575 dL_law_839 (by decide) (fun c514 => ?_) (fun c514 => ?_)
              · replace hF := q_t c514 hF
                refine g_iinc [(3, .int (a3 + 6)), (0, .ref a0), (1, .ref a1), (2, .ref a2)] 3 dL_law_1575 rfl (congrArg (a3 + ·) lt_iconst_6) (Nat.le_of_ble_eq_true rfl) rfl ?_
                refine g_goto 18 dL_law_1578 (by decide) ?_
                cases hF
                refine g_widen (k1 := k + 73) (j1 := j + 2724) (by (try simp only [rmc_L_law, rms_L_law, rmc_X11_init, rms_X11_init, rmc_X12_init, rms_X12_init, rmc_X11_image, rms_X11_image]); omega) (by (try simp only [rmc_L_law, rms_L_law, rmc_X11_init, rms_X11_init, rmc_X12_init, rms_X12_init, rmc_X11_image, rms_X11_image]); omega) ?_
                refine g_sub [1, 2, 3, 0] rfl ?_
                exact hback _ _ _ rfl
              · replace hF := q_f c514 hF
                cases hF
                refine g_widen (k1 := k + 73) (j1 := j + 2724) (by (try simp only [rmc_L_law, rms_L_law, rmc_X11_init, rms_X11_init, rmc_X12_init, rms_X12_init, rmc_X11_image, rms_X11_image]); omega) (by (try simp only [rmc_L_law, rms_L_law, rmc_X11_init, rms_X11_init, rmc_X12_init, rms_X12_init, rmc_X11_image, rms_X11_image]); omega) ?_
                refine g_sub [] rfl ?_
                exact hx13 _ _ rfl
      · replace hF := q_f c437 hF
        refine g_iconst dL_law_777 lt_iconst_1 ?_
        refine g_goto 782 dL_law_778 (by decide) ?_
        refine g_aload_n 0 dL_law_782 rfl ?_
        refine g_iload_n 3 dL_law_783 rfl ?_
        refine g_iconst dL_law_784 lt_iconst_4 ?_
        refine g_iadd dL_law_785 ?_
        obtain ⟨x515, e516, hF⟩ := q_bind hF
        refine g_iald e516 dL_law_786 ?_
        refine g_if_eq 794 dL_law_787 (by decide) (fun c517 => ?_) (fun c517 => ?_)
        · replace hF := q_t c517 hF
          refine g_iconst dL_law_794 lt_iconst_0 ?_
          obtain ⟨u518, e519, hF⟩ := q_bind hF
          obtain ⟨x520, e521, hF⟩ := q_bind hF
          refine g_callVr0 (ci := 11) (q := (RX11, TX11, 8)) qm_X11_harm wd_1083 wd_1084 wd_1085 rfl e519 (M_X11_harm l b D z nx e521) (As := [.int x431, .int x433, .int (1 : Int32), .int (0 : Int32)]) rfl rfl (Nat.le_of_ble_eq_true rfl) ⟨(Nat.le_of_ble_eq_true rfl), (Nat.le_of_ble_eq_true rfl)⟩ ⟨rfl, rfl⟩ ⟨(by (try simp only [rmc_L_law, rms_L_law, rmc_X11_init, rms_X11_init, rmc_X12_init, rms_X12_init, rmc_X11_image, rms_X11_image]); omega), (by (try simp only [rmc_L_law, rms_L_law, rmc_X11_init, rms_X11_init, rmc_X12_init, rms_X12_init, rmc_X11_image, rms_X11_image]); omega)⟩ dL_law_795 ?_
          refine g_aload_n 2 dL_law_798 rfl ?_
          refine g_aload_n 0 dL_law_799 rfl ?_
          refine g_iload_n 3 dL_law_800 rfl ?_
          refine g_iconst dL_law_801 lt_iconst_1 ?_
          refine g_iadd dL_law_802 ?_
          obtain ⟨x522, e523, hF⟩ := q_bind hF
          refine g_iald e523 dL_law_803 ?_
          refine g_aload_n 0 dL_law_804 rfl ?_
          refine g_iload_n 3 dL_law_805 rfl ?_
          refine g_iconst dL_law_806 lt_iconst_2 ?_
          refine g_iadd dL_law_807 ?_
          obtain ⟨x524, e525, hF⟩ := q_bind hF
          refine g_iald e525 dL_law_808 ?_
          refine g_aload_n 0 dL_law_809 rfl ?_
          refine g_iload_n 3 dL_law_810 rfl ?_
          refine g_iconst dL_law_811 lt_iconst_3 ?_
          refine g_iadd dL_law_812 ?_
          obtain ⟨x526, e527, hF⟩ := q_bind hF
          refine g_iald e527 dL_law_813 ?_
          refine g_if_eq 821 dL_law_814 (by decide) (fun c528 => ?_) (fun c528 => ?_)
          · replace hF := q_t c528 hF
            refine g_iconst dL_law_821 lt_iconst_0 ?_
            refine g_aload_n 0 dL_law_822 rfl ?_
            refine g_iload_n 3 dL_law_823 rfl ?_
            refine g_iconst dL_law_824 lt_iconst_4 ?_
            refine g_iadd dL_law_825 ?_
            obtain ⟨x529, e530, hF⟩ := q_bind hF
            refine g_iald e530 dL_law_826 ?_
            refine g_if_eq 834 dL_law_827 (by decide) (fun c531 => ?_) (fun c531 => ?_)
            · replace hF := q_t c531 hF
              refine g_iconst dL_law_834 lt_iconst_0 ?_
              obtain ⟨u532, e533, hF⟩ := q_bind hF
              obtain ⟨x534, e535, hF⟩ := q_bind hF
              refine g_callVr0 (ci := 12) (q := (RX12, TX12, 49)) qm_X12_harm wd_1937 wd_1938 wd_1939 rfl e533 (M_X12_harm l b D z nx e535) (As := [.int x522, .int x524, .int (0 : Int32), .int (0 : Int32)]) rfl rfl (Nat.le_of_ble_eq_true rfl) ⟨(Nat.le_of_ble_eq_true rfl), (Nat.le_of_ble_eq_true rfl)⟩ ⟨rfl, rfl⟩ ⟨(by (try simp only [rmc_L_law, rms_L_law, rmc_X11_init, rms_X11_init, rmc_X12_init, rms_X12_init, rmc_X11_image, rms_X11_image]); omega), (by (try simp only [rmc_L_law, rms_L_law, rmc_X11_init, rms_X11_init, rmc_X12_init, rms_X12_init, rmc_X11_image, rms_X11_image]); omega)⟩ dL_law_835 ?_
              refine g_lcmp dL_law_838 ?_
              refine g_if_eq 1575 dL_law_839 (by decide) (fun c536 => ?_) (fun c536 => ?_)
              · replace hF := q_t c536 hF
                refine g_iinc [(3, .int (a3 + 6)), (0, .ref a0), (1, .ref a1), (2, .ref a2)] 3 dL_law_1575 rfl (congrArg (a3 + ·) lt_iconst_6) (Nat.le_of_ble_eq_true rfl) rfl ?_
                refine g_goto 18 dL_law_1578 (by decide) ?_
                cases hF
                refine g_widen (k1 := k + 73) (j1 := j + 2724) (by (try simp only [rmc_L_law, rms_L_law, rmc_X11_init, rms_X11_init, rmc_X12_init, rms_X12_init, rmc_X11_image, rms_X11_image]); omega) (by (try simp only [rmc_L_law, rms_L_law, rmc_X11_init, rms_X11_init, rmc_X12_init, rms_X12_init, rmc_X11_image, rms_X11_image]); omega) ?_
                refine g_sub [1, 2, 3, 0] rfl ?_
                exact hback _ _ _ rfl
              · replace hF := q_f c536 hF
                cases hF
                refine g_widen (k1 := k + 73) (j1 := j + 2724) (by (try simp only [rmc_L_law, rms_L_law, rmc_X11_init, rms_X11_init, rmc_X12_init, rms_X12_init, rmc_X11_image, rms_X11_image]); omega) (by (try simp only [rmc_L_law, rms_L_law, rmc_X11_init, rms_X11_init, rmc_X12_init, rms_X12_init, rmc_X11_image, rms_X11_image]); omega) ?_
                refine g_sub [] rfl ?_
                exact hx13 _ _ rfl
            · replace hF := q_f c531 hF
              refine g_iconst dL_law_830 lt_iconst_1 ?_
              refine g_goto 835 dL_law_831 (by decide) ?_
              obtain ⟨u537, e538, hF⟩ := q_bind hF
              obtain ⟨x539, e540, hF⟩ := q_bind hF
              refine g_callVr0 (ci := 12) (q := (RX12, TX12, 49)) qm_X12_harm wd_1937 wd_1938 wd_1939 rfl e538 (M_X12_harm l b D z nx e540) (As := [.int x522, .int x524, .int (0 : Int32), .int (1 : Int32)]) rfl rfl (Nat.le_of_ble_eq_true rfl) ⟨(Nat.le_of_ble_eq_true rfl), (Nat.le_of_ble_eq_true rfl)⟩ ⟨rfl, rfl⟩ ⟨(by (try simp only [rmc_L_law, rms_L_law, rmc_X11_init, rms_X11_init, rmc_X12_init, rms_X12_init, rmc_X11_image, rms_X11_image]); omega), (by (try simp only [rmc_L_law, rms_L_law, rmc_X11_init, rms_X11_init, rmc_X12_init, rms_X12_init, rmc_X11_image, rms_X11_image]); omega)⟩ dL_law_835 ?_
              refine g_lcmp dL_law_838 ?_
              refine g_if_eq 1575 dL_law_839 (by decide) (fun c541 => ?_) (fun c541 => ?_)
              · replace hF := q_t c541 hF
                refine g_iinc [(3, .int (a3 + 6)), (0, .ref a0), (1, .ref a1), (2, .ref a2)] 3 dL_law_1575 rfl (congrArg (a3 + ·) lt_iconst_6) (Nat.le_of_ble_eq_true rfl) rfl ?_
                refine g_goto 18 dL_law_1578 (by decide) ?_
                cases hF
                refine g_widen (k1 := k + 73) (j1 := j + 2724) (by (try simp only [rmc_L_law, rms_L_law, rmc_X11_init, rms_X11_init, rmc_X12_init, rms_X12_init, rmc_X11_image, rms_X11_image]); omega) (by (try simp only [rmc_L_law, rms_L_law, rmc_X11_init, rms_X11_init, rmc_X12_init, rms_X12_init, rmc_X11_image, rms_X11_image]); omega) ?_
                refine g_sub [1, 2, 3, 0] rfl ?_
                exact hback _ _ _ rfl
              · replace hF := q_f c541 hF
                cases hF
                refine g_widen (k1 := k + 73) (j1 := j + 2724) (by (try simp only [rmc_L_law, rms_L_law, rmc_X11_init, rms_X11_init, rmc_X12_init, rms_X12_init, rmc_X11_image, rms_X11_image]); omega) (by (try simp only [rmc_L_law, rms_L_law, rmc_X11_init, rms_X11_init, rmc_X12_init, rms_X12_init, rmc_X11_image, rms_X11_image]); omega) ?_
                refine g_sub [] rfl ?_
                exact hx13 _ _ rfl
          · replace hF := q_f c528 hF
            refine g_iconst dL_law_817 lt_iconst_1 ?_
            refine g_goto 822 dL_law_818 (by decide) ?_
            refine g_aload_n 0 dL_law_822 rfl ?_
            refine g_iload_n 3 dL_law_823 rfl ?_
            refine g_iconst dL_law_824 lt_iconst_4 ?_
            refine g_iadd dL_law_825 ?_
            obtain ⟨x542, e543, hF⟩ := q_bind hF
            refine g_iald e543 dL_law_826 ?_
            refine g_if_eq 834 dL_law_827 (by decide) (fun c544 => ?_) (fun c544 => ?_)
            · replace hF := q_t c544 hF
              refine g_iconst dL_law_834 lt_iconst_0 ?_
              obtain ⟨u545, e546, hF⟩ := q_bind hF
              obtain ⟨x547, e548, hF⟩ := q_bind hF
              refine g_callVr0 (ci := 12) (q := (RX12, TX12, 49)) qm_X12_harm wd_1937 wd_1938 wd_1939 rfl e546 (M_X12_harm l b D z nx e548) (As := [.int x522, .int x524, .int (1 : Int32), .int (0 : Int32)]) rfl rfl (Nat.le_of_ble_eq_true rfl) ⟨(Nat.le_of_ble_eq_true rfl), (Nat.le_of_ble_eq_true rfl)⟩ ⟨rfl, rfl⟩ ⟨(by (try simp only [rmc_L_law, rms_L_law, rmc_X11_init, rms_X11_init, rmc_X12_init, rms_X12_init, rmc_X11_image, rms_X11_image]); omega), (by (try simp only [rmc_L_law, rms_L_law, rmc_X11_init, rms_X11_init, rmc_X12_init, rms_X12_init, rmc_X11_image, rms_X11_image]); omega)⟩ dL_law_835 ?_
              refine g_lcmp dL_law_838 ?_
              refine g_if_eq 1575 dL_law_839 (by decide) (fun c549 => ?_) (fun c549 => ?_)
              · replace hF := q_t c549 hF
                refine g_iinc [(3, .int (a3 + 6)), (0, .ref a0), (1, .ref a1), (2, .ref a2)] 3 dL_law_1575 rfl (congrArg (a3 + ·) lt_iconst_6) (Nat.le_of_ble_eq_true rfl) rfl ?_
                refine g_goto 18 dL_law_1578 (by decide) ?_
                cases hF
                refine g_widen (k1 := k + 73) (j1 := j + 2724) (by (try simp only [rmc_L_law, rms_L_law, rmc_X11_init, rms_X11_init, rmc_X12_init, rms_X12_init, rmc_X11_image, rms_X11_image]); omega) (by (try simp only [rmc_L_law, rms_L_law, rmc_X11_init, rms_X11_init, rmc_X12_init, rms_X12_init, rmc_X11_image, rms_X11_image]); omega) ?_
                refine g_sub [1, 2, 3, 0] rfl ?_
                exact hback _ _ _ rfl
              · replace hF := q_f c549 hF
                cases hF
                refine g_widen (k1 := k + 73) (j1 := j + 2724) (by (try simp only [rmc_L_law, rms_L_law, rmc_X11_init, rms_X11_init, rmc_X12_init, rms_X12_init, rmc_X11_image, rms_X11_image]); omega) (by (try simp only [rmc_L_law, rms_L_law, rmc_X11_init, rms_X11_init, rmc_X12_init, rms_X12_init, rmc_X11_image, rms_X11_image]); omega) ?_
                refine g_sub [] rfl ?_
                exact hx13 _ _ rfl
            · replace hF := q_f c544 hF
              refine g_iconst dL_law_830 lt_iconst_1 ?_
              refine g_goto 835 dL_law_831 (by decide) ?_
              obtain ⟨u550, e551, hF⟩ := q_bind hF
              obtain ⟨x552, e553, hF⟩ := q_bind hF
              refine g_callVr0 (ci := 12) (q := (RX12, TX12, 49)) qm_X12_harm wd_1937 wd_1938 wd_1939 rfl e551 (M_X12_harm l b D z nx e553) (As := [.int x522, .int x524, .int (1 : Int32), .int (1 : Int32)]) rfl rfl (Nat.le_of_ble_eq_true rfl) ⟨(Nat.le_of_ble_eq_true rfl), (Nat.le_of_ble_eq_true rfl)⟩ ⟨rfl, rfl⟩ ⟨(by (try simp only [rmc_L_law, rms_L_law, rmc_X11_init, rms_X11_init, rmc_X12_init, rms_X12_init, rmc_X11_image, rms_X11_image]); omega), (by (try simp only [rmc_L_law, rms_L_law, rmc_X11_init, rms_X11_init, rmc_X12_init, rms_X12_init, rmc_X11_image, rms_X11_image]); omega)⟩ dL_law_835 ?_
              refine g_lcmp dL_law_838 ?_
              refine g_if_eq 1575 dL_law_839 (by decide) (fun c554 => ?_) (fun c554 => ?_)
              · replace hF := q_t c554 hF
                refine g_iinc [(3, .int (a3 + 6)), (0, .ref a0), (1, .ref a1), (2, .ref a2)] 3 dL_law_1575 rfl (congrArg (a3 + ·) lt_iconst_6) (Nat.le_of_ble_eq_true rfl) rfl ?_
                refine g_goto 18 dL_law_1578 (by decide) ?_
                cases hF
                refine g_widen (k1 := k + 73) (j1 := j + 2724) (by (try simp only [rmc_L_law, rms_L_law, rmc_X11_init, rms_X11_init, rmc_X12_init, rms_X12_init, rmc_X11_image, rms_X11_image]); omega) (by (try simp only [rmc_L_law, rms_L_law, rmc_X11_init, rms_X11_init, rmc_X12_init, rms_X12_init, rmc_X11_image, rms_X11_image]); omega) ?_
                refine g_sub [1, 2, 3, 0] rfl ?_
                exact hback _ _ _ rfl
              · replace hF := q_f c554 hF
                cases hF
                refine g_widen (k1 := k + 73) (j1 := j + 2724) (by (try simp only [rmc_L_law, rms_L_law, rmc_X11_init, rms_X11_init, rmc_X12_init, rms_X12_init, rmc_X11_image, rms_X11_image]); omega) (by (try simp only [rmc_L_law, rms_L_law, rmc_X11_init, rms_X11_init, rmc_X12_init, rms_X12_init, rmc_X11_image, rms_X11_image]); omega) ?_
                refine g_sub [] rfl ?_
                exact hx13 _ _ rfl
        · replace hF := q_f c517 hF
          refine g_iconst dL_law_790 lt_iconst_1 ?_
          refine g_goto 795 dL_law_791 (by decide) ?_
          obtain ⟨u555, e556, hF⟩ := q_bind hF
          obtain ⟨x557, e558, hF⟩ := q_bind hF
          refine g_callVr0 (ci := 11) (q := (RX11, TX11, 8)) qm_X11_harm wd_1083 wd_1084 wd_1085 rfl e556 (M_X11_harm l b D z nx e558) (As := [.int x431, .int x433, .int (1 : Int32), .int (1 : Int32)]) rfl rfl (Nat.le_of_ble_eq_true rfl) ⟨(Nat.le_of_ble_eq_true rfl), (Nat.le_of_ble_eq_true rfl)⟩ ⟨rfl, rfl⟩ ⟨(by (try simp only [rmc_L_law, rms_L_law, rmc_X11_init, rms_X11_init, rmc_X12_init, rms_X12_init, rmc_X11_image, rms_X11_image]); omega), (by (try simp only [rmc_L_law, rms_L_law, rmc_X11_init, rms_X11_init, rmc_X12_init, rms_X12_init, rmc_X11_image, rms_X11_image]); omega)⟩ dL_law_795 ?_
          refine g_aload_n 2 dL_law_798 rfl ?_
          refine g_aload_n 0 dL_law_799 rfl ?_
          refine g_iload_n 3 dL_law_800 rfl ?_
          refine g_iconst dL_law_801 lt_iconst_1 ?_
          refine g_iadd dL_law_802 ?_
          obtain ⟨x559, e560, hF⟩ := q_bind hF
          refine g_iald e560 dL_law_803 ?_
          refine g_aload_n 0 dL_law_804 rfl ?_
          refine g_iload_n 3 dL_law_805 rfl ?_
          refine g_iconst dL_law_806 lt_iconst_2 ?_
          refine g_iadd dL_law_807 ?_
          obtain ⟨x561, e562, hF⟩ := q_bind hF
          refine g_iald e562 dL_law_808 ?_
          refine g_aload_n 0 dL_law_809 rfl ?_
          refine g_iload_n 3 dL_law_810 rfl ?_
          refine g_iconst dL_law_811 lt_iconst_3 ?_
          refine g_iadd dL_law_812 ?_
          obtain ⟨x563, e564, hF⟩ := q_bind hF
          refine g_iald e564 dL_law_813 ?_
          refine g_if_eq 821 dL_law_814 (by decide) (fun c565 => ?_) (fun c565 => ?_)
          · replace hF := q_t c565 hF
            refine g_iconst dL_law_821 lt_iconst_0 ?_
            refine g_aload_n 0 dL_law_822 rfl ?_
            refine g_iload_n 3 dL_law_823 rfl ?_
            refine g_iconst dL_law_824 lt_iconst_4 ?_
            refine g_iadd dL_law_825 ?_
            obtain ⟨x566, e567, hF⟩ := q_bind hF
            refine g_iald e567 dL_law_826 ?_
            refine g_if_eq 834 dL_law_827 (by decide) (fun c568 => ?_) (fun c568 => ?_)
            · replace hF := q_t c568 hF
              refine g_iconst dL_law_834 lt_iconst_0 ?_
              obtain ⟨u569, e570, hF⟩ := q_bind hF
              obtain ⟨x571, e572, hF⟩ := q_bind hF
              refine g_callVr0 (ci := 12) (q := (RX12, TX12, 49)) qm_X12_harm wd_1937 wd_1938 wd_1939 rfl e570 (M_X12_harm l b D z nx e572) (As := [.int x559, .int x561, .int (0 : Int32), .int (0 : Int32)]) rfl rfl (Nat.le_of_ble_eq_true rfl) ⟨(Nat.le_of_ble_eq_true rfl), (Nat.le_of_ble_eq_true rfl)⟩ ⟨rfl, rfl⟩ ⟨(by (try simp only [rmc_L_law, rms_L_law, rmc_X11_init, rms_X11_init, rmc_X12_init, rms_X12_init, rmc_X11_image, rms_X11_image]); omega), (by (try simp only [rmc_L_law, rms_L_law, rmc_X11_init, rms_X11_init, rmc_X12_init, rms_X12_init, rmc_X11_image, rms_X11_image]); omega)⟩ dL_law_835 ?_
              refine g_lcmp dL_law_838 ?_
              refine g_if_eq 1575 dL_law_839 (by decide) (fun c573 => ?_) (fun c573 => ?_)
              · replace hF := q_t c573 hF
                refine g_iinc [(3, .int (a3 + 6)), (0, .ref a0), (1, .ref a1), (2, .ref a2)] 3 dL_law_1575 rfl (congrArg (a3 + ·) lt_iconst_6) (Nat.le_of_ble_eq_true rfl) rfl ?_
                refine g_goto 18 dL_law_1578 (by decide) ?_
                cases hF
                refine g_widen (k1 := k + 73) (j1 := j + 2724) (by (try simp only [rmc_L_law, rms_L_law, rmc_X11_init, rms_X11_init, rmc_X12_init, rms_X12_init, rmc_X11_image, rms_X11_image]); omega) (by (try simp only [rmc_L_law, rms_L_law, rmc_X11_init, rms_X11_init, rmc_X12_init, rms_X12_init, rmc_X11_image, rms_X11_image]); omega) ?_
                refine g_sub [1, 2, 3, 0] rfl ?_
                exact hback _ _ _ rfl
              · replace hF := q_f c573 hF
                cases hF
                refine g_widen (k1 := k + 73) (j1 := j + 2724) (by (try simp only [rmc_L_law, rms_L_law, rmc_X11_init, rms_X11_init, rmc_X12_init, rms_X12_init, rmc_X11_image, rms_X11_image]); omega) (by (try simp only [rmc_L_law, rms_L_law, rmc_X11_init, rms_X11_init, rmc_X12_init, rms_X12_init, rmc_X11_image, rms_X11_image]); omega) ?_
                refine g_sub [] rfl ?_
                exact hx13 _ _ rfl
            · replace hF := q_f c568 hF
              refine g_iconst dL_law_830 lt_iconst_1 ?_
              refine g_goto 835 dL_law_831 (by decide) ?_
              obtain ⟨u574, e575, hF⟩ := q_bind hF
              obtain ⟨x576, e577, hF⟩ := q_bind hF
              refine g_callVr0 (ci := 12) (q := (RX12, TX12, 49)) qm_X12_harm wd_1937 wd_1938 wd_1939 rfl e575 (M_X12_harm l b D z nx e577) (As := [.int x559, .int x561, .int (0 : Int32), .int (1 : Int32)]) rfl rfl (Nat.le_of_ble_eq_true rfl) ⟨(Nat.le_of_ble_eq_true rfl), (Nat.le_of_ble_eq_true rfl)⟩ ⟨rfl, rfl⟩ ⟨(by (try simp only [rmc_L_law, rms_L_law, rmc_X11_init, rms_X11_init, rmc_X12_init, rms_X12_init, rmc_X11_image, rms_X11_image]); omega), (by (try simp only [rmc_L_law, rms_L_law, rmc_X11_init, rms_X11_init, rmc_X12_init, rms_X12_init, rmc_X11_image, rms_X11_image]); omega)⟩ dL_law_835 ?_
              refine g_lcmp dL_law_838 ?_
              refine g_if_eq 1575 dL_law_839 (by decide) (fun c578 => ?_) (fun c578 => ?_)
              · replace hF := q_t c578 hF
                refine g_iinc [(3, .int (a3 + 6)), (0, .ref a0), (1, .ref a1), (2, .ref a2)] 3 dL_law_1575 rfl (congrArg (a3 + ·) lt_iconst_6) (Nat.le_of_ble_eq_true rfl) rfl ?_
                refine g_goto 18 dL_law_1578 (by decide) ?_
                cases hF
                refine g_widen (k1 := k + 73) (j1 := j + 2724) (by (try simp only [rmc_L_law, rms_L_law, rmc_X11_init, rms_X11_init, rmc_X12_init, rms_X12_init, rmc_X11_image, rms_X11_image]); omega) (by (try simp only [rmc_L_law, rms_L_law, rmc_X11_init, rms_X11_init, rmc_X12_init, rms_X12_init, rmc_X11_image, rms_X11_image]); omega) ?_
                refine g_sub [1, 2, 3, 0] rfl ?_
                exact hback _ _ _ rfl
              · replace hF := q_f c578 hF
                cases hF
                refine g_widen (k1 := k + 73) (j1 := j + 2724) (by (try simp only [rmc_L_law, rms_L_law, rmc_X11_init, rms_X11_init, rmc_X12_init, rms_X12_init, rmc_X11_image, rms_X11_image]); omega) (by (try simp only [rmc_L_law, rms_L_law, rmc_X11_init, rms_X11_init, rmc_X12_init, rms_X12_init, rmc_X11_image, rms_X11_image]); omega) ?_
                refine g_sub [] rfl ?_
                exact hx13 _ _ rfl
          · replace hF := q_f c565 hF
            refine g_iconst dL_law_817 lt_iconst_1 ?_
            refine g_goto 822 dL_law_818 (by decide) ?_
            refine g_aload_n 0 dL_law_822 rfl ?_
            refine g_iload_n 3 dL_law_823 rfl ?_
            refine g_iconst dL_law_824 lt_iconst_4 ?_
            refine g_iadd dL_law_825 ?_
            obtain ⟨x579, e580, hF⟩ := q_bind hF
            refine g_iald e580 dL_law_826 ?_
            refine g_if_eq 834 dL_law_827 (by decide) (fun c581 => ?_) (fun c581 => ?_)
            · replace hF := q_t c581 hF
              refine g_iconst dL_law_834 lt_iconst_0 ?_
              obtain ⟨u582, e583, hF⟩ := q_bind hF
              obtain ⟨x584, e585, hF⟩ := q_bind hF
              refine g_callVr0 (ci := 12) (q := (RX12, TX12, 49)) qm_X12_harm wd_1937 wd_1938 wd_1939 rfl e583 (M_X12_harm l b D z nx e585) (As := [.int x559, .int x561, .int (1 : Int32), .int (0 : Int32)]) rfl rfl (Nat.le_of_ble_eq_true rfl) ⟨(Nat.le_of_ble_eq_true rfl), (Nat.le_of_ble_eq_true rfl)⟩ ⟨rfl, rfl⟩ ⟨(by (try simp only [rmc_L_law, rms_L_law, rmc_X11_init, rms_X11_init, rmc_X12_init, rms_X12_init, rmc_X11_image, rms_X11_image]); omega), (by (try simp only [rmc_L_law, rms_L_law, rmc_X11_init, rms_X11_init, rmc_X12_init, rms_X12_init, rmc_X11_image, rms_X11_image]); omega)⟩ dL_law_835 ?_
              refine g_lcmp dL_law_838 ?_
              refine g_if_eq 1575 dL_law_839 (by decide) (fun c586 => ?_) (fun c586 => ?_)
              · replace hF := q_t c586 hF
                refine g_iinc [(3, .int (a3 + 6)), (0, .ref a0), (1, .ref a1), (2, .ref a2)] 3 dL_law_1575 rfl (congrArg (a3 + ·) lt_iconst_6) (Nat.le_of_ble_eq_true rfl) rfl ?_
                refine g_goto 18 dL_law_1578 (by decide) ?_
                cases hF
                refine g_widen (k1 := k + 73) (j1 := j + 2724) (by (try simp only [rmc_L_law, rms_L_law, rmc_X11_init, rms_X11_init, rmc_X12_init, rms_X12_init, rmc_X11_image, rms_X11_image]); omega) (by (try simp only [rmc_L_law, rms_L_law, rmc_X11_init, rms_X11_init, rmc_X12_init, rms_X12_init, rmc_X11_image, rms_X11_image]); omega) ?_
                refine g_sub [1, 2, 3, 0] rfl ?_
                exact hback _ _ _ rfl
              · replace hF := q_f c586 hF
                cases hF
                refine g_widen (k1 := k + 73) (j1 := j + 2724) (by (try simp only [rmc_L_law, rms_L_law, rmc_X11_init, rms_X11_init, rmc_X12_init, rms_X12_init, rmc_X11_image, rms_X11_image]); omega) (by (try simp only [rmc_L_law, rms_L_law, rmc_X11_init, rms_X11_init, rmc_X12_init, rms_X12_init, rmc_X11_image, rms_X11_image]); omega) ?_
                refine g_sub [] rfl ?_
                exact hx13 _ _ rfl
            · replace hF := q_f c581 hF
              refine g_iconst dL_law_830 lt_iconst_1 ?_
              refine g_goto 835 dL_law_831 (by decide) ?_
              obtain ⟨u587, e588, hF⟩ := q_bind hF
              obtain ⟨x589, e590, hF⟩ := q_bind hF
              refine g_callVr0 (ci := 12) (q := (RX12, TX12, 49)) qm_X12_harm wd_1937 wd_1938 wd_1939 rfl e588 (M_X12_harm l b D z nx e590) (As := [.int x559, .int x561, .int (1 : Int32), .int (1 : Int32)]) rfl rfl (Nat.le_of_ble_eq_true rfl) ⟨(Nat.le_of_ble_eq_true rfl), (Nat.le_of_ble_eq_true rfl)⟩ ⟨rfl, rfl⟩ ⟨(by (try simp only [rmc_L_law, rms_L_law, rmc_X11_init, rms_X11_init, rmc_X12_init, rms_X12_init, rmc_X11_image, rms_X11_image]); omega), (by (try simp only [rmc_L_law, rms_L_law, rmc_X11_init, rms_X11_init, rmc_X12_init, rms_X12_init, rmc_X11_image, rms_X11_image]); omega)⟩ dL_law_835 ?_
              refine g_lcmp dL_law_838 ?_
              refine g_if_eq 1575 dL_law_839 (by decide) (fun c591 => ?_) (fun c591 => ?_)
              · replace hF := q_t c591 hF
                refine g_iinc [(3, .int (a3 + 6)), (0, .ref a0), (1, .ref a1), (2, .ref a2)] 3 dL_law_1575 rfl (congrArg (a3 + ·) lt_iconst_6) (Nat.le_of_ble_eq_true rfl) rfl ?_
                refine g_goto 18 dL_law_1578 (by decide) ?_
                cases hF
                refine g_widen (k1 := k + 73) (j1 := j + 2724) (by (try simp only [rmc_L_law, rms_L_law, rmc_X11_init, rms_X11_init, rmc_X12_init, rms_X12_init, rmc_X11_image, rms_X11_image]); omega) (by (try simp only [rmc_L_law, rms_L_law, rmc_X11_init, rms_X11_init, rmc_X12_init, rms_X12_init, rmc_X11_image, rms_X11_image]); omega) ?_
                refine g_sub [1, 2, 3, 0] rfl ?_
                exact hback _ _ _ rfl
              · replace hF := q_f c591 hF
                cases hF
                refine g_widen (k1 := k + 73) (j1 := j + 2724) (by (try simp only [rmc_L_law, rms_L_law, rmc_X11_init, rms_X11_init, rmc_X12_init, rms_X12_init, rmc_X11_image, rms_X11_image]); omega) (by (try simp only [rmc_L_law, rms_L_law, rmc_X11_init, rms_X11_init, rmc_X12_init, rms_X12_init, rmc_X11_image, rms_X11_image]); omega) ?_
                refine g_sub [] rfl ?_
                exact hx13 _ _ rfl
    replace hF := q_f c430 hF
    by_cases c592 : (x4 &&& (31 : Int32)) = 14
    · replace hF := q_t c592 hF
      refine g_tabIn (off := 811) 844 dL_law_33 (by rw [c592]; decide) (by rw [c592]; decide) (by rw [c592]; decide) (by decide) ?_
      refine g_aload_n 1 dL_law_844 rfl ?_
      refine g_aload_n 0 dL_law_845 rfl ?_
      refine g_iload_n 3 dL_law_846 rfl ?_
      refine g_iconst dL_law_847 lt_iconst_1 ?_
      refine g_iadd dL_law_848 ?_
      obtain ⟨x593, e594, hF⟩ := q_bind hF
      refine g_iald e594 dL_law_849 ?_
      refine g_aload_n 0 dL_law_850 rfl ?_
      refine g_iload_n 3 dL_law_851 rfl ?_
      refine g_iconst dL_law_852 lt_iconst_2 ?_
      refine g_iadd dL_law_853 ?_
      obtain ⟨x595, e596, hF⟩ := q_bind hF
      refine g_iald e596 dL_law_854 ?_
      refine g_if_eq 862 dL_law_855 (by decide) (fun c597 => ?_) (fun c597 => ?_)
      · replace hF := q_t c597 hF
        refine g_iconst dL_law_862 lt_iconst_0 ?_
        obtain ⟨u598, e599, hF⟩ := q_bind hF
        obtain ⟨x600, e601, hF⟩ := q_bind hF
        refine g_callVr0 (ci := 11) (q := (RX11, TX11, 8)) qm_X11_loop wd_1087 wd_1088 wd_1089 rfl e599 (M_X11_loop l b D z nx e601) (As := [.int x593, .int (0 : Int32)]) rfl rfl (Nat.le_of_ble_eq_true rfl) ⟨(Nat.le_of_ble_eq_true rfl), (Nat.le_of_ble_eq_true rfl)⟩ ⟨rfl, rfl⟩ ⟨(by (try simp only [rmc_L_law, rms_L_law, rmc_X11_init, rms_X11_init, rmc_X12_init, rms_X12_init, rmc_X11_image, rms_X11_image]); omega), (by (try simp only [rmc_L_law, rms_L_law, rmc_X11_init, rms_X11_init, rmc_X12_init, rms_X12_init, rmc_X11_image, rms_X11_image]); omega)⟩ dL_law_863 ?_
        refine g_aload_n 2 dL_law_866 rfl ?_
        refine g_aload_n 0 dL_law_867 rfl ?_
        refine g_iload_n 3 dL_law_868 rfl ?_
        refine g_iconst dL_law_869 lt_iconst_1 ?_
        refine g_iadd dL_law_870 ?_
        obtain ⟨x602, e603, hF⟩ := q_bind hF
        refine g_iald e603 dL_law_871 ?_
        refine g_aload_n 0 dL_law_872 rfl ?_
        refine g_iload_n 3 dL_law_873 rfl ?_
        refine g_iconst dL_law_874 lt_iconst_2 ?_
        refine g_iadd dL_law_875 ?_
        obtain ⟨x604, e605, hF⟩ := q_bind hF
        refine g_iald e605 dL_law_876 ?_
        refine g_if_eq 884 dL_law_877 (by decide) (fun c606 => ?_) (fun c606 => ?_)
        · replace hF := q_t c606 hF
          refine g_iconst dL_law_884 lt_iconst_0 ?_
          obtain ⟨u607, e608, hF⟩ := q_bind hF
          obtain ⟨x609, e610, hF⟩ := q_bind hF
          refine g_callVr0 (ci := 12) (q := (RX12, TX12, 49)) qm_X12_loop wd_1941 wd_1942 wd_1943 rfl e608 (M_X12_loop l b D z nx e610) (As := [.int x602, .int (0 : Int32)]) rfl rfl (Nat.le_of_ble_eq_true rfl) ⟨(Nat.le_of_ble_eq_true rfl), (Nat.le_of_ble_eq_true rfl)⟩ ⟨rfl, rfl⟩ ⟨(by (try simp only [rmc_L_law, rms_L_law, rmc_X11_init, rms_X11_init, rmc_X12_init, rms_X12_init, rmc_X11_image, rms_X11_image]); omega), (by (try simp only [rmc_L_law, rms_L_law, rmc_X11_init, rms_X11_init, rmc_X12_init, rms_X12_init, rmc_X11_image, rms_X11_image]); omega)⟩ dL_law_885 ?_
          refine g_icmp_eq 1575 dL_law_888 (by decide) (fun c611 => ?_) (fun c611 => ?_)
          · replace hF := q_t c611 hF
            refine g_iinc [(3, .int (a3 + 6)), (0, .ref a0), (1, .ref a1), (2, .ref a2)] 3 dL_law_1575 rfl (congrArg (a3 + ·) lt_iconst_6) (Nat.le_of_ble_eq_true rfl) rfl ?_
            refine g_goto 18 dL_law_1578 (by decide) ?_
            cases hF
            refine g_widen (k1 := k + 73) (j1 := j + 2724) (by (try simp only [rmc_L_law, rms_L_law, rmc_X11_init, rms_X11_init, rmc_X12_init, rms_X12_init, rmc_X11_image, rms_X11_image]); omega) (by (try simp only [rmc_L_law, rms_L_law, rmc_X11_init, rms_X11_init, rmc_X12_init, rms_X12_init, rmc_X11_image, rms_X11_image]); omega) ?_
            refine g_sub [1, 2, 3, 0] rfl ?_
            exact hback _ _ _ rfl
          · replace hF := q_f c611 hF
            cases hF
            refine g_widen (k1 := k + 73) (j1 := j + 2724) (by (try simp only [rmc_L_law, rms_L_law, rmc_X11_init, rms_X11_init, rmc_X12_init, rms_X12_init, rmc_X11_image, rms_X11_image]); omega) (by (try simp only [rmc_L_law, rms_L_law, rmc_X11_init, rms_X11_init, rmc_X12_init, rms_X12_init, rmc_X11_image, rms_X11_image]); omega) ?_
            refine g_sub [] rfl ?_
            exact hx14 _ _ rfl
        · replace hF := q_f c606 hF
          refine g_iconst dL_law_880 lt_iconst_1 ?_
          refine g_goto 885 dL_law_881 (by decide) ?_
          obtain ⟨u612, e613, hF⟩ := q_bind hF
          obtain ⟨x614, e615, hF⟩ := q_bind hF
          refine g_callVr0 (ci := 12) (q := (RX12, TX12, 49)) qm_X12_loop wd_1941 wd_1942 wd_1943 rfl e613 (M_X12_loop l b D z nx e615) (As := [.int x602, .int (1 : Int32)]) rfl rfl (Nat.le_of_ble_eq_true rfl) ⟨(Nat.le_of_ble_eq_true rfl), (Nat.le_of_ble_eq_true rfl)⟩ ⟨rfl, rfl⟩ ⟨(by (try simp only [rmc_L_law, rms_L_law, rmc_X11_init, rms_X11_init, rmc_X12_init, rms_X12_init, rmc_X11_image, rms_X11_image]); omega), (by (try simp only [rmc_L_law, rms_L_law, rmc_X11_init, rms_X11_init, rmc_X12_init, rms_X12_init, rmc_X11_image, rms_X11_image]); omega)⟩ dL_law_885 ?_
          refine g_icmp_eq 1575 dL_law_888 (by decide) (fun c616 => ?_) (fun c616 => ?_)
          · replace hF := q_t c616 hF
            refine g_iinc [(3, .int (a3 + 6)), (0, .ref a0), (1, .ref a1), (2, .ref a2)] 3 dL_law_1575 rfl (congrArg (a3 + ·) lt_iconst_6) (Nat.le_of_ble_eq_true rfl) rfl ?_
            refine g_goto 18 dL_law_1578 (by decide) ?_
            cases hF
            refine g_widen (k1 := k + 73) (j1 := j + 2724) (by (try simp only [rmc_L_law, rms_L_law, rmc_X11_init, rms_X11_init, rmc_X12_init, rms_X12_init, rmc_X11_image, rms_X11_image]); omega) (by (try simp only [rmc_L_law, rms_L_law, rmc_X11_init, rms_X11_init, rmc_X12_init, rms_X12_init, rmc_X11_image, rms_X11_image]); omega) ?_
            refine g_sub [1, 2, 3, 0] rfl ?_
            exact hback _ _ _ rfl
          · replace hF := q_f c616 hF
            cases hF
            refine g_widen (k1 := k + 73) (j1 := j + 2724) (by (try simp only [rmc_L_law, rms_L_law, rmc_X11_init, rms_X11_init, rmc_X12_init, rms_X12_init, rmc_X11_image, rms_X11_image]); omega) (by (try simp only [rmc_L_law, rms_L_law, rmc_X11_init, rms_X11_init, rmc_X12_init, rms_X12_init, rmc_X11_image, rms_X11_image]); omega) ?_
            refine g_sub [] rfl ?_
            exact hx14 _ _ rfl
      · replace hF := q_f c597 hF
        refine g_iconst dL_law_858 lt_iconst_1 ?_
        refine g_goto 863 dL_law_859 (by decide) ?_
        obtain ⟨u617, e618, hF⟩ := q_bind hF
        obtain ⟨x619, e620, hF⟩ := q_bind hF
        refine g_callVr0 (ci := 11) (q := (RX11, TX11, 8)) qm_X11_loop wd_1087 wd_1088 wd_1089 rfl e618 (M_X11_loop l b D z nx e620) (As := [.int x593, .int (1 : Int32)]) rfl rfl (Nat.le_of_ble_eq_true rfl) ⟨(Nat.le_of_ble_eq_true rfl), (Nat.le_of_ble_eq_true rfl)⟩ ⟨rfl, rfl⟩ ⟨(by (try simp only [rmc_L_law, rms_L_law, rmc_X11_init, rms_X11_init, rmc_X12_init, rms_X12_init, rmc_X11_image, rms_X11_image]); omega), (by (try simp only [rmc_L_law, rms_L_law, rmc_X11_init, rms_X11_init, rmc_X12_init, rms_X12_init, rmc_X11_image, rms_X11_image]); omega)⟩ dL_law_863 ?_
        refine g_aload_n 2 dL_law_866 rfl ?_
        refine g_aload_n 0 dL_law_867 rfl ?_
        refine g_iload_n 3 dL_law_868 rfl ?_
        refine g_iconst dL_law_869 lt_iconst_1 ?_
        refine g_iadd dL_law_870 ?_
        obtain ⟨x621, e622, hF⟩ := q_bind hF
        refine g_iald e622 dL_law_871 ?_
        refine g_aload_n 0 dL_law_872 rfl ?_
        refine g_iload_n 3 dL_law_873 rfl ?_
        refine g_iconst dL_law_874 lt_iconst_2 ?_
        refine g_iadd dL_law_875 ?_
        obtain ⟨x623, e624, hF⟩ := q_bind hF
        refine g_iald e624 dL_law_876 ?_
        refine g_if_eq 884 dL_law_877 (by decide) (fun c625 => ?_) (fun c625 => ?_)
        · replace hF := q_t c625 hF
          refine g_iconst dL_law_884 lt_iconst_0 ?_
          obtain ⟨u626, e627, hF⟩ := q_bind hF
          obtain ⟨x628, e629, hF⟩ := q_bind hF
          refine g_callVr0 (ci := 12) (q := (RX12, TX12, 49)) qm_X12_loop wd_1941 wd_1942 wd_1943 rfl e627 (M_X12_loop l b D z nx e629) (As := [.int x621, .int (0 : Int32)]) rfl rfl (Nat.le_of_ble_eq_true rfl) ⟨(Nat.le_of_ble_eq_true rfl), (Nat.le_of_ble_eq_true rfl)⟩ ⟨rfl, rfl⟩ ⟨(by (try simp only [rmc_L_law, rms_L_law, rmc_X11_init, rms_X11_init, rmc_X12_init, rms_X12_init, rmc_X11_image, rms_X11_image]); omega), (by (try simp only [rmc_L_law, rms_L_law, rmc_X11_init, rms_X11_init, rmc_X12_init, rms_X12_init, rmc_X11_image, rms_X11_image]); omega)⟩ dL_law_885 ?_
          refine g_icmp_eq 1575 dL_law_888 (by decide) (fun c630 => ?_) (fun c630 => ?_)
          · replace hF := q_t c630 hF
            refine g_iinc [(3, .int (a3 + 6)), (0, .ref a0), (1, .ref a1), (2, .ref a2)] 3 dL_law_1575 rfl (congrArg (a3 + ·) lt_iconst_6) (Nat.le_of_ble_eq_true rfl) rfl ?_
            refine g_goto 18 dL_law_1578 (by decide) ?_
            cases hF
            refine g_widen (k1 := k + 73) (j1 := j + 2724) (by (try simp only [rmc_L_law, rms_L_law, rmc_X11_init, rms_X11_init, rmc_X12_init, rms_X12_init, rmc_X11_image, rms_X11_image]); omega) (by (try simp only [rmc_L_law, rms_L_law, rmc_X11_init, rms_X11_init, rmc_X12_init, rms_X12_init, rmc_X11_image, rms_X11_image]); omega) ?_
            refine g_sub [1, 2, 3, 0] rfl ?_
            exact hback _ _ _ rfl
          · replace hF := q_f c630 hF
            cases hF
            refine g_widen (k1 := k + 73) (j1 := j + 2724) (by (try simp only [rmc_L_law, rms_L_law, rmc_X11_init, rms_X11_init, rmc_X12_init, rms_X12_init, rmc_X11_image, rms_X11_image]); omega) (by (try simp only [rmc_L_law, rms_L_law, rmc_X11_init, rms_X11_init, rmc_X12_init, rms_X12_init, rmc_X11_image, rms_X11_image]); omega) ?_
            refine g_sub [] rfl ?_
            exact hx14 _ _ rfl
        · replace hF := q_f c625 hF
          refine g_iconst dL_law_880 lt_iconst_1 ?_
          refine g_goto 885 dL_law_881 (by decide) ?_
          obtain ⟨u631, e632, hF⟩ := q_bind hF
          obtain ⟨x633, e634, hF⟩ := q_bind hF
          refine g_callVr0 (ci := 12) (q := (RX12, TX12, 49)) qm_X12_loop wd_1941 wd_1942 wd_1943 rfl e632 (M_X12_loop l b D z nx e634) (As := [.int x621, .int (1 : Int32)]) rfl rfl (Nat.le_of_ble_eq_true rfl) ⟨(Nat.le_of_ble_eq_true rfl), (Nat.le_of_ble_eq_true rfl)⟩ ⟨rfl, rfl⟩ ⟨(by (try simp only [rmc_L_law, rms_L_law, rmc_X11_init, rms_X11_init, rmc_X12_init, rms_X12_init, rmc_X11_image, rms_X11_image]); omega), (by (try simp only [rmc_L_law, rms_L_law, rmc_X11_init, rms_X11_init, rmc_X12_init, rms_X12_init, rmc_X11_image, rms_X11_image]); omega)⟩ dL_law_885 ?_
          refine g_icmp_eq 1575 dL_law_888 (by decide) (fun c635 => ?_) (fun c635 => ?_)
          · replace hF := q_t c635 hF
            refine g_iinc [(3, .int (a3 + 6)), (0, .ref a0), (1, .ref a1), (2, .ref a2)] 3 dL_law_1575 rfl (congrArg (a3 + ·) lt_iconst_6) (Nat.le_of_ble_eq_true rfl) rfl ?_
            refine g_goto 18 dL_law_1578 (by decide) ?_
            cases hF
            refine g_widen (k1 := k + 73) (j1 := j + 2724) (by (try simp only [rmc_L_law, rms_L_law, rmc_X11_init, rms_X11_init, rmc_X12_init, rms_X12_init, rmc_X11_image, rms_X11_image]); omega) (by (try simp only [rmc_L_law, rms_L_law, rmc_X11_init, rms_X11_init, rmc_X12_init, rms_X12_init, rmc_X11_image, rms_X11_image]); omega) ?_
            refine g_sub [1, 2, 3, 0] rfl ?_
            exact hback _ _ _ rfl
          · replace hF := q_f c635 hF
            cases hF
            refine g_widen (k1 := k + 73) (j1 := j + 2724) (by (try simp only [rmc_L_law, rms_L_law, rmc_X11_init, rms_X11_init, rmc_X12_init, rms_X12_init, rmc_X11_image, rms_X11_image]); omega) (by (try simp only [rmc_L_law, rms_L_law, rmc_X11_init, rms_X11_init, rmc_X12_init, rms_X12_init, rmc_X11_image, rms_X11_image]); omega) ?_
            refine g_sub [] rfl ?_
            exact hx14 _ _ rfl
    replace hF := q_f c592 hF
    by_cases c636 : (x4 &&& (31 : Int32)) = 15
    · replace hF := q_t c636 hF
      refine g_tabIn (off := 860) 893 dL_law_33 (by rw [c636]; decide) (by rw [c636]; decide) (by rw [c636]; decide) (by decide) ?_
      refine g_aload_n 1 dL_law_893 rfl ?_
      refine g_aload_n 0 dL_law_894 rfl ?_
      refine g_iload_n 3 dL_law_895 rfl ?_
      refine g_iconst dL_law_896 lt_iconst_1 ?_
      refine g_iadd dL_law_897 ?_
      obtain ⟨x637, e638, hF⟩ := q_bind hF
      refine g_iald e638 dL_law_898 ?_
      refine g_aload_n 0 dL_law_899 rfl ?_
      refine g_iload_n 3 dL_law_900 rfl ?_
      refine g_iconst dL_law_901 lt_iconst_2 ?_
      refine g_iadd dL_law_902 ?_
      obtain ⟨x639, e640, hF⟩ := q_bind hF
      refine g_iald e640 dL_law_903 ?_
      refine g_aload_n 0 dL_law_904 rfl ?_
      refine g_iload_n 3 dL_law_905 rfl ?_
      refine g_iconst dL_law_906 lt_iconst_3 ?_
      refine g_iadd dL_law_907 ?_
      obtain ⟨x641, e642, hF⟩ := q_bind hF
      refine g_iald e642 dL_law_908 ?_
      refine g_aload_n 0 dL_law_909 rfl ?_
      refine g_iload_n 3 dL_law_910 rfl ?_
      refine g_iconst dL_law_911 lt_iconst_4 ?_
      refine g_iadd dL_law_912 ?_
      obtain ⟨x643, e644, hF⟩ := q_bind hF
      refine g_iald e644 dL_law_913 ?_
      obtain ⟨u645, e646, hF⟩ := q_bind hF
      obtain ⟨x647, e648, hF⟩ := q_bind hF
      refine g_callVr0 (ci := 11) (q := (RX11, TX11, 8)) qm_X11_merged wd_1103 wd_1104 wd_1105 rfl e646 (M_X11_merged l b D z nx e648) (As := [.int x637, .int x639, .int x641, .int x643]) rfl rfl (Nat.le_of_ble_eq_true rfl) ⟨(Nat.le_of_ble_eq_true rfl), (Nat.le_of_ble_eq_true rfl)⟩ ⟨rfl, rfl⟩ ⟨(by (try simp only [rmc_L_law, rms_L_law, rmc_X11_init, rms_X11_init, rmc_X12_init, rms_X12_init, rmc_X11_image, rms_X11_image]); omega), (by (try simp only [rmc_L_law, rms_L_law, rmc_X11_init, rms_X11_init, rmc_X12_init, rms_X12_init, rmc_X11_image, rms_X11_image]); omega)⟩ dL_law_914 ?_
      refine g_aload_n 2 dL_law_917 rfl ?_
      refine g_aload_n 0 dL_law_918 rfl ?_
      refine g_iload_n 3 dL_law_919 rfl ?_
      refine g_iconst dL_law_920 lt_iconst_1 ?_
      refine g_iadd dL_law_921 ?_
      obtain ⟨x649, e650, hF⟩ := q_bind hF
      refine g_iald e650 dL_law_922 ?_
      refine g_aload_n 0 dL_law_923 rfl ?_
      refine g_iload_n 3 dL_law_924 rfl ?_
      refine g_iconst dL_law_925 lt_iconst_2 ?_
      refine g_iadd dL_law_926 ?_
      obtain ⟨x651, e652, hF⟩ := q_bind hF
      refine g_iald e652 dL_law_927 ?_
      refine g_aload_n 0 dL_law_928 rfl ?_
      refine g_iload_n 3 dL_law_929 rfl ?_
      refine g_iconst dL_law_930 lt_iconst_3 ?_
      refine g_iadd dL_law_931 ?_
      obtain ⟨x653, e654, hF⟩ := q_bind hF
      refine g_iald e654 dL_law_932 ?_
      refine g_aload_n 0 dL_law_933 rfl ?_
      refine g_iload_n 3 dL_law_934 rfl ?_
      refine g_iconst dL_law_935 lt_iconst_4 ?_
      refine g_iadd dL_law_936 ?_
      obtain ⟨x655, e656, hF⟩ := q_bind hF
      refine g_iald e656 dL_law_937 ?_
      obtain ⟨u657, e658, hF⟩ := q_bind hF
      obtain ⟨x659, e660, hF⟩ := q_bind hF
      refine g_callVr0 (ci := 12) (q := (RX12, TX12, 49)) qm_X12_merged wd_1953 wd_1954 wd_1955 rfl e658 (M_X12_merged l b D z nx e660) (As := [.int x649, .int x651, .int x653, .int x655]) rfl rfl (Nat.le_of_ble_eq_true rfl) ⟨(Nat.le_of_ble_eq_true rfl), (Nat.le_of_ble_eq_true rfl)⟩ ⟨rfl, rfl⟩ ⟨(by (try simp only [rmc_L_law, rms_L_law, rmc_X11_init, rms_X11_init, rmc_X12_init, rms_X12_init, rmc_X11_image, rms_X11_image]); omega), (by (try simp only [rmc_L_law, rms_L_law, rmc_X11_init, rms_X11_init, rmc_X12_init, rms_X12_init, rmc_X11_image, rms_X11_image]); omega)⟩ dL_law_938 ?_
      refine g_icmp_eq 1575 dL_law_941 (by decide) (fun c661 => ?_) (fun c661 => ?_)
      · replace hF := q_t c661 hF
        refine g_iinc [(3, .int (a3 + 6)), (0, .ref a0), (1, .ref a1), (2, .ref a2)] 3 dL_law_1575 rfl (congrArg (a3 + ·) lt_iconst_6) (Nat.le_of_ble_eq_true rfl) rfl ?_
        refine g_goto 18 dL_law_1578 (by decide) ?_
        cases hF
        refine g_widen (k1 := k + 73) (j1 := j + 2724) (by (try simp only [rmc_L_law, rms_L_law, rmc_X11_init, rms_X11_init, rmc_X12_init, rms_X12_init, rmc_X11_image, rms_X11_image]); omega) (by (try simp only [rmc_L_law, rms_L_law, rmc_X11_init, rms_X11_init, rmc_X12_init, rms_X12_init, rmc_X11_image, rms_X11_image]); omega) ?_
        refine g_sub [1, 2, 3, 0] rfl ?_
        exact hback _ _ _ rfl
      · replace hF := q_f c661 hF
        cases hF
        refine g_widen (k1 := k + 73) (j1 := j + 2724) (by (try simp only [rmc_L_law, rms_L_law, rmc_X11_init, rms_X11_init, rmc_X12_init, rms_X12_init, rmc_X11_image, rms_X11_image]); omega) (by (try simp only [rmc_L_law, rms_L_law, rmc_X11_init, rms_X11_init, rmc_X12_init, rms_X12_init, rmc_X11_image, rms_X11_image]); omega) ?_
        refine g_sub [] rfl ?_
        exact hx15 _ _ rfl
    replace hF := q_f c636 hF
    by_cases c662 : (x4 &&& (31 : Int32)) = 16
    · replace hF := q_t c662 hF
      refine g_tabIn (off := 913) 946 dL_law_33 (by rw [c662]; decide) (by rw [c662]; decide) (by rw [c662]; decide) (by decide) ?_
      refine g_aload_n 1 dL_law_946 rfl ?_
      refine g_aload_n 0 dL_law_947 rfl ?_
      refine g_iload_n 3 dL_law_948 rfl ?_
      refine g_iconst dL_law_949 lt_iconst_1 ?_
      refine g_iadd dL_law_950 ?_
      obtain ⟨x663, e664, hF⟩ := q_bind hF
      refine g_iald e664 dL_law_951 ?_
      refine g_aload_n 0 dL_law_952 rfl ?_
      refine g_iload_n 3 dL_law_953 rfl ?_
      refine g_iconst dL_law_954 lt_iconst_2 ?_
      refine g_iadd dL_law_955 ?_
      obtain ⟨x665, e666, hF⟩ := q_bind hF
      refine g_iald e666 dL_law_956 ?_
      obtain ⟨u667, e668, hF⟩ := q_bind hF
      obtain ⟨x669, e670, hF⟩ := q_bind hF
      refine g_callVr0 (ci := 11) (q := (RX11, TX11, 8)) qm_X11_voice wd_1147 wd_1148 wd_1149 rfl e668 (M_X11_voice l b D z nx e670) (As := [.int x663, .int x665]) rfl rfl (Nat.le_of_ble_eq_true rfl) ⟨(Nat.le_of_ble_eq_true rfl), (Nat.le_of_ble_eq_true rfl)⟩ ⟨rfl, rfl⟩ ⟨(by (try simp only [rmc_L_law, rms_L_law, rmc_X11_init, rms_X11_init, rmc_X12_init, rms_X12_init, rmc_X11_image, rms_X11_image]); omega), (by (try simp only [rmc_L_law, rms_L_law, rmc_X11_init, rms_X11_init, rmc_X12_init, rms_X12_init, rmc_X11_image, rms_X11_image]); omega)⟩ dL_law_957 ?_
      refine g_aload_n 2 dL_law_960 rfl ?_
      refine g_aload_n 0 dL_law_961 rfl ?_
      refine g_iload_n 3 dL_law_962 rfl ?_
      refine g_iconst dL_law_963 lt_iconst_1 ?_
      refine g_iadd dL_law_964 ?_
      obtain ⟨x671, e672, hF⟩ := q_bind hF
      refine g_iald e672 dL_law_965 ?_
      refine g_aload_n 0 dL_law_966 rfl ?_
      refine g_iload_n 3 dL_law_967 rfl ?_
      refine g_iconst dL_law_968 lt_iconst_2 ?_
      refine g_iadd dL_law_969 ?_
      obtain ⟨x673, e674, hF⟩ := q_bind hF
      refine g_iald e674 dL_law_970 ?_
      obtain ⟨u675, e676, hF⟩ := q_bind hF
      obtain ⟨x677, e678, hF⟩ := q_bind hF
      refine g_callVr0 (ci := 12) (q := (RX12, TX12, 49)) qm_X12_voice wd_1969 wd_1970 wd_1971 rfl e676 (M_X12_voice l b D z nx e678) (As := [.int x671, .int x673]) rfl rfl (Nat.le_of_ble_eq_true rfl) ⟨(Nat.le_of_ble_eq_true rfl), (Nat.le_of_ble_eq_true rfl)⟩ ⟨rfl, rfl⟩ ⟨(by (try simp only [rmc_L_law, rms_L_law, rmc_X11_init, rms_X11_init, rmc_X12_init, rms_X12_init, rmc_X11_image, rms_X11_image]); omega), (by (try simp only [rmc_L_law, rms_L_law, rmc_X11_init, rms_X11_init, rmc_X12_init, rms_X12_init, rmc_X11_image, rms_X11_image]); omega)⟩ dL_law_971 ?_
      refine g_icmp_eq 1575 dL_law_974 (by decide) (fun c679 => ?_) (fun c679 => ?_)
      · replace hF := q_t c679 hF
        refine g_iinc [(3, .int (a3 + 6)), (0, .ref a0), (1, .ref a1), (2, .ref a2)] 3 dL_law_1575 rfl (congrArg (a3 + ·) lt_iconst_6) (Nat.le_of_ble_eq_true rfl) rfl ?_
        refine g_goto 18 dL_law_1578 (by decide) ?_
        cases hF
        refine g_widen (k1 := k + 73) (j1 := j + 2724) (by (try simp only [rmc_L_law, rms_L_law, rmc_X11_init, rms_X11_init, rmc_X12_init, rms_X12_init, rmc_X11_image, rms_X11_image]); omega) (by (try simp only [rmc_L_law, rms_L_law, rmc_X11_init, rms_X11_init, rmc_X12_init, rms_X12_init, rmc_X11_image, rms_X11_image]); omega) ?_
        refine g_sub [1, 2, 3, 0] rfl ?_
        exact hback _ _ _ rfl
      · replace hF := q_f c679 hF
        cases hF
        refine g_widen (k1 := k + 73) (j1 := j + 2724) (by (try simp only [rmc_L_law, rms_L_law, rmc_X11_init, rms_X11_init, rmc_X12_init, rms_X12_init, rmc_X11_image, rms_X11_image]); omega) (by (try simp only [rmc_L_law, rms_L_law, rmc_X11_init, rms_X11_init, rmc_X12_init, rms_X12_init, rmc_X11_image, rms_X11_image]); omega) ?_
        refine g_sub [] rfl ?_
        exact hx16 _ _ rfl
    replace hF := q_f c662 hF
    by_cases c680 : (x4 &&& (31 : Int32)) = 17
    · replace hF := q_t c680 hF
      refine g_tabIn (off := 946) 979 dL_law_33 (by rw [c680]; decide) (by rw [c680]; decide) (by rw [c680]; decide) (by decide) ?_
      refine g_aload_n 1 dL_law_979 rfl ?_
      refine g_aload_n 0 dL_law_980 rfl ?_
      refine g_iload_n 3 dL_law_981 rfl ?_
      refine g_iconst dL_law_982 lt_iconst_1 ?_
      refine g_iadd dL_law_983 ?_
      obtain ⟨x681, e682, hF⟩ := q_bind hF
      refine g_iald e682 dL_law_984 ?_
      refine g_aload_n 0 dL_law_985 rfl ?_
      refine g_iload_n 3 dL_law_986 rfl ?_
      refine g_iconst dL_law_987 lt_iconst_2 ?_
      refine g_iadd dL_law_988 ?_
      obtain ⟨x683, e684, hF⟩ := q_bind hF
      refine g_iald e684 dL_law_989 ?_
      refine g_aload_n 0 dL_law_990 rfl ?_
      refine g_iload_n 3 dL_law_991 rfl ?_
      refine g_iconst dL_law_992 lt_iconst_3 ?_
      refine g_iadd dL_law_993 ?_
      obtain ⟨x685, e686, hF⟩ := q_bind hF
      refine g_iald e686 dL_law_994 ?_
      obtain ⟨u687, e688, hF⟩ := q_bind hF
      obtain ⟨x689, e690, hF⟩ := q_bind hF
      refine g_callVr0 (ci := 11) (q := (RX11, TX11, 8)) qm_X11_fits wd_1160 wd_1161 wd_1162 rfl e688 (M_X11_fits l b D z nx e690) (As := [.int x681, .int x683, .int x685]) rfl rfl (Nat.le_of_ble_eq_true rfl) ⟨(Nat.le_of_ble_eq_true rfl), (Nat.le_of_ble_eq_true rfl)⟩ ⟨rfl, rfl⟩ ⟨(by (try simp only [rmc_L_law, rms_L_law, rmc_X11_init, rms_X11_init, rmc_X12_init, rms_X12_init, rmc_X11_image, rms_X11_image]); omega), (by (try simp only [rmc_L_law, rms_L_law, rmc_X11_init, rms_X11_init, rmc_X12_init, rms_X12_init, rmc_X11_image, rms_X11_image]); omega)⟩ dL_law_995 ?_
      refine g_aload_n 2 dL_law_998 rfl ?_
      refine g_aload_n 0 dL_law_999 rfl ?_
      refine g_iload_n 3 dL_law_1000 rfl ?_
      refine g_iconst dL_law_1001 lt_iconst_1 ?_
      refine g_iadd dL_law_1002 ?_
      obtain ⟨x691, e692, hF⟩ := q_bind hF
      refine g_iald e692 dL_law_1003 ?_
      refine g_aload_n 0 dL_law_1004 rfl ?_
      refine g_iload_n 3 dL_law_1005 rfl ?_
      refine g_iconst dL_law_1006 lt_iconst_2 ?_
      refine g_iadd dL_law_1007 ?_
      obtain ⟨x693, e694, hF⟩ := q_bind hF
      refine g_iald e694 dL_law_1008 ?_
      refine g_aload_n 0 dL_law_1009 rfl ?_
      refine g_iload_n 3 dL_law_1010 rfl ?_
      refine g_iconst dL_law_1011 lt_iconst_3 ?_
      refine g_iadd dL_law_1012 ?_
      obtain ⟨x695, e696, hF⟩ := q_bind hF
      refine g_iald e696 dL_law_1013 ?_
      obtain ⟨u697, e698, hF⟩ := q_bind hF
      obtain ⟨x699, e700, hF⟩ := q_bind hF
      refine g_callVr0 (ci := 12) (q := (RX12, TX12, 49)) qm_X12_fits wd_1985 wd_1986 wd_1987 rfl e698 (M_X12_fits l b D z nx e700) (As := [.int x691, .int x693, .int x695]) rfl rfl (Nat.le_of_ble_eq_true rfl) ⟨(Nat.le_of_ble_eq_true rfl), (Nat.le_of_ble_eq_true rfl)⟩ ⟨rfl, rfl⟩ ⟨(by (try simp only [rmc_L_law, rms_L_law, rmc_X11_init, rms_X11_init, rmc_X12_init, rms_X12_init, rmc_X11_image, rms_X11_image]); omega), (by (try simp only [rmc_L_law, rms_L_law, rmc_X11_init, rms_X11_init, rmc_X12_init, rms_X12_init, rmc_X11_image, rms_X11_image]); omega)⟩ dL_law_1014 ?_
      refine g_lcmp dL_law_1017 ?_
      refine g_if_eq 1575 dL_law_1018 (by decide) (fun c701 => ?_) (fun c701 => ?_)
      · replace hF := q_t c701 hF
        refine g_iinc [(3, .int (a3 + 6)), (0, .ref a0), (1, .ref a1), (2, .ref a2)] 3 dL_law_1575 rfl (congrArg (a3 + ·) lt_iconst_6) (Nat.le_of_ble_eq_true rfl) rfl ?_
        refine g_goto 18 dL_law_1578 (by decide) ?_
        cases hF
        refine g_widen (k1 := k + 73) (j1 := j + 2724) (by (try simp only [rmc_L_law, rms_L_law, rmc_X11_init, rms_X11_init, rmc_X12_init, rms_X12_init, rmc_X11_image, rms_X11_image]); omega) (by (try simp only [rmc_L_law, rms_L_law, rmc_X11_init, rms_X11_init, rmc_X12_init, rms_X12_init, rmc_X11_image, rms_X11_image]); omega) ?_
        refine g_sub [1, 2, 3, 0] rfl ?_
        exact hback _ _ _ rfl
      · replace hF := q_f c701 hF
        cases hF
        refine g_widen (k1 := k + 73) (j1 := j + 2724) (by (try simp only [rmc_L_law, rms_L_law, rmc_X11_init, rms_X11_init, rmc_X12_init, rms_X12_init, rmc_X11_image, rms_X11_image]); omega) (by (try simp only [rmc_L_law, rms_L_law, rmc_X11_init, rms_X11_init, rmc_X12_init, rms_X12_init, rmc_X11_image, rms_X11_image]); omega) ?_
        refine g_sub [] rfl ?_
        exact hx17 _ _ rfl
    replace hF := q_f c680 hF
    by_cases c702 : (x4 &&& (31 : Int32)) = 18
    · replace hF := q_t c702 hF
      refine g_tabIn (off := 990) 1023 dL_law_33 (by rw [c702]; decide) (by rw [c702]; decide) (by rw [c702]; decide) (by decide) ?_
      refine g_aload_n 1 dL_law_1023 rfl ?_
      refine g_aload_n 0 dL_law_1024 rfl ?_
      refine g_iload_n 3 dL_law_1025 rfl ?_
      refine g_iconst dL_law_1026 lt_iconst_1 ?_
      refine g_iadd dL_law_1027 ?_
      obtain ⟨x703, e704, hF⟩ := q_bind hF
      refine g_iald e704 dL_law_1028 ?_
      refine g_aload_n 0 dL_law_1029 rfl ?_
      refine g_iload_n 3 dL_law_1030 rfl ?_
      refine g_iconst dL_law_1031 lt_iconst_2 ?_
      refine g_iadd dL_law_1032 ?_
      obtain ⟨x705, e706, hF⟩ := q_bind hF
      refine g_iald e706 dL_law_1033 ?_
      obtain ⟨u707, e708, hF⟩ := q_bind hF
      obtain ⟨x709, e710, hF⟩ := q_bind hF
      refine g_callVr0 (ci := 11) (q := (RX11, TX11, 8)) qm_X11_town wd_1229 wd_1230 wd_1231 rfl e708 (M_X11_town l b D z nx e710) (As := [.int x703, .int x705]) rfl rfl (Nat.le_of_ble_eq_true rfl) ⟨(Nat.le_of_ble_eq_true rfl), (Nat.le_of_ble_eq_true rfl)⟩ ⟨rfl, rfl⟩ ⟨(by (try simp only [rmc_L_law, rms_L_law, rmc_X11_init, rms_X11_init, rmc_X12_init, rms_X12_init, rmc_X11_image, rms_X11_image]); omega), (by (try simp only [rmc_L_law, rms_L_law, rmc_X11_init, rms_X11_init, rmc_X12_init, rms_X12_init, rmc_X11_image, rms_X11_image]); omega)⟩ dL_law_1034 ?_
      refine g_aload_n 2 dL_law_1037 rfl ?_
      refine g_aload_n 0 dL_law_1038 rfl ?_
      refine g_iload_n 3 dL_law_1039 rfl ?_
      refine g_iconst dL_law_1040 lt_iconst_1 ?_
      refine g_iadd dL_law_1041 ?_
      obtain ⟨x711, e712, hF⟩ := q_bind hF
      refine g_iald e712 dL_law_1042 ?_
      refine g_aload_n 0 dL_law_1043 rfl ?_
      refine g_iload_n 3 dL_law_1044 rfl ?_
      refine g_iconst dL_law_1045 lt_iconst_2 ?_
      refine g_iadd dL_law_1046 ?_
      obtain ⟨x713, e714, hF⟩ := q_bind hF
      refine g_iald e714 dL_law_1047 ?_
      obtain ⟨u715, e716, hF⟩ := q_bind hF
      obtain ⟨x717, e718, hF⟩ := q_bind hF
      refine g_callVr0 (ci := 12) (q := (RX12, TX12, 49)) qm_X12_town wd_2022 wd_2023 wd_2024 rfl e716 (M_X12_town l b D z nx e718) (As := [.int x711, .int x713]) rfl rfl (Nat.le_of_ble_eq_true rfl) ⟨(Nat.le_of_ble_eq_true rfl), (Nat.le_of_ble_eq_true rfl)⟩ ⟨rfl, rfl⟩ ⟨(by (try simp only [rmc_L_law, rms_L_law, rmc_X11_init, rms_X11_init, rmc_X12_init, rms_X12_init, rmc_X11_image, rms_X11_image]); omega), (by (try simp only [rmc_L_law, rms_L_law, rmc_X11_init, rms_X11_init, rmc_X12_init, rms_X12_init, rmc_X11_image, rms_X11_image]); omega)⟩ dL_law_1048 ?_
      refine g_icmp_eq 1575 dL_law_1051 (by decide) (fun c719 => ?_) (fun c719 => ?_)
      · replace hF := q_t c719 hF
        refine g_iinc [(3, .int (a3 + 6)), (0, .ref a0), (1, .ref a1), (2, .ref a2)] 3 dL_law_1575 rfl (congrArg (a3 + ·) lt_iconst_6) (Nat.le_of_ble_eq_true rfl) rfl ?_
        refine g_goto 18 dL_law_1578 (by decide) ?_
        cases hF
        refine g_widen (k1 := k + 73) (j1 := j + 2724) (by (try simp only [rmc_L_law, rms_L_law, rmc_X11_init, rms_X11_init, rmc_X12_init, rms_X12_init, rmc_X11_image, rms_X11_image]); omega) (by (try simp only [rmc_L_law, rms_L_law, rmc_X11_init, rms_X11_init, rmc_X12_init, rms_X12_init, rmc_X11_image, rms_X11_image]); omega) ?_
        refine g_sub [1, 2, 3, 0] rfl ?_
        exact hback _ _ _ rfl
      · replace hF := q_f c719 hF
        cases hF
        refine g_widen (k1 := k + 73) (j1 := j + 2724) (by (try simp only [rmc_L_law, rms_L_law, rmc_X11_init, rms_X11_init, rmc_X12_init, rms_X12_init, rmc_X11_image, rms_X11_image]); omega) (by (try simp only [rmc_L_law, rms_L_law, rmc_X11_init, rms_X11_init, rmc_X12_init, rms_X12_init, rmc_X11_image, rms_X11_image]); omega) ?_
        refine g_sub [] rfl ?_
        exact hx18 _ _ rfl
    replace hF := q_f c702 hF
    by_cases c720 : (x4 &&& (31 : Int32)) = 19
    · replace hF := q_t c720 hF
      refine g_tabIn (off := 1023) 1056 dL_law_33 (by rw [c720]; decide) (by rw [c720]; decide) (by rw [c720]; decide) (by decide) ?_
      refine g_aload_n 1 dL_law_1056 rfl ?_
      refine g_aload_n 0 dL_law_1057 rfl ?_
      refine g_iload_n 3 dL_law_1058 rfl ?_
      refine g_iconst dL_law_1059 lt_iconst_1 ?_
      refine g_iadd dL_law_1060 ?_
      obtain ⟨x721, e722, hF⟩ := q_bind hF
      refine g_iald e722 dL_law_1061 ?_
      refine g_aload_n 0 dL_law_1062 rfl ?_
      refine g_iload_n 3 dL_law_1063 rfl ?_
      refine g_iconst dL_law_1064 lt_iconst_2 ?_
      refine g_iadd dL_law_1065 ?_
      obtain ⟨x723, e724, hF⟩ := q_bind hF
      refine g_iald e724 dL_law_1066 ?_
      refine g_aload_n 0 dL_law_1067 rfl ?_
      refine g_iload_n 3 dL_law_1068 rfl ?_
      refine g_iconst dL_law_1069 lt_iconst_3 ?_
      refine g_iadd dL_law_1070 ?_
      obtain ⟨x725, e726, hF⟩ := q_bind hF
      refine g_iald e726 dL_law_1071 ?_
      refine g_aload_n 0 dL_law_1072 rfl ?_
      refine g_iload_n 3 dL_law_1073 rfl ?_
      refine g_iconst dL_law_1074 lt_iconst_4 ?_
      refine g_iadd dL_law_1075 ?_
      obtain ⟨x727, e728, hF⟩ := q_bind hF
      refine g_iald e728 dL_law_1076 ?_
      obtain ⟨u729, e730, hF⟩ := q_bind hF
      obtain ⟨x731, e732, hF⟩ := q_bind hF
      refine g_callVr0 (ci := 11) (q := (RX11, TX11, 8)) qm_X11_drawn wd_1290 wd_1291 wd_1292 rfl e730 (M_X11_drawn l b D z nx e732) (As := [.int x721, .int x723, .int x725, .int x727]) rfl rfl (Nat.le_of_ble_eq_true rfl) ⟨(Nat.le_of_ble_eq_true rfl), (Nat.le_of_ble_eq_true rfl)⟩ ⟨rfl, rfl⟩ ⟨(by (try simp only [rmc_L_law, rms_L_law, rmc_X11_init, rms_X11_init, rmc_X12_init, rms_X12_init, rmc_X11_image, rms_X11_image]); omega), (by (try simp only [rmc_L_law, rms_L_law, rmc_X11_init, rms_X11_init, rmc_X12_init, rms_X12_init, rmc_X11_image, rms_X11_image]); omega)⟩ dL_law_1077 ?_
      refine g_aload_n 2 dL_law_1080 rfl ?_
      refine g_aload_n 0 dL_law_1081 rfl ?_
      refine g_iload_n 3 dL_law_1082 rfl ?_
      refine g_iconst dL_law_1083 lt_iconst_1 ?_
      refine g_iadd dL_law_1084 ?_
      obtain ⟨x733, e734, hF⟩ := q_bind hF
      refine g_iald e734 dL_law_1085 ?_
      refine g_aload_n 0 dL_law_1086 rfl ?_
      refine g_iload_n 3 dL_law_1087 rfl ?_
      refine g_iconst dL_law_1088 lt_iconst_2 ?_
      refine g_iadd dL_law_1089 ?_
      obtain ⟨x735, e736, hF⟩ := q_bind hF
      refine g_iald e736 dL_law_1090 ?_
      refine g_aload_n 0 dL_law_1091 rfl ?_
      refine g_iload_n 3 dL_law_1092 rfl ?_
      refine g_iconst dL_law_1093 lt_iconst_3 ?_
      refine g_iadd dL_law_1094 ?_
      obtain ⟨x737, e738, hF⟩ := q_bind hF
      refine g_iald e738 dL_law_1095 ?_
      refine g_aload_n 0 dL_law_1096 rfl ?_
      refine g_iload_n 3 dL_law_1097 rfl ?_
      refine g_iconst dL_law_1098 lt_iconst_4 ?_
      refine g_iadd dL_law_1099 ?_
      obtain ⟨x739, e740, hF⟩ := q_bind hF
      refine g_iald e740 dL_law_1100 ?_
      obtain ⟨u741, e742, hF⟩ := q_bind hF
      obtain ⟨x743, e744, hF⟩ := q_bind hF
      refine g_callVr0 (ci := 12) (q := (RX12, TX12, 49)) qm_X12_drawn wd_2069 wd_2070 wd_2071 rfl e742 (M_X12_drawn l b D z nx e744) (As := [.int x733, .int x735, .int x737, .int x739]) rfl rfl (Nat.le_of_ble_eq_true rfl) ⟨(Nat.le_of_ble_eq_true rfl), (Nat.le_of_ble_eq_true rfl)⟩ ⟨rfl, rfl⟩ ⟨(by (try simp only [rmc_L_law, rms_L_law, rmc_X11_init, rms_X11_init, rmc_X12_init, rms_X12_init, rmc_X11_image, rms_X11_image]); omega), (by (try simp only [rmc_L_law, rms_L_law, rmc_X11_init, rms_X11_init, rmc_X12_init, rms_X12_init, rmc_X11_image, rms_X11_image]); omega)⟩ dL_law_1101 ?_
      refine g_icmp_eq 1575 dL_law_1104 (by decide) (fun c745 => ?_) (fun c745 => ?_)
      · replace hF := q_t c745 hF
        refine g_iinc [(3, .int (a3 + 6)), (0, .ref a0), (1, .ref a1), (2, .ref a2)] 3 dL_law_1575 rfl (congrArg (a3 + ·) lt_iconst_6) (Nat.le_of_ble_eq_true rfl) rfl ?_
        refine g_goto 18 dL_law_1578 (by decide) ?_
        cases hF
        refine g_widen (k1 := k + 73) (j1 := j + 2724) (by (try simp only [rmc_L_law, rms_L_law, rmc_X11_init, rms_X11_init, rmc_X12_init, rms_X12_init, rmc_X11_image, rms_X11_image]); omega) (by (try simp only [rmc_L_law, rms_L_law, rmc_X11_init, rms_X11_init, rmc_X12_init, rms_X12_init, rmc_X11_image, rms_X11_image]); omega) ?_
        refine g_sub [1, 2, 3, 0] rfl ?_
        exact hback _ _ _ rfl
      · replace hF := q_f c745 hF
        cases hF
        refine g_widen (k1 := k + 73) (j1 := j + 2724) (by (try simp only [rmc_L_law, rms_L_law, rmc_X11_init, rms_X11_init, rmc_X12_init, rms_X12_init, rmc_X11_image, rms_X11_image]); omega) (by (try simp only [rmc_L_law, rms_L_law, rmc_X11_init, rms_X11_init, rmc_X12_init, rms_X12_init, rmc_X11_image, rms_X11_image]); omega) ?_
        refine g_sub [] rfl ?_
        exact hx19 _ _ rfl
    replace hF := q_f c720 hF
    by_cases c746 : (x4 &&& (31 : Int32)) = 20
    · replace hF := q_t c746 hF
      refine g_tabIn (off := 1076) 1109 dL_law_33 (by rw [c746]; decide) (by rw [c746]; decide) (by rw [c746]; decide) (by decide) ?_
      refine g_aload_n 1 dL_law_1109 rfl ?_
      refine g_aload_n 0 dL_law_1110 rfl ?_
      refine g_iload_n 3 dL_law_1111 rfl ?_
      refine g_iconst dL_law_1112 lt_iconst_1 ?_
      refine g_iadd dL_law_1113 ?_
      obtain ⟨x747, e748, hF⟩ := q_bind hF
      refine g_iald e748 dL_law_1114 ?_
      refine g_aload_n 0 dL_law_1115 rfl ?_
      refine g_iload_n 3 dL_law_1116 rfl ?_
      refine g_iconst dL_law_1117 lt_iconst_2 ?_
      refine g_iadd dL_law_1118 ?_
      obtain ⟨x749, e750, hF⟩ := q_bind hF
      refine g_iald e750 dL_law_1119 ?_
      obtain ⟨u751, e752, hF⟩ := q_bind hF
      obtain ⟨x753, e754, hF⟩ := q_bind hF
      refine g_callVr0 (ci := 11) (q := (RX11, TX11, 8)) qm_X11_bar wd_1312 wd_1313 wd_1314 rfl e752 (M_X11_bar l b D z nx e754) (As := [.int x747, .int x749]) rfl rfl (Nat.le_of_ble_eq_true rfl) ⟨(Nat.le_of_ble_eq_true rfl), (Nat.le_of_ble_eq_true rfl)⟩ ⟨rfl, rfl⟩ ⟨(by (try simp only [rmc_L_law, rms_L_law, rmc_X11_init, rms_X11_init, rmc_X12_init, rms_X12_init, rmc_X11_image, rms_X11_image]); omega), (by (try simp only [rmc_L_law, rms_L_law, rmc_X11_init, rms_X11_init, rmc_X12_init, rms_X12_init, rmc_X11_image, rms_X11_image]); omega)⟩ dL_law_1120 ?_
      refine g_aload_n 2 dL_law_1123 rfl ?_
      refine g_aload_n 0 dL_law_1124 rfl ?_
      refine g_iload_n 3 dL_law_1125 rfl ?_
      refine g_iconst dL_law_1126 lt_iconst_1 ?_
      refine g_iadd dL_law_1127 ?_
      obtain ⟨x755, e756, hF⟩ := q_bind hF
      refine g_iald e756 dL_law_1128 ?_
      refine g_aload_n 0 dL_law_1129 rfl ?_
      refine g_iload_n 3 dL_law_1130 rfl ?_
      refine g_iconst dL_law_1131 lt_iconst_2 ?_
      refine g_iadd dL_law_1132 ?_
      obtain ⟨x757, e758, hF⟩ := q_bind hF
      refine g_iald e758 dL_law_1133 ?_
      obtain ⟨u759, e760, hF⟩ := q_bind hF
      obtain ⟨x761, e762, hF⟩ := q_bind hF
      refine g_callVr0 (ci := 12) (q := (RX12, TX12, 49)) qm_X12_bar wd_2082 wd_2083 wd_2084 rfl e760 (M_X12_bar l b D z nx e762) (As := [.int x755, .int x757]) rfl rfl (Nat.le_of_ble_eq_true rfl) ⟨(Nat.le_of_ble_eq_true rfl), (Nat.le_of_ble_eq_true rfl)⟩ ⟨rfl, rfl⟩ ⟨(by (try simp only [rmc_L_law, rms_L_law, rmc_X11_init, rms_X11_init, rmc_X12_init, rms_X12_init, rmc_X11_image, rms_X11_image]); omega), (by (try simp only [rmc_L_law, rms_L_law, rmc_X11_init, rms_X11_init, rmc_X12_init, rms_X12_init, rmc_X11_image, rms_X11_image]); omega)⟩ dL_law_1134 ?_
      refine g_icmp_eq 1575 dL_law_1137 (by decide) (fun c763 => ?_) (fun c763 => ?_)
      · replace hF := q_t c763 hF
        refine g_iinc [(3, .int (a3 + 6)), (0, .ref a0), (1, .ref a1), (2, .ref a2)] 3 dL_law_1575 rfl (congrArg (a3 + ·) lt_iconst_6) (Nat.le_of_ble_eq_true rfl) rfl ?_
        refine g_goto 18 dL_law_1578 (by decide) ?_
        cases hF
        refine g_widen (k1 := k + 73) (j1 := j + 2724) (by (try simp only [rmc_L_law, rms_L_law, rmc_X11_init, rms_X11_init, rmc_X12_init, rms_X12_init, rmc_X11_image, rms_X11_image]); omega) (by (try simp only [rmc_L_law, rms_L_law, rmc_X11_init, rms_X11_init, rmc_X12_init, rms_X12_init, rmc_X11_image, rms_X11_image]); omega) ?_
        refine g_sub [1, 2, 3, 0] rfl ?_
        exact hback _ _ _ rfl
      · replace hF := q_f c763 hF
        cases hF
        refine g_widen (k1 := k + 73) (j1 := j + 2724) (by (try simp only [rmc_L_law, rms_L_law, rmc_X11_init, rms_X11_init, rmc_X12_init, rms_X12_init, rmc_X11_image, rms_X11_image]); omega) (by (try simp only [rmc_L_law, rms_L_law, rmc_X11_init, rms_X11_init, rmc_X12_init, rms_X12_init, rmc_X11_image, rms_X11_image]); omega) ?_
        refine g_sub [] rfl ?_
        exact hx20 _ _ rfl
    replace hF := q_f c746 hF
    by_cases c764 : (x4 &&& (31 : Int32)) = 21
    · replace hF := q_t c764 hF
      refine g_tabIn (off := 1109) 1142 dL_law_33 (by rw [c764]; decide) (by rw [c764]; decide) (by rw [c764]; decide) (by decide) ?_
      refine g_aload_n 1 dL_law_1142 rfl ?_
      refine g_aload_n 0 dL_law_1143 rfl ?_
      refine g_iload_n 3 dL_law_1144 rfl ?_
      refine g_iconst dL_law_1145 lt_iconst_1 ?_
      refine g_iadd dL_law_1146 ?_
      obtain ⟨x765, e766, hF⟩ := q_bind hF
      refine g_iald e766 dL_law_1147 ?_
      refine g_aload_n 0 dL_law_1148 rfl ?_
      refine g_iload_n 3 dL_law_1149 rfl ?_
      refine g_iconst dL_law_1150 lt_iconst_2 ?_
      refine g_iadd dL_law_1151 ?_
      obtain ⟨x767, e768, hF⟩ := q_bind hF
      refine g_iald e768 dL_law_1152 ?_
      obtain ⟨u769, e770, hF⟩ := q_bind hF
      obtain ⟨x771, e772, hF⟩ := q_bind hF
      refine g_callVr0 (ci := 11) (q := (RX11, TX11, 8)) qm_X11_must wd_1331 wd_1332 wd_1333 rfl e770 (M_X11_must l b D z nx e772) (As := [.int x765, .int x767]) rfl rfl (Nat.le_of_ble_eq_true rfl) ⟨(Nat.le_of_ble_eq_true rfl), (Nat.le_of_ble_eq_true rfl)⟩ ⟨rfl, rfl⟩ ⟨(by (try simp only [rmc_L_law, rms_L_law, rmc_X11_init, rms_X11_init, rmc_X12_init, rms_X12_init, rmc_X11_image, rms_X11_image]); omega), (by (try simp only [rmc_L_law, rms_L_law, rmc_X11_init, rms_X11_init, rmc_X12_init, rms_X12_init, rmc_X11_image, rms_X11_image]); omega)⟩ dL_law_1153 ?_
      refine g_aload_n 2 dL_law_1156 rfl ?_
      refine g_aload_n 0 dL_law_1157 rfl ?_
      refine g_iload_n 3 dL_law_1158 rfl ?_
      refine g_iconst dL_law_1159 lt_iconst_1 ?_
      refine g_iadd dL_law_1160 ?_
      obtain ⟨x773, e774, hF⟩ := q_bind hF
      refine g_iald e774 dL_law_1161 ?_
      refine g_aload_n 0 dL_law_1162 rfl ?_
      refine g_iload_n 3 dL_law_1163 rfl ?_
      refine g_iconst dL_law_1164 lt_iconst_2 ?_
      refine g_iadd dL_law_1165 ?_
      obtain ⟨x775, e776, hF⟩ := q_bind hF
      refine g_iald e776 dL_law_1166 ?_
      obtain ⟨u777, e778, hF⟩ := q_bind hF
      obtain ⟨x779, e780, hF⟩ := q_bind hF
      refine g_callVr0 (ci := 12) (q := (RX12, TX12, 49)) qm_X12_must wd_2094 wd_2095 wd_2096 rfl e778 (M_X12_must l b D z nx e780) (As := [.int x773, .int x775]) rfl rfl (Nat.le_of_ble_eq_true rfl) ⟨(Nat.le_of_ble_eq_true rfl), (Nat.le_of_ble_eq_true rfl)⟩ ⟨rfl, rfl⟩ ⟨(by (try simp only [rmc_L_law, rms_L_law, rmc_X11_init, rms_X11_init, rmc_X12_init, rms_X12_init, rmc_X11_image, rms_X11_image]); omega), (by (try simp only [rmc_L_law, rms_L_law, rmc_X11_init, rms_X11_init, rmc_X12_init, rms_X12_init, rmc_X11_image, rms_X11_image]); omega)⟩ dL_law_1167 ?_
      refine g_icmp_eq 1575 dL_law_1170 (by decide) (fun c781 => ?_) (fun c781 => ?_)
      · replace hF := q_t c781 hF
        refine g_iinc [(3, .int (a3 + 6)), (0, .ref a0), (1, .ref a1), (2, .ref a2)] 3 dL_law_1575 rfl (congrArg (a3 + ·) lt_iconst_6) (Nat.le_of_ble_eq_true rfl) rfl ?_
        refine g_goto 18 dL_law_1578 (by decide) ?_
        cases hF
        refine g_widen (k1 := k + 73) (j1 := j + 2724) (by (try simp only [rmc_L_law, rms_L_law, rmc_X11_init, rms_X11_init, rmc_X12_init, rms_X12_init, rmc_X11_image, rms_X11_image]); omega) (by (try simp only [rmc_L_law, rms_L_law, rmc_X11_init, rms_X11_init, rmc_X12_init, rms_X12_init, rmc_X11_image, rms_X11_image]); omega) ?_
        refine g_sub [1, 2, 3, 0] rfl ?_
        exact hback _ _ _ rfl
      · replace hF := q_f c781 hF
        cases hF
        refine g_widen (k1 := k + 73) (j1 := j + 2724) (by (try simp only [rmc_L_law, rms_L_law, rmc_X11_init, rms_X11_init, rmc_X12_init, rms_X12_init, rmc_X11_image, rms_X11_image]); omega) (by (try simp only [rmc_L_law, rms_L_law, rmc_X11_init, rms_X11_init, rmc_X12_init, rms_X12_init, rmc_X11_image, rms_X11_image]); omega) ?_
        refine g_sub [] rfl ?_
        exact hx21 _ _ rfl
    replace hF := q_f c764 hF
    by_cases c782 : (x4 &&& (31 : Int32)) = 22
    · replace hF := q_t c782 hF
      refine g_tabIn (off := 1142) 1175 dL_law_33 (by rw [c782]; decide) (by rw [c782]; decide) (by rw [c782]; decide) (by decide) ?_
      refine g_aload_n 1 dL_law_1175 rfl ?_
      refine g_aload_n 0 dL_law_1176 rfl ?_
      refine g_iload_n 3 dL_law_1177 rfl ?_
      refine g_iconst dL_law_1178 lt_iconst_1 ?_
      refine g_iadd dL_law_1179 ?_
      obtain ⟨x783, e784, hF⟩ := q_bind hF
      refine g_iald e784 dL_law_1180 ?_
      refine g_aload_n 0 dL_law_1181 rfl ?_
      refine g_iload_n 3 dL_law_1182 rfl ?_
      refine g_iconst dL_law_1183 lt_iconst_2 ?_
      refine g_iadd dL_law_1184 ?_
      obtain ⟨x785, e786, hF⟩ := q_bind hF
      refine g_iald e786 dL_law_1185 ?_
      obtain ⟨u787, e788, hF⟩ := q_bind hF
      obtain ⟨x789, e790, hF⟩ := q_bind hF
      refine g_callVr0 (ci := 11) (q := (RX11, TX11, 8)) qm_X11_ways wd_1339 wd_1340 wd_1341 rfl e788 (M_X11_ways l b D z nx e790) (As := [.int x783, .int x785]) rfl rfl (Nat.le_of_ble_eq_true rfl) ⟨(Nat.le_of_ble_eq_true rfl), (Nat.le_of_ble_eq_true rfl)⟩ ⟨rfl, rfl⟩ ⟨(by (try simp only [rmc_L_law, rms_L_law, rmc_X11_init, rms_X11_init, rmc_X12_init, rms_X12_init, rmc_X11_image, rms_X11_image]); omega), (by (try simp only [rmc_L_law, rms_L_law, rmc_X11_init, rms_X11_init, rmc_X12_init, rms_X12_init, rmc_X11_image, rms_X11_image]); omega)⟩ dL_law_1186 ?_
      refine g_aload_n 2 dL_law_1189 rfl ?_
      refine g_aload_n 0 dL_law_1190 rfl ?_
      refine g_iload_n 3 dL_law_1191 rfl ?_
      refine g_iconst dL_law_1192 lt_iconst_1 ?_
      refine g_iadd dL_law_1193 ?_
      obtain ⟨x791, e792, hF⟩ := q_bind hF
      refine g_iald e792 dL_law_1194 ?_
      refine g_aload_n 0 dL_law_1195 rfl ?_
      refine g_iload_n 3 dL_law_1196 rfl ?_
      refine g_iconst dL_law_1197 lt_iconst_2 ?_
      refine g_iadd dL_law_1198 ?_
      obtain ⟨x793, e794, hF⟩ := q_bind hF
      refine g_iald e794 dL_law_1199 ?_
      obtain ⟨u795, e796, hF⟩ := q_bind hF
      obtain ⟨x797, e798, hF⟩ := q_bind hF
      refine g_callVr0 (ci := 12) (q := (RX12, TX12, 49)) qm_X12_ways wd_2098 wd_2099 wd_2100 rfl e796 (M_X12_ways l b D z nx e798) (As := [.int x791, .int x793]) rfl rfl (Nat.le_of_ble_eq_true rfl) ⟨(Nat.le_of_ble_eq_true rfl), (Nat.le_of_ble_eq_true rfl)⟩ ⟨rfl, rfl⟩ ⟨(by (try simp only [rmc_L_law, rms_L_law, rmc_X11_init, rms_X11_init, rmc_X12_init, rms_X12_init, rmc_X11_image, rms_X11_image]); omega), (by (try simp only [rmc_L_law, rms_L_law, rmc_X11_init, rms_X11_init, rmc_X12_init, rms_X12_init, rmc_X11_image, rms_X11_image]); omega)⟩ dL_law_1200 ?_
      refine g_lcmp dL_law_1203 ?_
      refine g_if_eq 1575 dL_law_1204 (by decide) (fun c799 => ?_) (fun c799 => ?_)
      · replace hF := q_t c799 hF
        refine g_iinc [(3, .int (a3 + 6)), (0, .ref a0), (1, .ref a1), (2, .ref a2)] 3 dL_law_1575 rfl (congrArg (a3 + ·) lt_iconst_6) (Nat.le_of_ble_eq_true rfl) rfl ?_
        refine g_goto 18 dL_law_1578 (by decide) ?_
        cases hF
        refine g_widen (k1 := k + 73) (j1 := j + 2724) (by (try simp only [rmc_L_law, rms_L_law, rmc_X11_init, rms_X11_init, rmc_X12_init, rms_X12_init, rmc_X11_image, rms_X11_image]); omega) (by (try simp only [rmc_L_law, rms_L_law, rmc_X11_init, rms_X11_init, rmc_X12_init, rms_X12_init, rmc_X11_image, rms_X11_image]); omega) ?_
        refine g_sub [1, 2, 3, 0] rfl ?_
        exact hback _ _ _ rfl
      · replace hF := q_f c799 hF
        cases hF
        refine g_widen (k1 := k + 73) (j1 := j + 2724) (by (try simp only [rmc_L_law, rms_L_law, rmc_X11_init, rms_X11_init, rmc_X12_init, rms_X12_init, rmc_X11_image, rms_X11_image]); omega) (by (try simp only [rmc_L_law, rms_L_law, rmc_X11_init, rms_X11_init, rmc_X12_init, rms_X12_init, rmc_X11_image, rms_X11_image]); omega) ?_
        refine g_sub [] rfl ?_
        exact hx22 _ _ rfl
    replace hF := q_f c782 hF
    by_cases c800 : (x4 &&& (31 : Int32)) = 23
    · replace hF := q_t c800 hF
      refine g_tabIn (off := 1176) 1209 dL_law_33 (by rw [c800]; decide) (by rw [c800]; decide) (by rw [c800]; decide) (by decide) ?_
      refine g_aload_n 1 dL_law_1209 rfl ?_
      refine g_aload_n 0 dL_law_1210 rfl ?_
      refine g_iload_n 3 dL_law_1211 rfl ?_
      refine g_iconst dL_law_1212 lt_iconst_1 ?_
      refine g_iadd dL_law_1213 ?_
      obtain ⟨x801, e802, hF⟩ := q_bind hF
      refine g_iald e802 dL_law_1214 ?_
      refine g_aload_n 0 dL_law_1215 rfl ?_
      refine g_iload_n 3 dL_law_1216 rfl ?_
      refine g_iconst dL_law_1217 lt_iconst_2 ?_
      refine g_iadd dL_law_1218 ?_
      obtain ⟨x803, e804, hF⟩ := q_bind hF
      refine g_iald e804 dL_law_1219 ?_
      refine g_aload_n 0 dL_law_1220 rfl ?_
      refine g_iload_n 3 dL_law_1221 rfl ?_
      refine g_iconst dL_law_1222 lt_iconst_3 ?_
      refine g_iadd dL_law_1223 ?_
      obtain ⟨x805, e806, hF⟩ := q_bind hF
      refine g_iald e806 dL_law_1224 ?_
      refine g_aload_n 0 dL_law_1225 rfl ?_
      refine g_iload_n 3 dL_law_1226 rfl ?_
      refine g_iconst dL_law_1227 lt_iconst_4 ?_
      refine g_iadd dL_law_1228 ?_
      obtain ⟨x807, e808, hF⟩ := q_bind hF
      refine g_iald e808 dL_law_1229 ?_
      refine g_if_eq 1237 dL_law_1230 (by decide) (fun c809 => ?_) (fun c809 => ?_)
      · replace hF := q_t c809 hF
        refine g_iconst dL_law_1237 lt_iconst_0 ?_
        obtain ⟨u810, e811, hF⟩ := q_bind hF
        obtain ⟨x812, e813, hF⟩ := q_bind hF
        refine g_callVr0 (ci := 11) (q := (RX11, TX11, 8)) qm_X11_worst wd_1351 wd_1352 wd_1353 rfl e811 (M_X11_worst l b D z nx e813) (As := [.int x801, .int x803, .int x805, .int (0 : Int32)]) rfl rfl (Nat.le_of_ble_eq_true rfl) ⟨(Nat.le_of_ble_eq_true rfl), (Nat.le_of_ble_eq_true rfl)⟩ ⟨rfl, rfl⟩ ⟨(by (try simp only [rmc_L_law, rms_L_law, rmc_X11_init, rms_X11_init, rmc_X12_init, rms_X12_init, rmc_X11_image, rms_X11_image]); omega), (by (try simp only [rmc_L_law, rms_L_law, rmc_X11_init, rms_X11_init, rmc_X12_init, rms_X12_init, rmc_X11_image, rms_X11_image]); omega)⟩ dL_law_1238 ?_
        refine g_aload_n 2 dL_law_1241 rfl ?_
        refine g_aload_n 0 dL_law_1242 rfl ?_
        refine g_iload_n 3 dL_law_1243 rfl ?_
        refine g_iconst dL_law_1244 lt_iconst_1 ?_
        refine g_iadd dL_law_1245 ?_
        obtain ⟨x814, e815, hF⟩ := q_bind hF
        refine g_iald e815 dL_law_1246 ?_
        refine g_aload_n 0 dL_law_1247 rfl ?_
        refine g_iload_n 3 dL_law_1248 rfl ?_
        refine g_iconst dL_law_1249 lt_iconst_2 ?_
        refine g_iadd dL_law_1250 ?_
        obtain ⟨x816, e817, hF⟩ := q_bind hF
        refine g_iald e817 dL_law_1251 ?_
        refine g_aload_n 0 dL_law_1252 rfl ?_
        refine g_iload_n 3 dL_law_1253 rfl ?_
        refine g_iconst dL_law_1254 lt_iconst_3 ?_
        refine g_iadd dL_law_1255 ?_
        obtain ⟨x818, e819, hF⟩ := q_bind hF
        refine g_iald e819 dL_law_1256 ?_
        refine g_aload_n 0 dL_law_1257 rfl ?_
        refine g_iload_n 3 dL_law_1258 rfl ?_
        refine g_iconst dL_law_1259 lt_iconst_4 ?_
        refine g_iadd dL_law_1260 ?_
        obtain ⟨x820, e821, hF⟩ := q_bind hF
        refine g_iald e821 dL_law_1261 ?_
        refine g_if_eq 1269 dL_law_1262 (by decide) (fun c822 => ?_) (fun c822 => ?_)
        · replace hF := q_t c822 hF
          refine g_iconst dL_law_1269 lt_iconst_0 ?_
          obtain ⟨u823, e824, hF⟩ := q_bind hF
          obtain ⟨x825, e826, hF⟩ := q_bind hF
          refine g_callVr0 (ci := 12) (q := (RX12, TX12, 49)) qm_X12_worst wd_2102 wd_2103 wd_2104 rfl e824 (M_X12_worst l b D z nx e826) (As := [.int x814, .int x816, .int x818, .int (0 : Int32)]) rfl rfl (Nat.le_of_ble_eq_true rfl) ⟨(Nat.le_of_ble_eq_true rfl), (Nat.le_of_ble_eq_true rfl)⟩ ⟨rfl, rfl⟩ ⟨(by (try simp only [rmc_L_law, rms_L_law, rmc_X11_init, rms_X11_init, rmc_X12_init, rms_X12_init, rmc_X11_image, rms_X11_image]); omega), (by (try simp only [rmc_L_law, rms_L_law, rmc_X11_init, rms_X11_init, rmc_X12_init, rms_X12_init, rmc_X11_image, rms_X11_image]); omega)⟩ dL_law_1270 ?_
          refine g_icmp_eq 1575 dL_law_1273 (by decide) (fun c827 => ?_) (fun c827 => ?_)
          · replace hF := q_t c827 hF
            refine g_iinc [(3, .int (a3 + 6)), (0, .ref a0), (1, .ref a1), (2, .ref a2)] 3 dL_law_1575 rfl (congrArg (a3 + ·) lt_iconst_6) (Nat.le_of_ble_eq_true rfl) rfl ?_
            refine g_goto 18 dL_law_1578 (by decide) ?_
            cases hF
            refine g_widen (k1 := k + 73) (j1 := j + 2724) (by (try simp only [rmc_L_law, rms_L_law, rmc_X11_init, rms_X11_init, rmc_X12_init, rms_X12_init, rmc_X11_image, rms_X11_image]); omega) (by (try simp only [rmc_L_law, rms_L_law, rmc_X11_init, rms_X11_init, rmc_X12_init, rms_X12_init, rmc_X11_image, rms_X11_image]); omega) ?_
            refine g_sub [1, 2, 3, 0] rfl ?_
            exact hback _ _ _ rfl
          · replace hF := q_f c827 hF
            cases hF
            refine g_widen (k1 := k + 73) (j1 := j + 2724) (by (try simp only [rmc_L_law, rms_L_law, rmc_X11_init, rms_X11_init, rmc_X12_init, rms_X12_init, rmc_X11_image, rms_X11_image]); omega) (by (try simp only [rmc_L_law, rms_L_law, rmc_X11_init, rms_X11_init, rmc_X12_init, rms_X12_init, rmc_X11_image, rms_X11_image]); omega) ?_
            refine g_sub [] rfl ?_
            exact hx23 _ _ rfl
        · replace hF := q_f c822 hF
          refine g_iconst dL_law_1265 lt_iconst_1 ?_
          refine g_goto 1270 dL_law_1266 (by decide) ?_
          obtain ⟨u828, e829, hF⟩ := q_bind hF
          obtain ⟨x830, e831, hF⟩ := q_bind hF
          refine g_callVr0 (ci := 12) (q := (RX12, TX12, 49)) qm_X12_worst wd_2102 wd_2103 wd_2104 rfl e829 (M_X12_worst l b D z nx e831) (As := [.int x814, .int x816, .int x818, .int (1 : Int32)]) rfl rfl (Nat.le_of_ble_eq_true rfl) ⟨(Nat.le_of_ble_eq_true rfl), (Nat.le_of_ble_eq_true rfl)⟩ ⟨rfl, rfl⟩ ⟨(by (try simp only [rmc_L_law, rms_L_law, rmc_X11_init, rms_X11_init, rmc_X12_init, rms_X12_init, rmc_X11_image, rms_X11_image]); omega), (by (try simp only [rmc_L_law, rms_L_law, rmc_X11_init, rms_X11_init, rmc_X12_init, rms_X12_init, rmc_X11_image, rms_X11_image]); omega)⟩ dL_law_1270 ?_
          refine g_icmp_eq 1575 dL_law_1273 (by decide) (fun c832 => ?_) (fun c832 => ?_)
          · replace hF := q_t c832 hF
            refine g_iinc [(3, .int (a3 + 6)), (0, .ref a0), (1, .ref a1), (2, .ref a2)] 3 dL_law_1575 rfl (congrArg (a3 + ·) lt_iconst_6) (Nat.le_of_ble_eq_true rfl) rfl ?_
            refine g_goto 18 dL_law_1578 (by decide) ?_
            cases hF
            refine g_widen (k1 := k + 73) (j1 := j + 2724) (by (try simp only [rmc_L_law, rms_L_law, rmc_X11_init, rms_X11_init, rmc_X12_init, rms_X12_init, rmc_X11_image, rms_X11_image]); omega) (by (try simp only [rmc_L_law, rms_L_law, rmc_X11_init, rms_X11_init, rmc_X12_init, rms_X12_init, rmc_X11_image, rms_X11_image]); omega) ?_
            refine g_sub [1, 2, 3, 0] rfl ?_
            exact hback _ _ _ rfl
          · replace hF := q_f c832 hF
            cases hF
            refine g_widen (k1 := k + 73) (j1 := j + 2724) (by (try simp only [rmc_L_law, rms_L_law, rmc_X11_init, rms_X11_init, rmc_X12_init, rms_X12_init, rmc_X11_image, rms_X11_image]); omega) (by (try simp only [rmc_L_law, rms_L_law, rmc_X11_init, rms_X11_init, rmc_X12_init, rms_X12_init, rmc_X11_image, rms_X11_image]); omega) ?_
            refine g_sub [] rfl ?_
            exact hx23 _ _ rfl
      · replace hF := q_f c809 hF
        refine g_iconst dL_law_1233 lt_iconst_1 ?_
        refine g_goto 1238 dL_law_1234 (by decide) ?_
        obtain ⟨u833, e834, hF⟩ := q_bind hF
        obtain ⟨x835, e836, hF⟩ := q_bind hF
        refine g_callVr0 (ci := 11) (q := (RX11, TX11, 8)) qm_X11_worst wd_1351 wd_1352 wd_1353 rfl e834 (M_X11_worst l b D z nx e836) (As := [.int x801, .int x803, .int x805, .int (1 : Int32)]) rfl rfl (Nat.le_of_ble_eq_true rfl) ⟨(Nat.le_of_ble_eq_true rfl), (Nat.le_of_ble_eq_true rfl)⟩ ⟨rfl, rfl⟩ ⟨(by (try simp only [rmc_L_law, rms_L_law, rmc_X11_init, rms_X11_init, rmc_X12_init, rms_X12_init, rmc_X11_image, rms_X11_image]); omega), (by (try simp only [rmc_L_law, rms_L_law, rmc_X11_init, rms_X11_init, rmc_X12_init, rms_X12_init, rmc_X11_image, rms_X11_image]); omega)⟩ dL_law_1238 ?_
        refine g_aload_n 2 dL_law_1241 rfl ?_
        refine g_aload_n 0 dL_law_1242 rfl ?_
        refine g_iload_n 3 dL_law_1243 rfl ?_
        refine g_iconst dL_law_1244 lt_iconst_1 ?_
        refine g_iadd dL_law_1245 ?_
        obtain ⟨x837, e838, hF⟩ := q_bind hF
        refine g_iald e838 dL_law_1246 ?_
        refine g_aload_n 0 dL_law_1247 rfl ?_
        refine g_iload_n 3 dL_law_1248 rfl ?_
        refine g_iconst dL_law_1249 lt_iconst_2 ?_
        refine g_iadd dL_law_1250 ?_
        obtain ⟨x839, e840, hF⟩ := q_bind hF
        refine g_iald e840 dL_law_1251 ?_
        refine g_aload_n 0 dL_law_1252 rfl ?_
        refine g_iload_n 3 dL_law_1253 rfl ?_
        refine g_iconst dL_law_1254 lt_iconst_3 ?_
        refine g_iadd dL_law_1255 ?_
        obtain ⟨x841, e842, hF⟩ := q_bind hF
        refine g_iald e842 dL_law_1256 ?_
        refine g_aload_n 0 dL_law_1257 rfl ?_
        refine g_iload_n 3 dL_law_1258 rfl ?_
        refine g_iconst dL_law_1259 lt_iconst_4 ?_
        refine g_iadd dL_law_1260 ?_
        obtain ⟨x843, e844, hF⟩ := q_bind hF
        refine g_iald e844 dL_law_1261 ?_
        refine g_if_eq 1269 dL_law_1262 (by decide) (fun c845 => ?_) (fun c845 => ?_)
        · replace hF := q_t c845 hF
          refine g_iconst dL_law_1269 lt_iconst_0 ?_
          obtain ⟨u846, e847, hF⟩ := q_bind hF
          obtain ⟨x848, e849, hF⟩ := q_bind hF
          refine g_callVr0 (ci := 12) (q := (RX12, TX12, 49)) qm_X12_worst wd_2102 wd_2103 wd_2104 rfl e847 (M_X12_worst l b D z nx e849) (As := [.int x837, .int x839, .int x841, .int (0 : Int32)]) rfl rfl (Nat.le_of_ble_eq_true rfl) ⟨(Nat.le_of_ble_eq_true rfl), (Nat.le_of_ble_eq_true rfl)⟩ ⟨rfl, rfl⟩ ⟨(by (try simp only [rmc_L_law, rms_L_law, rmc_X11_init, rms_X11_init, rmc_X12_init, rms_X12_init, rmc_X11_image, rms_X11_image]); omega), (by (try simp only [rmc_L_law, rms_L_law, rmc_X11_init, rms_X11_init, rmc_X12_init, rms_X12_init, rmc_X11_image, rms_X11_image]); omega)⟩ dL_law_1270 ?_
          refine g_icmp_eq 1575 dL_law_1273 (by decide) (fun c850 => ?_) (fun c850 => ?_)
          · replace hF := q_t c850 hF
            refine g_iinc [(3, .int (a3 + 6)), (0, .ref a0), (1, .ref a1), (2, .ref a2)] 3 dL_law_1575 rfl (congrArg (a3 + ·) lt_iconst_6) (Nat.le_of_ble_eq_true rfl) rfl ?_
            refine g_goto 18 dL_law_1578 (by decide) ?_
            cases hF
            refine g_widen (k1 := k + 73) (j1 := j + 2724) (by (try simp only [rmc_L_law, rms_L_law, rmc_X11_init, rms_X11_init, rmc_X12_init, rms_X12_init, rmc_X11_image, rms_X11_image]); omega) (by (try simp only [rmc_L_law, rms_L_law, rmc_X11_init, rms_X11_init, rmc_X12_init, rms_X12_init, rmc_X11_image, rms_X11_image]); omega) ?_
            refine g_sub [1, 2, 3, 0] rfl ?_
            exact hback _ _ _ rfl
          · replace hF := q_f c850 hF
            cases hF
            refine g_widen (k1 := k + 73) (j1 := j + 2724) (by (try simp only [rmc_L_law, rms_L_law, rmc_X11_init, rms_X11_init, rmc_X12_init, rms_X12_init, rmc_X11_image, rms_X11_image]); omega) (by (try simp only [rmc_L_law, rms_L_law, rmc_X11_init, rms_X11_init, rmc_X12_init, rms_X12_init, rmc_X11_image, rms_X11_image]); omega) ?_
            refine g_sub [] rfl ?_
            exact hx23 _ _ rfl
        · replace hF := q_f c845 hF
          refine g_iconst dL_law_1265 lt_iconst_1 ?_
          refine g_goto 1270 dL_law_1266 (by decide) ?_
          obtain ⟨u851, e852, hF⟩ := q_bind hF
          obtain ⟨x853, e854, hF⟩ := q_bind hF
          refine g_callVr0 (ci := 12) (q := (RX12, TX12, 49)) qm_X12_worst wd_2102 wd_2103 wd_2104 rfl e852 (M_X12_worst l b D z nx e854) (As := [.int x837, .int x839, .int x841, .int (1 : Int32)]) rfl rfl (Nat.le_of_ble_eq_true rfl) ⟨(Nat.le_of_ble_eq_true rfl), (Nat.le_of_ble_eq_true rfl)⟩ ⟨rfl, rfl⟩ ⟨(by (try simp only [rmc_L_law, rms_L_law, rmc_X11_init, rms_X11_init, rmc_X12_init, rms_X12_init, rmc_X11_image, rms_X11_image]); omega), (by (try simp only [rmc_L_law, rms_L_law, rmc_X11_init, rms_X11_init, rmc_X12_init, rms_X12_init, rmc_X11_image, rms_X11_image]); omega)⟩ dL_law_1270 ?_
          refine g_icmp_eq 1575 dL_law_1273 (by decide) (fun c855 => ?_) (fun c855 => ?_)
          · replace hF := q_t c855 hF
            refine g_iinc [(3, .int (a3 + 6)), (0, .ref a0), (1, .ref a1), (2, .ref a2)] 3 dL_law_1575 rfl (congrArg (a3 + ·) lt_iconst_6) (Nat.le_of_ble_eq_true rfl) rfl ?_
            refine g_goto 18 dL_law_1578 (by decide) ?_
            cases hF
            refine g_widen (k1 := k + 73) (j1 := j + 2724) (by (try simp only [rmc_L_law, rms_L_law, rmc_X11_init, rms_X11_init, rmc_X12_init, rms_X12_init, rmc_X11_image, rms_X11_image]); omega) (by (try simp only [rmc_L_law, rms_L_law, rmc_X11_init, rms_X11_init, rmc_X12_init, rms_X12_init, rmc_X11_image, rms_X11_image]); omega) ?_
            refine g_sub [1, 2, 3, 0] rfl ?_
            exact hback _ _ _ rfl
          · replace hF := q_f c855 hF
            cases hF
            refine g_widen (k1 := k + 73) (j1 := j + 2724) (by (try simp only [rmc_L_law, rms_L_law, rmc_X11_init, rms_X11_init, rmc_X12_init, rms_X12_init, rmc_X11_image, rms_X11_image]); omega) (by (try simp only [rmc_L_law, rms_L_law, rmc_X11_init, rms_X11_init, rmc_X12_init, rms_X12_init, rmc_X11_image, rms_X11_image]); omega) ?_
            refine g_sub [] rfl ?_
            exact hx23 _ _ rfl
    replace hF := q_f c800 hF
    by_cases c856 : (x4 &&& (31 : Int32)) = 24
    · replace hF := q_t c856 hF
      refine g_tabIn (off := 1245) 1278 dL_law_33 (by rw [c856]; decide) (by rw [c856]; decide) (by rw [c856]; decide) (by decide) ?_
      refine g_aload_n 1 dL_law_1278 rfl ?_
      refine g_aload_n 0 dL_law_1279 rfl ?_
      refine g_iload_n 3 dL_law_1280 rfl ?_
      refine g_iconst dL_law_1281 lt_iconst_1 ?_
      refine g_iadd dL_law_1282 ?_
      obtain ⟨x857, e858, hF⟩ := q_bind hF
      refine g_iald e858 dL_law_1283 ?_
      refine g_aload_n 0 dL_law_1284 rfl ?_
      refine g_iload_n 3 dL_law_1285 rfl ?_
      refine g_iconst dL_law_1286 lt_iconst_2 ?_
      refine g_iadd dL_law_1287 ?_
      obtain ⟨x859, e860, hF⟩ := q_bind hF
      refine g_iald e860 dL_law_1288 ?_
      refine g_if_eq 1296 dL_law_1289 (by decide) (fun c861 => ?_) (fun c861 => ?_)
      · replace hF := q_t c861 hF
        refine g_iconst dL_law_1296 lt_iconst_0 ?_
        obtain ⟨u862, e863, hF⟩ := q_bind hF
        obtain ⟨x864, e865, hF⟩ := q_bind hF
        refine g_callVr0 (ci := 11) (q := (RX11, TX11, 8)) qm_X11_lost wd_1364 wd_1365 wd_1366 rfl e863 (M_X11_lost l b D z nx e865) (As := [.int x857, .int (0 : Int32)]) rfl rfl (Nat.le_of_ble_eq_true rfl) ⟨(Nat.le_of_ble_eq_true rfl), (Nat.le_of_ble_eq_true rfl)⟩ ⟨rfl, rfl⟩ ⟨(by (try simp only [rmc_L_law, rms_L_law, rmc_X11_init, rms_X11_init, rmc_X12_init, rms_X12_init, rmc_X11_image, rms_X11_image]); omega), (by (try simp only [rmc_L_law, rms_L_law, rmc_X11_init, rms_X11_init, rmc_X12_init, rms_X12_init, rmc_X11_image, rms_X11_image]); omega)⟩ dL_law_1297 ?_
        refine g_aload_n 2 dL_law_1300 rfl ?_
        refine g_aload_n 0 dL_law_1301 rfl ?_
        refine g_iload_n 3 dL_law_1302 rfl ?_
        refine g_iconst dL_law_1303 lt_iconst_1 ?_
        refine g_iadd dL_law_1304 ?_
        obtain ⟨x866, e867, hF⟩ := q_bind hF
        refine g_iald e867 dL_law_1305 ?_
        refine g_aload_n 0 dL_law_1306 rfl ?_
        refine g_iload_n 3 dL_law_1307 rfl ?_
        refine g_iconst dL_law_1308 lt_iconst_2 ?_
        refine g_iadd dL_law_1309 ?_
        obtain ⟨x868, e869, hF⟩ := q_bind hF
        refine g_iald e869 dL_law_1310 ?_
        refine g_if_eq 1318 dL_law_1311 (by decide) (fun c870 => ?_) (fun c870 => ?_)
        · replace hF := q_t c870 hF
          refine g_iconst dL_law_1318 lt_iconst_0 ?_
          obtain ⟨u871, e872, hF⟩ := q_bind hF
          obtain ⟨x873, e874, hF⟩ := q_bind hF
          refine g_callVr0 (ci := 12) (q := (RX12, TX12, 49)) qm_X12_lost wd_2109 wd_2110 wd_2111 rfl e872 (M_X12_lost l b D z nx e874) (As := [.int x866, .int (0 : Int32)]) rfl rfl (Nat.le_of_ble_eq_true rfl) ⟨(Nat.le_of_ble_eq_true rfl), (Nat.le_of_ble_eq_true rfl)⟩ ⟨rfl, rfl⟩ ⟨(by (try simp only [rmc_L_law, rms_L_law, rmc_X11_init, rms_X11_init, rmc_X12_init, rms_X12_init, rmc_X11_image, rms_X11_image]); omega), (by (try simp only [rmc_L_law, rms_L_law, rmc_X11_init, rms_X11_init, rmc_X12_init, rms_X12_init, rmc_X11_image, rms_X11_image]); omega)⟩ dL_law_1319 ?_
          refine g_icmp_eq 1575 dL_law_1322 (by decide) (fun c875 => ?_) (fun c875 => ?_)
          · replace hF := q_t c875 hF
            refine g_iinc [(3, .int (a3 + 6)), (0, .ref a0), (1, .ref a1), (2, .ref a2)] 3 dL_law_1575 rfl (congrArg (a3 + ·) lt_iconst_6) (Nat.le_of_ble_eq_true rfl) rfl ?_
            refine g_goto 18 dL_law_1578 (by decide) ?_
            cases hF
            refine g_widen (k1 := k + 73) (j1 := j + 2724) (by (try simp only [rmc_L_law, rms_L_law, rmc_X11_init, rms_X11_init, rmc_X12_init, rms_X12_init, rmc_X11_image, rms_X11_image]); omega) (by (try simp only [rmc_L_law, rms_L_law, rmc_X11_init, rms_X11_init, rmc_X12_init, rms_X12_init, rmc_X11_image, rms_X11_image]); omega) ?_
            refine g_sub [1, 2, 3, 0] rfl ?_
            exact hback _ _ _ rfl
          · replace hF := q_f c875 hF
            cases hF
            refine g_widen (k1 := k + 73) (j1 := j + 2724) (by (try simp only [rmc_L_law, rms_L_law, rmc_X11_init, rms_X11_init, rmc_X12_init, rms_X12_init, rmc_X11_image, rms_X11_image]); omega) (by (try simp only [rmc_L_law, rms_L_law, rmc_X11_init, rms_X11_init, rmc_X12_init, rms_X12_init, rmc_X11_image, rms_X11_image]); omega) ?_
            refine g_sub [] rfl ?_
            exact hx24 _ _ rfl
        · replace hF := q_f c870 hF
          refine g_iconst dL_law_1314 lt_iconst_1 ?_
          refine g_goto 1319 dL_law_1315 (by decide) ?_
          obtain ⟨u876, e877, hF⟩ := q_bind hF
          obtain ⟨x878, e879, hF⟩ := q_bind hF
          refine g_callVr0 (ci := 12) (q := (RX12, TX12, 49)) qm_X12_lost wd_2109 wd_2110 wd_2111 rfl e877 (M_X12_lost l b D z nx e879) (As := [.int x866, .int (1 : Int32)]) rfl rfl (Nat.le_of_ble_eq_true rfl) ⟨(Nat.le_of_ble_eq_true rfl), (Nat.le_of_ble_eq_true rfl)⟩ ⟨rfl, rfl⟩ ⟨(by (try simp only [rmc_L_law, rms_L_law, rmc_X11_init, rms_X11_init, rmc_X12_init, rms_X12_init, rmc_X11_image, rms_X11_image]); omega), (by (try simp only [rmc_L_law, rms_L_law, rmc_X11_init, rms_X11_init, rmc_X12_init, rms_X12_init, rmc_X11_image, rms_X11_image]); omega)⟩ dL_law_1319 ?_
          refine g_icmp_eq 1575 dL_law_1322 (by decide) (fun c880 => ?_) (fun c880 => ?_)
          · replace hF := q_t c880 hF
            refine g_iinc [(3, .int (a3 + 6)), (0, .ref a0), (1, .ref a1), (2, .ref a2)] 3 dL_law_1575 rfl (congrArg (a3 + ·) lt_iconst_6) (Nat.le_of_ble_eq_true rfl) rfl ?_
            refine g_goto 18 dL_law_1578 (by decide) ?_
            cases hF
            refine g_widen (k1 := k + 73) (j1 := j + 2724) (by (try simp only [rmc_L_law, rms_L_law, rmc_X11_init, rms_X11_init, rmc_X12_init, rms_X12_init, rmc_X11_image, rms_X11_image]); omega) (by (try simp only [rmc_L_law, rms_L_law, rmc_X11_init, rms_X11_init, rmc_X12_init, rms_X12_init, rmc_X11_image, rms_X11_image]); omega) ?_
            refine g_sub [1, 2, 3, 0] rfl ?_
            exact hback _ _ _ rfl
          · replace hF := q_f c880 hF
            cases hF
            refine g_widen (k1 := k + 73) (j1 := j + 2724) (by (try simp only [rmc_L_law, rms_L_law, rmc_X11_init, rms_X11_init, rmc_X12_init, rms_X12_init, rmc_X11_image, rms_X11_image]); omega) (by (try simp only [rmc_L_law, rms_L_law, rmc_X11_init, rms_X11_init, rmc_X12_init, rms_X12_init, rmc_X11_image, rms_X11_image]); omega) ?_
            refine g_sub [] rfl ?_
            exact hx24 _ _ rfl
      · replace hF := q_f c861 hF
        refine g_iconst dL_law_1292 lt_iconst_1 ?_
        refine g_goto 1297 dL_law_1293 (by decide) ?_
        obtain ⟨u881, e882, hF⟩ := q_bind hF
        obtain ⟨x883, e884, hF⟩ := q_bind hF
        refine g_callVr0 (ci := 11) (q := (RX11, TX11, 8)) qm_X11_lost wd_1364 wd_1365 wd_1366 rfl e882 (M_X11_lost l b D z nx e884) (As := [.int x857, .int (1 : Int32)]) rfl rfl (Nat.le_of_ble_eq_true rfl) ⟨(Nat.le_of_ble_eq_true rfl), (Nat.le_of_ble_eq_true rfl)⟩ ⟨rfl, rfl⟩ ⟨(by (try simp only [rmc_L_law, rms_L_law, rmc_X11_init, rms_X11_init, rmc_X12_init, rms_X12_init, rmc_X11_image, rms_X11_image]); omega), (by (try simp only [rmc_L_law, rms_L_law, rmc_X11_init, rms_X11_init, rmc_X12_init, rms_X12_init, rmc_X11_image, rms_X11_image]); omega)⟩ dL_law_1297 ?_
        refine g_aload_n 2 dL_law_1300 rfl ?_
        refine g_aload_n 0 dL_law_1301 rfl ?_
        refine g_iload_n 3 dL_law_1302 rfl ?_
        refine g_iconst dL_law_1303 lt_iconst_1 ?_
        refine g_iadd dL_law_1304 ?_
        obtain ⟨x885, e886, hF⟩ := q_bind hF
        refine g_iald e886 dL_law_1305 ?_
        refine g_aload_n 0 dL_law_1306 rfl ?_
        refine g_iload_n 3 dL_law_1307 rfl ?_
        refine g_iconst dL_law_1308 lt_iconst_2 ?_
        refine g_iadd dL_law_1309 ?_
        obtain ⟨x887, e888, hF⟩ := q_bind hF
        refine g_iald e888 dL_law_1310 ?_
        refine g_if_eq 1318 dL_law_1311 (by decide) (fun c889 => ?_) (fun c889 => ?_)
        · replace hF := q_t c889 hF
          refine g_iconst dL_law_1318 lt_iconst_0 ?_
          obtain ⟨u890, e891, hF⟩ := q_bind hF
          obtain ⟨x892, e893, hF⟩ := q_bind hF
          refine g_callVr0 (ci := 12) (q := (RX12, TX12, 49)) qm_X12_lost wd_2109 wd_2110 wd_2111 rfl e891 (M_X12_lost l b D z nx e893) (As := [.int x885, .int (0 : Int32)]) rfl rfl (Nat.le_of_ble_eq_true rfl) ⟨(Nat.le_of_ble_eq_true rfl), (Nat.le_of_ble_eq_true rfl)⟩ ⟨rfl, rfl⟩ ⟨(by (try simp only [rmc_L_law, rms_L_law, rmc_X11_init, rms_X11_init, rmc_X12_init, rms_X12_init, rmc_X11_image, rms_X11_image]); omega), (by (try simp only [rmc_L_law, rms_L_law, rmc_X11_init, rms_X11_init, rmc_X12_init, rms_X12_init, rmc_X11_image, rms_X11_image]); omega)⟩ dL_law_1319 ?_
          refine g_icmp_eq 1575 dL_law_1322 (by decide) (fun c894 => ?_) (fun c894 => ?_)
          · replace hF := q_t c894 hF
            refine g_iinc [(3, .int (a3 + 6)), (0, .ref a0), (1, .ref a1), (2, .ref a2)] 3 dL_law_1575 rfl (congrArg (a3 + ·) lt_iconst_6) (Nat.le_of_ble_eq_true rfl) rfl ?_
            refine g_goto 18 dL_law_1578 (by decide) ?_
            cases hF
            refine g_widen (k1 := k + 73) (j1 := j + 2724) (by (try simp only [rmc_L_law, rms_L_law, rmc_X11_init, rms_X11_init, rmc_X12_init, rms_X12_init, rmc_X11_image, rms_X11_image]); omega) (by (try simp only [rmc_L_law, rms_L_law, rmc_X11_init, rms_X11_init, rmc_X12_init, rms_X12_init, rmc_X11_image, rms_X11_image]); omega) ?_
            refine g_sub [1, 2, 3, 0] rfl ?_
            exact hback _ _ _ rfl
          · replace hF := q_f c894 hF
            cases hF
            refine g_widen (k1 := k + 73) (j1 := j + 2724) (by (try simp only [rmc_L_law, rms_L_law, rmc_X11_init, rms_X11_init, rmc_X12_init, rms_X12_init, rmc_X11_image, rms_X11_image]); omega) (by (try simp only [rmc_L_law, rms_L_law, rmc_X11_init, rms_X11_init, rmc_X12_init, rms_X12_init, rmc_X11_image, rms_X11_image]); omega) ?_
            refine g_sub [] rfl ?_
            exact hx24 _ _ rfl
        · replace hF := q_f c889 hF
          refine g_iconst dL_law_1314 lt_iconst_1 ?_
          refine g_goto 1319 dL_law_1315 (by decide) ?_
          obtain ⟨u895, e896, hF⟩ := q_bind hF
          obtain ⟨x897, e898, hF⟩ := q_bind hF
          refine g_callVr0 (ci := 12) (q := (RX12, TX12, 49)) qm_X12_lost wd_2109 wd_2110 wd_2111 rfl e896 (M_X12_lost l b D z nx e898) (As := [.int x885, .int (1 : Int32)]) rfl rfl (Nat.le_of_ble_eq_true rfl) ⟨(Nat.le_of_ble_eq_true rfl), (Nat.le_of_ble_eq_true rfl)⟩ ⟨rfl, rfl⟩ ⟨(by (try simp only [rmc_L_law, rms_L_law, rmc_X11_init, rms_X11_init, rmc_X12_init, rms_X12_init, rmc_X11_image, rms_X11_image]); omega), (by (try simp only [rmc_L_law, rms_L_law, rmc_X11_init, rms_X11_init, rmc_X12_init, rms_X12_init, rmc_X11_image, rms_X11_image]); omega)⟩ dL_law_1319 ?_
          refine g_icmp_eq 1575 dL_law_1322 (by decide) (fun c899 => ?_) (fun c899 => ?_)
          · replace hF := q_t c899 hF
            refine g_iinc [(3, .int (a3 + 6)), (0, .ref a0), (1, .ref a1), (2, .ref a2)] 3 dL_law_1575 rfl (congrArg (a3 + ·) lt_iconst_6) (Nat.le_of_ble_eq_true rfl) rfl ?_
            refine g_goto 18 dL_law_1578 (by decide) ?_
            cases hF
            refine g_widen (k1 := k + 73) (j1 := j + 2724) (by (try simp only [rmc_L_law, rms_L_law, rmc_X11_init, rms_X11_init, rmc_X12_init, rms_X12_init, rmc_X11_image, rms_X11_image]); omega) (by (try simp only [rmc_L_law, rms_L_law, rmc_X11_init, rms_X11_init, rmc_X12_init, rms_X12_init, rmc_X11_image, rms_X11_image]); omega) ?_
            refine g_sub [1, 2, 3, 0] rfl ?_
            exact hback _ _ _ rfl
          · replace hF := q_f c899 hF
            cases hF
            refine g_widen (k1 := k + 73) (j1 := j + 2724) (by (try simp only [rmc_L_law, rms_L_law, rmc_X11_init, rms_X11_init, rmc_X12_init, rms_X12_init, rmc_X11_image, rms_X11_image]); omega) (by (try simp only [rmc_L_law, rms_L_law, rmc_X11_init, rms_X11_init, rmc_X12_init, rms_X12_init, rmc_X11_image, rms_X11_image]); omega) ?_
            refine g_sub [] rfl ?_
            exact hx24 _ _ rfl
    replace hF := q_f c856 hF
    by_cases c900 : (x4 &&& (31 : Int32)) = 25
    · replace hF := q_t c900 hF
      refine g_tabIn (off := 1294) 1327 dL_law_33 (by rw [c900]; decide) (by rw [c900]; decide) (by rw [c900]; decide) (by decide) ?_
      refine g_aload_n 1 dL_law_1327 rfl ?_
      refine g_aload_n 0 dL_law_1328 rfl ?_
      refine g_iload_n 3 dL_law_1329 rfl ?_
      refine g_iconst dL_law_1330 lt_iconst_1 ?_
      refine g_iadd dL_law_1331 ?_
      obtain ⟨x901, e902, hF⟩ := q_bind hF
      refine g_iald e902 dL_law_1332 ?_
      refine g_aload_n 0 dL_law_1333 rfl ?_
      refine g_iload_n 3 dL_law_1334 rfl ?_
      refine g_iconst dL_law_1335 lt_iconst_2 ?_
      refine g_iadd dL_law_1336 ?_
      obtain ⟨x903, e904, hF⟩ := q_bind hF
      refine g_iald e904 dL_law_1337 ?_
      refine g_aload_n 0 dL_law_1338 rfl ?_
      refine g_iload_n 3 dL_law_1339 rfl ?_
      refine g_iconst dL_law_1340 lt_iconst_3 ?_
      refine g_iadd dL_law_1341 ?_
      obtain ⟨x905, e906, hF⟩ := q_bind hF
      refine g_iald e906 dL_law_1342 ?_
      obtain ⟨u907, e908, hF⟩ := q_bind hF
      obtain ⟨x909, e910, hF⟩ := q_bind hF
      refine g_callVr0 (ci := 11) (q := (RX11, TX11, 8)) qm_X11_force wd_1374 wd_1375 wd_1376 rfl e908 (M_X11_force l b D z nx e910) (As := [.int x901, .int x903, .int x905]) rfl rfl (Nat.le_of_ble_eq_true rfl) ⟨(Nat.le_of_ble_eq_true rfl), (Nat.le_of_ble_eq_true rfl)⟩ ⟨rfl, rfl⟩ ⟨(by (try simp only [rmc_L_law, rms_L_law, rmc_X11_init, rms_X11_init, rmc_X12_init, rms_X12_init, rmc_X11_image, rms_X11_image]); omega), (by (try simp only [rmc_L_law, rms_L_law, rmc_X11_init, rms_X11_init, rmc_X12_init, rms_X12_init, rmc_X11_image, rms_X11_image]); omega)⟩ dL_law_1343 ?_
      refine g_aload_n 2 dL_law_1346 rfl ?_
      refine g_aload_n 0 dL_law_1347 rfl ?_
      refine g_iload_n 3 dL_law_1348 rfl ?_
      refine g_iconst dL_law_1349 lt_iconst_1 ?_
      refine g_iadd dL_law_1350 ?_
      obtain ⟨x911, e912, hF⟩ := q_bind hF
      refine g_iald e912 dL_law_1351 ?_
      refine g_aload_n 0 dL_law_1352 rfl ?_
      refine g_iload_n 3 dL_law_1353 rfl ?_
      refine g_iconst dL_law_1354 lt_iconst_2 ?_
      refine g_iadd dL_law_1355 ?_
      obtain ⟨x913, e914, hF⟩ := q_bind hF
      refine g_iald e914 dL_law_1356 ?_
      refine g_aload_n 0 dL_law_1357 rfl ?_
      refine g_iload_n 3 dL_law_1358 rfl ?_
      refine g_iconst dL_law_1359 lt_iconst_3 ?_
      refine g_iadd dL_law_1360 ?_
      obtain ⟨x915, e916, hF⟩ := q_bind hF
      refine g_iald e916 dL_law_1361 ?_
      obtain ⟨u917, e918, hF⟩ := q_bind hF
      obtain ⟨x919, e920, hF⟩ := q_bind hF
      refine g_callVr0 (ci := 12) (q := (RX12, TX12, 49)) qm_X12_force wd_2113 wd_2114 wd_2115 rfl e918 (M_X12_force l b D z nx e920) (As := [.int x911, .int x913, .int x915]) rfl rfl (Nat.le_of_ble_eq_true rfl) ⟨(Nat.le_of_ble_eq_true rfl), (Nat.le_of_ble_eq_true rfl)⟩ ⟨rfl, rfl⟩ ⟨(by (try simp only [rmc_L_law, rms_L_law, rmc_X11_init, rms_X11_init, rmc_X12_init, rms_X12_init, rmc_X11_image, rms_X11_image]); omega), (by (try simp only [rmc_L_law, rms_L_law, rmc_X11_init, rms_X11_init, rmc_X12_init, rms_X12_init, rmc_X11_image, rms_X11_image]); omega)⟩ dL_law_1362 ?_
      refine g_icmp_eq 1575 dL_law_1365 (by decide) (fun c921 => ?_) (fun c921 => ?_)
      · replace hF := q_t c921 hF
        refine g_iinc [(3, .int (a3 + 6)), (0, .ref a0), (1, .ref a1), (2, .ref a2)] 3 dL_law_1575 rfl (congrArg (a3 + ·) lt_iconst_6) (Nat.le_of_ble_eq_true rfl) rfl ?_
        refine g_goto 18 dL_law_1578 (by decide) ?_
        cases hF
        refine g_widen (k1 := k + 73) (j1 := j + 2724) (by (try simp only [rmc_L_law, rms_L_law, rmc_X11_init, rms_X11_init, rmc_X12_init, rms_X12_init, rmc_X11_image, rms_X11_image]); omega) (by (try simp only [rmc_L_law, rms_L_law, rmc_X11_init, rms_X11_init, rmc_X12_init, rms_X12_init, rmc_X11_image, rms_X11_image]); omega) ?_
        refine g_sub [1, 2, 3, 0] rfl ?_
        exact hback _ _ _ rfl
      · replace hF := q_f c921 hF
        cases hF
        refine g_widen (k1 := k + 73) (j1 := j + 2724) (by (try simp only [rmc_L_law, rms_L_law, rmc_X11_init, rms_X11_init, rmc_X12_init, rms_X12_init, rmc_X11_image, rms_X11_image]); omega) (by (try simp only [rmc_L_law, rms_L_law, rmc_X11_init, rms_X11_init, rmc_X12_init, rms_X12_init, rmc_X11_image, rms_X11_image]); omega) ?_
        refine g_sub [] rfl ?_
        exact hx25 _ _ rfl
    replace hF := q_f c900 hF
    by_cases c922 : (x4 &&& (31 : Int32)) = 26
    · replace hF := q_t c922 hF
      refine g_tabIn (off := 1337) 1370 dL_law_33 (by rw [c922]; decide) (by rw [c922]; decide) (by rw [c922]; decide) (by decide) ?_
      refine g_aload_n 1 dL_law_1370 rfl ?_
      refine g_aload_n 0 dL_law_1371 rfl ?_
      refine g_iload_n 3 dL_law_1372 rfl ?_
      refine g_iconst dL_law_1373 lt_iconst_1 ?_
      refine g_iadd dL_law_1374 ?_
      obtain ⟨x923, e924, hF⟩ := q_bind hF
      refine g_iald e924 dL_law_1375 ?_
      refine g_aload_n 0 dL_law_1376 rfl ?_
      refine g_iload_n 3 dL_law_1377 rfl ?_
      refine g_iconst dL_law_1378 lt_iconst_2 ?_
      refine g_iadd dL_law_1379 ?_
      obtain ⟨x925, e926, hF⟩ := q_bind hF
      refine g_iald e926 dL_law_1380 ?_
      refine g_aload_n 0 dL_law_1381 rfl ?_
      refine g_iload_n 3 dL_law_1382 rfl ?_
      refine g_iconst dL_law_1383 lt_iconst_3 ?_
      refine g_iadd dL_law_1384 ?_
      obtain ⟨x927, e928, hF⟩ := q_bind hF
      refine g_iald e928 dL_law_1385 ?_
      refine g_if_eq 1393 dL_law_1386 (by decide) (fun c929 => ?_) (fun c929 => ?_)
      · replace hF := q_t c929 hF
        refine g_iconst dL_law_1393 lt_iconst_0 ?_
        obtain ⟨u930, e931, hF⟩ := q_bind hF
        obtain ⟨x932, e933, hF⟩ := q_bind hF
        refine g_callVr0 (ci := 11) (q := (RX11, TX11, 8)) qm_X11_prompts wd_1386 wd_1387 wd_1388 rfl e931 (M_X11_prompts l b D z nx e933) (As := [.int x923, .int x925, .int (0 : Int32)]) rfl rfl (Nat.le_of_ble_eq_true rfl) ⟨(Nat.le_of_ble_eq_true rfl), (Nat.le_of_ble_eq_true rfl)⟩ ⟨rfl, rfl⟩ ⟨(by (try simp only [rmc_L_law, rms_L_law, rmc_X11_init, rms_X11_init, rmc_X12_init, rms_X12_init, rmc_X11_image, rms_X11_image]); omega), (by (try simp only [rmc_L_law, rms_L_law, rmc_X11_init, rms_X11_init, rmc_X12_init, rms_X12_init, rmc_X11_image, rms_X11_image]); omega)⟩ dL_law_1394 ?_
        refine g_aload_n 2 dL_law_1397 rfl ?_
        refine g_aload_n 0 dL_law_1398 rfl ?_
        refine g_iload_n 3 dL_law_1399 rfl ?_
        refine g_iconst dL_law_1400 lt_iconst_1 ?_
        refine g_iadd dL_law_1401 ?_
        obtain ⟨x934, e935, hF⟩ := q_bind hF
        refine g_iald e935 dL_law_1402 ?_
        refine g_aload_n 0 dL_law_1403 rfl ?_
        refine g_iload_n 3 dL_law_1404 rfl ?_
        refine g_iconst dL_law_1405 lt_iconst_2 ?_
        refine g_iadd dL_law_1406 ?_
        obtain ⟨x936, e937, hF⟩ := q_bind hF
        refine g_iald e937 dL_law_1407 ?_
        refine g_aload_n 0 dL_law_1408 rfl ?_
        refine g_iload_n 3 dL_law_1409 rfl ?_
        refine g_iconst dL_law_1410 lt_iconst_3 ?_
        refine g_iadd dL_law_1411 ?_
        obtain ⟨x938, e939, hF⟩ := q_bind hF
        refine g_iald e939 dL_law_1412 ?_
        refine g_if_eq 1420 dL_law_1413 (by decide) (fun c940 => ?_) (fun c940 => ?_)
        · replace hF := q_t c940 hF
          refine g_iconst dL_law_1420 lt_iconst_0 ?_
          obtain ⟨u941, e942, hF⟩ := q_bind hF
          obtain ⟨x943, e944, hF⟩ := q_bind hF
          refine g_callVr0 (ci := 12) (q := (RX12, TX12, 49)) qm_X12_prompts wd_2117 wd_2118 wd_2119 rfl e942 (M_X12_prompts l b D z nx e944) (As := [.int x934, .int x936, .int (0 : Int32)]) rfl rfl (Nat.le_of_ble_eq_true rfl) ⟨(Nat.le_of_ble_eq_true rfl), (Nat.le_of_ble_eq_true rfl)⟩ ⟨rfl, rfl⟩ ⟨(by (try simp only [rmc_L_law, rms_L_law, rmc_X11_init, rms_X11_init, rmc_X12_init, rms_X12_init, rmc_X11_image, rms_X11_image]); omega), (by (try simp only [rmc_L_law, rms_L_law, rmc_X11_init, rms_X11_init, rmc_X12_init, rms_X12_init, rmc_X11_image, rms_X11_image]); omega)⟩ dL_law_1421 ?_
          refine g_lcmp dL_law_1424 ?_
          refine g_if_eq 1575 dL_law_1425 (by decide) (fun c945 => ?_) (fun c945 => ?_)
          · replace hF := q_t c945 hF
            refine g_iinc [(3, .int (a3 + 6)), (0, .ref a0), (1, .ref a1), (2, .ref a2)] 3 dL_law_1575 rfl (congrArg (a3 + ·) lt_iconst_6) (Nat.le_of_ble_eq_true rfl) rfl ?_
            refine g_goto 18 dL_law_1578 (by decide) ?_
            cases hF
            refine g_widen (k1 := k + 73) (j1 := j + 2724) (by (try simp only [rmc_L_law, rms_L_law, rmc_X11_init, rms_X11_init, rmc_X12_init, rms_X12_init, rmc_X11_image, rms_X11_image]); omega) (by (try simp only [rmc_L_law, rms_L_law, rmc_X11_init, rms_X11_init, rmc_X12_init, rms_X12_init, rmc_X11_image, rms_X11_image]); omega) ?_
            refine g_sub [1, 2, 3, 0] rfl ?_
            exact hback _ _ _ rfl
          · replace hF := q_f c945 hF
            cases hF
            refine g_widen (k1 := k + 73) (j1 := j + 2724) (by (try simp only [rmc_L_law, rms_L_law, rmc_X11_init, rms_X11_init, rmc_X12_init, rms_X12_init, rmc_X11_image, rms_X11_image]); omega) (by (try simp only [rmc_L_law, rms_L_law, rmc_X11_init, rms_X11_init, rmc_X12_init, rms_X12_init, rmc_X11_image, rms_X11_image]); omega) ?_
            refine g_sub [] rfl ?_
            exact hx26 _ _ rfl
        · replace hF := q_f c940 hF
          refine g_iconst dL_law_1416 lt_iconst_1 ?_
          refine g_goto 1421 dL_law_1417 (by decide) ?_
          obtain ⟨u946, e947, hF⟩ := q_bind hF
          obtain ⟨x948, e949, hF⟩ := q_bind hF
          refine g_callVr0 (ci := 12) (q := (RX12, TX12, 49)) qm_X12_prompts wd_2117 wd_2118 wd_2119 rfl e947 (M_X12_prompts l b D z nx e949) (As := [.int x934, .int x936, .int (1 : Int32)]) rfl rfl (Nat.le_of_ble_eq_true rfl) ⟨(Nat.le_of_ble_eq_true rfl), (Nat.le_of_ble_eq_true rfl)⟩ ⟨rfl, rfl⟩ ⟨(by (try simp only [rmc_L_law, rms_L_law, rmc_X11_init, rms_X11_init, rmc_X12_init, rms_X12_init, rmc_X11_image, rms_X11_image]); omega), (by (try simp only [rmc_L_law, rms_L_law, rmc_X11_init, rms_X11_init, rmc_X12_init, rms_X12_init, rmc_X11_image, rms_X11_image]); omega)⟩ dL_law_1421 ?_
          refine g_lcmp dL_law_1424 ?_
          refine g_if_eq 1575 dL_law_1425 (by decide) (fun c950 => ?_) (fun c950 => ?_)
          · replace hF := q_t c950 hF
            refine g_iinc [(3, .int (a3 + 6)), (0, .ref a0), (1, .ref a1), (2, .ref a2)] 3 dL_law_1575 rfl (congrArg (a3 + ·) lt_iconst_6) (Nat.le_of_ble_eq_true rfl) rfl ?_
            refine g_goto 18 dL_law_1578 (by decide) ?_
            cases hF
            refine g_widen (k1 := k + 73) (j1 := j + 2724) (by (try simp only [rmc_L_law, rms_L_law, rmc_X11_init, rms_X11_init, rmc_X12_init, rms_X12_init, rmc_X11_image, rms_X11_image]); omega) (by (try simp only [rmc_L_law, rms_L_law, rmc_X11_init, rms_X11_init, rmc_X12_init, rms_X12_init, rmc_X11_image, rms_X11_image]); omega) ?_
            refine g_sub [1, 2, 3, 0] rfl ?_
            exact hback _ _ _ rfl
          · replace hF := q_f c950 hF
            cases hF
            refine g_widen (k1 := k + 73) (j1 := j + 2724) (by (try simp only [rmc_L_law, rms_L_law, rmc_X11_init, rms_X11_init, rmc_X12_init, rms_X12_init, rmc_X11_image, rms_X11_image]); omega) (by (try simp only [rmc_L_law, rms_L_law, rmc_X11_init, rms_X11_init, rmc_X12_init, rms_X12_init, rmc_X11_image, rms_X11_image]); omega) ?_
            refine g_sub [] rfl ?_
            exact hx26 _ _ rfl
      · replace hF := q_f c929 hF
        refine g_iconst dL_law_1389 lt_iconst_1 ?_
        refine g_goto 1394 dL_law_1390 (by decide) ?_
        obtain ⟨u951, e952, hF⟩ := q_bind hF
        obtain ⟨x953, e954, hF⟩ := q_bind hF
        refine g_callVr0 (ci := 11) (q := (RX11, TX11, 8)) qm_X11_prompts wd_1386 wd_1387 wd_1388 rfl e952 (M_X11_prompts l b D z nx e954) (As := [.int x923, .int x925, .int (1 : Int32)]) rfl rfl (Nat.le_of_ble_eq_true rfl) ⟨(Nat.le_of_ble_eq_true rfl), (Nat.le_of_ble_eq_true rfl)⟩ ⟨rfl, rfl⟩ ⟨(by (try simp only [rmc_L_law, rms_L_law, rmc_X11_init, rms_X11_init, rmc_X12_init, rms_X12_init, rmc_X11_image, rms_X11_image]); omega), (by (try simp only [rmc_L_law, rms_L_law, rmc_X11_init, rms_X11_init, rmc_X12_init, rms_X12_init, rmc_X11_image, rms_X11_image]); omega)⟩ dL_law_1394 ?_
        refine g_aload_n 2 dL_law_1397 rfl ?_
        refine g_aload_n 0 dL_law_1398 rfl ?_
        refine g_iload_n 3 dL_law_1399 rfl ?_
        refine g_iconst dL_law_1400 lt_iconst_1 ?_
        refine g_iadd dL_law_1401 ?_
        obtain ⟨x955, e956, hF⟩ := q_bind hF
        refine g_iald e956 dL_law_1402 ?_
        refine g_aload_n 0 dL_law_1403 rfl ?_
        refine g_iload_n 3 dL_law_1404 rfl ?_
        refine g_iconst dL_law_1405 lt_iconst_2 ?_
        refine g_iadd dL_law_1406 ?_
        obtain ⟨x957, e958, hF⟩ := q_bind hF
        refine g_iald e958 dL_law_1407 ?_
        refine g_aload_n 0 dL_law_1408 rfl ?_
        refine g_iload_n 3 dL_law_1409 rfl ?_
        refine g_iconst dL_law_1410 lt_iconst_3 ?_
        refine g_iadd dL_law_1411 ?_
        obtain ⟨x959, e960, hF⟩ := q_bind hF
        refine g_iald e960 dL_law_1412 ?_
        refine g_if_eq 1420 dL_law_1413 (by decide) (fun c961 => ?_) (fun c961 => ?_)
        · replace hF := q_t c961 hF
          refine g_iconst dL_law_1420 lt_iconst_0 ?_
          obtain ⟨u962, e963, hF⟩ := q_bind hF
          obtain ⟨x964, e965, hF⟩ := q_bind hF
          refine g_callVr0 (ci := 12) (q := (RX12, TX12, 49)) qm_X12_prompts wd_2117 wd_2118 wd_2119 rfl e963 (M_X12_prompts l b D z nx e965) (As := [.int x955, .int x957, .int (0 : Int32)]) rfl rfl (Nat.le_of_ble_eq_true rfl) ⟨(Nat.le_of_ble_eq_true rfl), (Nat.le_of_ble_eq_true rfl)⟩ ⟨rfl, rfl⟩ ⟨(by (try simp only [rmc_L_law, rms_L_law, rmc_X11_init, rms_X11_init, rmc_X12_init, rms_X12_init, rmc_X11_image, rms_X11_image]); omega), (by (try simp only [rmc_L_law, rms_L_law, rmc_X11_init, rms_X11_init, rmc_X12_init, rms_X12_init, rmc_X11_image, rms_X11_image]); omega)⟩ dL_law_1421 ?_
          refine g_lcmp dL_law_1424 ?_
          refine g_if_eq 1575 dL_law_1425 (by decide) (fun c966 => ?_) (fun c966 => ?_)
          · replace hF := q_t c966 hF
            refine g_iinc [(3, .int (a3 + 6)), (0, .ref a0), (1, .ref a1), (2, .ref a2)] 3 dL_law_1575 rfl (congrArg (a3 + ·) lt_iconst_6) (Nat.le_of_ble_eq_true rfl) rfl ?_
            refine g_goto 18 dL_law_1578 (by decide) ?_
            cases hF
            refine g_widen (k1 := k + 73) (j1 := j + 2724) (by (try simp only [rmc_L_law, rms_L_law, rmc_X11_init, rms_X11_init, rmc_X12_init, rms_X12_init, rmc_X11_image, rms_X11_image]); omega) (by (try simp only [rmc_L_law, rms_L_law, rmc_X11_init, rms_X11_init, rmc_X12_init, rms_X12_init, rmc_X11_image, rms_X11_image]); omega) ?_
            refine g_sub [1, 2, 3, 0] rfl ?_
            exact hback _ _ _ rfl
          · replace hF := q_f c966 hF
            cases hF
            refine g_widen (k1 := k + 73) (j1 := j + 2724) (by (try simp only [rmc_L_law, rms_L_law, rmc_X11_init, rms_X11_init, rmc_X12_init, rms_X12_init, rmc_X11_image, rms_X11_image]); omega) (by (try simp only [rmc_L_law, rms_L_law, rmc_X11_init, rms_X11_init, rmc_X12_init, rms_X12_init, rmc_X11_image, rms_X11_image]); omega) ?_
            refine g_sub [] rfl ?_
            exact hx26 _ _ rfl
        · replace hF := q_f c961 hF
          refine g_iconst dL_law_1416 lt_iconst_1 ?_
          refine g_goto 1421 dL_law_1417 (by decide) ?_
          obtain ⟨u967, e968, hF⟩ := q_bind hF
          obtain ⟨x969, e970, hF⟩ := q_bind hF
          refine g_callVr0 (ci := 12) (q := (RX12, TX12, 49)) qm_X12_prompts wd_2117 wd_2118 wd_2119 rfl e968 (M_X12_prompts l b D z nx e970) (As := [.int x955, .int x957, .int (1 : Int32)]) rfl rfl (Nat.le_of_ble_eq_true rfl) ⟨(Nat.le_of_ble_eq_true rfl), (Nat.le_of_ble_eq_true rfl)⟩ ⟨rfl, rfl⟩ ⟨(by (try simp only [rmc_L_law, rms_L_law, rmc_X11_init, rms_X11_init, rmc_X12_init, rms_X12_init, rmc_X11_image, rms_X11_image]); omega), (by (try simp only [rmc_L_law, rms_L_law, rmc_X11_init, rms_X11_init, rmc_X12_init, rms_X12_init, rmc_X11_image, rms_X11_image]); omega)⟩ dL_law_1421 ?_
          refine g_lcmp dL_law_1424 ?_
          refine g_if_eq 1575 dL_law_1425 (by decide) (fun c971 => ?_) (fun c971 => ?_)
          · replace hF := q_t c971 hF
            refine g_iinc [(3, .int (a3 + 6)), (0, .ref a0), (1, .ref a1), (2, .ref a2)] 3 dL_law_1575 rfl (congrArg (a3 + ·) lt_iconst_6) (Nat.le_of_ble_eq_true rfl) rfl ?_
            refine g_goto 18 dL_law_1578 (by decide) ?_
            cases hF
            refine g_widen (k1 := k + 73) (j1 := j + 2724) (by (try simp only [rmc_L_law, rms_L_law, rmc_X11_init, rms_X11_init, rmc_X12_init, rms_X12_init, rmc_X11_image, rms_X11_image]); omega) (by (try simp only [rmc_L_law, rms_L_law, rmc_X11_init, rms_X11_init, rmc_X12_init, rms_X12_init, rmc_X11_image, rms_X11_image]); omega) ?_
            refine g_sub [1, 2, 3, 0] rfl ?_
            exact hback _ _ _ rfl
          · replace hF := q_f c971 hF
            cases hF
            refine g_widen (k1 := k + 73) (j1 := j + 2724) (by (try simp only [rmc_L_law, rms_L_law, rmc_X11_init, rms_X11_init, rmc_X12_init, rms_X12_init, rmc_X11_image, rms_X11_image]); omega) (by (try simp only [rmc_L_law, rms_L_law, rmc_X11_init, rms_X11_init, rmc_X12_init, rms_X12_init, rmc_X11_image, rms_X11_image]); omega) ?_
            refine g_sub [] rfl ?_
            exact hx26 _ _ rfl
    replace hF := q_f c922 hF
    by_cases c972 : (x4 &&& (31 : Int32)) = 27
    · replace hF := q_t c972 hF
      refine g_tabIn (off := 1397) 1430 dL_law_33 (by rw [c972]; decide) (by rw [c972]; decide) (by rw [c972]; decide) (by decide) ?_
      refine g_aload_n 1 dL_law_1430 rfl ?_
      refine g_aload_n 0 dL_law_1431 rfl ?_
      refine g_iload_n 3 dL_law_1432 rfl ?_
      refine g_iconst dL_law_1433 lt_iconst_1 ?_
      refine g_iadd dL_law_1434 ?_
      obtain ⟨x973, e974, hF⟩ := q_bind hF
      refine g_iald e974 dL_law_1435 ?_
      refine g_aload_n 0 dL_law_1436 rfl ?_
      refine g_iload_n 3 dL_law_1437 rfl ?_
      refine g_iconst dL_law_1438 lt_iconst_2 ?_
      refine g_iadd dL_law_1439 ?_
      obtain ⟨x975, e976, hF⟩ := q_bind hF
      refine g_iald e976 dL_law_1440 ?_
      obtain ⟨u977, e978, hF⟩ := q_bind hF
      obtain ⟨x979, e980, hF⟩ := q_bind hF
      refine g_callVr0 (ci := 11) (q := (RX11, TX11, 8)) qm_X11_parted wd_1394 wd_1395 wd_1396 rfl e978 (M_X11_parted l b D z nx e980) (As := [.int x973, .int x975]) rfl rfl (Nat.le_of_ble_eq_true rfl) ⟨(Nat.le_of_ble_eq_true rfl), (Nat.le_of_ble_eq_true rfl)⟩ ⟨rfl, rfl⟩ ⟨(by (try simp only [rmc_L_law, rms_L_law, rmc_X11_init, rms_X11_init, rmc_X12_init, rms_X12_init, rmc_X11_image, rms_X11_image]); omega), (by (try simp only [rmc_L_law, rms_L_law, rmc_X11_init, rms_X11_init, rmc_X12_init, rms_X12_init, rmc_X11_image, rms_X11_image]); omega)⟩ dL_law_1441 ?_
      refine g_aload_n 2 dL_law_1444 rfl ?_
      refine g_aload_n 0 dL_law_1445 rfl ?_
      refine g_iload_n 3 dL_law_1446 rfl ?_
      refine g_iconst dL_law_1447 lt_iconst_1 ?_
      refine g_iadd dL_law_1448 ?_
      obtain ⟨x981, e982, hF⟩ := q_bind hF
      refine g_iald e982 dL_law_1449 ?_
      refine g_aload_n 0 dL_law_1450 rfl ?_
      refine g_iload_n 3 dL_law_1451 rfl ?_
      refine g_iconst dL_law_1452 lt_iconst_2 ?_
      refine g_iadd dL_law_1453 ?_
      obtain ⟨x983, e984, hF⟩ := q_bind hF
      refine g_iald e984 dL_law_1454 ?_
      obtain ⟨u985, e986, hF⟩ := q_bind hF
      obtain ⟨x987, e988, hF⟩ := q_bind hF
      refine g_callVr0 (ci := 12) (q := (RX12, TX12, 49)) qm_X12_parted wd_2121 wd_2122 wd_2123 rfl e986 (M_X12_parted l b D z nx e988) (As := [.int x981, .int x983]) rfl rfl (Nat.le_of_ble_eq_true rfl) ⟨(Nat.le_of_ble_eq_true rfl), (Nat.le_of_ble_eq_true rfl)⟩ ⟨rfl, rfl⟩ ⟨(by (try simp only [rmc_L_law, rms_L_law, rmc_X11_init, rms_X11_init, rmc_X12_init, rms_X12_init, rmc_X11_image, rms_X11_image]); omega), (by (try simp only [rmc_L_law, rms_L_law, rmc_X11_init, rms_X11_init, rmc_X12_init, rms_X12_init, rmc_X11_image, rms_X11_image]); omega)⟩ dL_law_1455 ?_
      refine g_icmp_eq 1575 dL_law_1458 (by decide) (fun c989 => ?_) (fun c989 => ?_)
      · replace hF := q_t c989 hF
        refine g_iinc [(3, .int (a3 + 6)), (0, .ref a0), (1, .ref a1), (2, .ref a2)] 3 dL_law_1575 rfl (congrArg (a3 + ·) lt_iconst_6) (Nat.le_of_ble_eq_true rfl) rfl ?_
        refine g_goto 18 dL_law_1578 (by decide) ?_
        cases hF
        refine g_widen (k1 := k + 73) (j1 := j + 2724) (by (try simp only [rmc_L_law, rms_L_law, rmc_X11_init, rms_X11_init, rmc_X12_init, rms_X12_init, rmc_X11_image, rms_X11_image]); omega) (by (try simp only [rmc_L_law, rms_L_law, rmc_X11_init, rms_X11_init, rmc_X12_init, rms_X12_init, rmc_X11_image, rms_X11_image]); omega) ?_
        refine g_sub [1, 2, 3, 0] rfl ?_
        exact hback _ _ _ rfl
      · replace hF := q_f c989 hF
        cases hF
        refine g_widen (k1 := k + 73) (j1 := j + 2724) (by (try simp only [rmc_L_law, rms_L_law, rmc_X11_init, rms_X11_init, rmc_X12_init, rms_X12_init, rmc_X11_image, rms_X11_image]); omega) (by (try simp only [rmc_L_law, rms_L_law, rmc_X11_init, rms_X11_init, rmc_X12_init, rms_X12_init, rmc_X11_image, rms_X11_image]); omega) ?_
        refine g_sub [] rfl ?_
        exact hx27 _ _ rfl
    replace hF := q_f c972 hF
    by_cases c990 : (x4 &&& (31 : Int32)) = 28
    · replace hF := q_t c990 hF
      refine g_tabIn (off := 1430) 1463 dL_law_33 (by rw [c990]; decide) (by rw [c990]; decide) (by rw [c990]; decide) (by decide) ?_
      refine g_aload_n 1 dL_law_1463 rfl ?_
      refine g_aload_n 0 dL_law_1464 rfl ?_
      refine g_iload_n 3 dL_law_1465 rfl ?_
      refine g_iconst dL_law_1466 lt_iconst_1 ?_
      refine g_iadd dL_law_1467 ?_
      obtain ⟨x991, e992, hF⟩ := q_bind hF
      refine g_iald e992 dL_law_1468 ?_
      refine g_aload_n 0 dL_law_1469 rfl ?_
      refine g_iload_n 3 dL_law_1470 rfl ?_
      refine g_iconst dL_law_1471 lt_iconst_2 ?_
      refine g_iadd dL_law_1472 ?_
      obtain ⟨x993, e994, hF⟩ := q_bind hF
      refine g_iald e994 dL_law_1473 ?_
      refine g_aload_n 0 dL_law_1474 rfl ?_
      refine g_iload_n 3 dL_law_1475 rfl ?_
      refine g_iconst dL_law_1476 lt_iconst_3 ?_
      refine g_iadd dL_law_1477 ?_
      obtain ⟨x995, e996, hF⟩ := q_bind hF
      refine g_iald e996 dL_law_1478 ?_
      obtain ⟨u997, e998, hF⟩ := q_bind hF
      obtain ⟨x999, e1000, hF⟩ := q_bind hF
      refine g_callVr0 (ci := 11) (q := (RX11, TX11, 8)) qm_X11_after wd_1402 wd_1403 wd_1404 rfl e998 (M_X11_after l b D z nx e1000) (As := [.int x991, .int x993, .int x995]) rfl rfl (Nat.le_of_ble_eq_true rfl) ⟨(Nat.le_of_ble_eq_true rfl), (Nat.le_of_ble_eq_true rfl)⟩ ⟨rfl, rfl⟩ ⟨(by (try simp only [rmc_L_law, rms_L_law, rmc_X11_init, rms_X11_init, rmc_X12_init, rms_X12_init, rmc_X11_image, rms_X11_image]); omega), (by (try simp only [rmc_L_law, rms_L_law, rmc_X11_init, rms_X11_init, rmc_X12_init, rms_X12_init, rmc_X11_image, rms_X11_image]); omega)⟩ dL_law_1479 ?_
      refine g_aload_n 2 dL_law_1482 rfl ?_
      refine g_aload_n 0 dL_law_1483 rfl ?_
      refine g_iload_n 3 dL_law_1484 rfl ?_
      refine g_iconst dL_law_1485 lt_iconst_1 ?_
      refine g_iadd dL_law_1486 ?_
      obtain ⟨x1001, e1002, hF⟩ := q_bind hF
      refine g_iald e1002 dL_law_1487 ?_
      refine g_aload_n 0 dL_law_1488 rfl ?_
      refine g_iload_n 3 dL_law_1489 rfl ?_
      refine g_iconst dL_law_1490 lt_iconst_2 ?_
      refine g_iadd dL_law_1491 ?_
      obtain ⟨x1003, e1004, hF⟩ := q_bind hF
      refine g_iald e1004 dL_law_1492 ?_
      refine g_aload_n 0 dL_law_1493 rfl ?_
      refine g_iload_n 3 dL_law_1494 rfl ?_
      refine g_iconst dL_law_1495 lt_iconst_3 ?_
      refine g_iadd dL_law_1496 ?_
      obtain ⟨x1005, e1006, hF⟩ := q_bind hF
      refine g_iald e1006 dL_law_1497 ?_
      obtain ⟨u1007, e1008, hF⟩ := q_bind hF
      obtain ⟨x1009, e1010, hF⟩ := q_bind hF
      refine g_callVr0 (ci := 12) (q := (RX12, TX12, 49)) qm_X12_after wd_2125 wd_2126 wd_2127 rfl e1008 (M_X12_after l b D z nx e1010) (As := [.int x1001, .int x1003, .int x1005]) rfl rfl (Nat.le_of_ble_eq_true rfl) ⟨(Nat.le_of_ble_eq_true rfl), (Nat.le_of_ble_eq_true rfl)⟩ ⟨rfl, rfl⟩ ⟨(by (try simp only [rmc_L_law, rms_L_law, rmc_X11_init, rms_X11_init, rmc_X12_init, rms_X12_init, rmc_X11_image, rms_X11_image]); omega), (by (try simp only [rmc_L_law, rms_L_law, rmc_X11_init, rms_X11_init, rmc_X12_init, rms_X12_init, rmc_X11_image, rms_X11_image]); omega)⟩ dL_law_1498 ?_
      refine g_icmp_eq 1575 dL_law_1501 (by decide) (fun c1011 => ?_) (fun c1011 => ?_)
      · replace hF := q_t c1011 hF
        refine g_iinc [(3, .int (a3 + 6)), (0, .ref a0), (1, .ref a1), (2, .ref a2)] 3 dL_law_1575 rfl (congrArg (a3 + ·) lt_iconst_6) (Nat.le_of_ble_eq_true rfl) rfl ?_
        refine g_goto 18 dL_law_1578 (by decide) ?_
        cases hF
        refine g_widen (k1 := k + 73) (j1 := j + 2724) (by (try simp only [rmc_L_law, rms_L_law, rmc_X11_init, rms_X11_init, rmc_X12_init, rms_X12_init, rmc_X11_image, rms_X11_image]); omega) (by (try simp only [rmc_L_law, rms_L_law, rmc_X11_init, rms_X11_init, rmc_X12_init, rms_X12_init, rmc_X11_image, rms_X11_image]); omega) ?_
        refine g_sub [1, 2, 3, 0] rfl ?_
        exact hback _ _ _ rfl
      · replace hF := q_f c1011 hF
        cases hF
        refine g_widen (k1 := k + 73) (j1 := j + 2724) (by (try simp only [rmc_L_law, rms_L_law, rmc_X11_init, rms_X11_init, rmc_X12_init, rms_X12_init, rmc_X11_image, rms_X11_image]); omega) (by (try simp only [rmc_L_law, rms_L_law, rmc_X11_init, rms_X11_init, rmc_X12_init, rms_X12_init, rmc_X11_image, rms_X11_image]); omega) ?_
        refine g_sub [] rfl ?_
        exact hx28 _ _ rfl
    replace hF := q_f c990 hF
    by_cases c1012 : (x4 &&& (31 : Int32)) = 29
    · replace hF := q_t c1012 hF
      refine g_tabIn (off := 1473) 1506 dL_law_33 (by rw [c1012]; decide) (by rw [c1012]; decide) (by rw [c1012]; decide) (by decide) ?_
      refine g_aload_n 1 dL_law_1506 rfl ?_
      refine g_aload_n 0 dL_law_1507 rfl ?_
      refine g_iload_n 3 dL_law_1508 rfl ?_
      refine g_iconst dL_law_1509 lt_iconst_1 ?_
      refine g_iadd dL_law_1510 ?_
      obtain ⟨x1013, e1014, hF⟩ := q_bind hF
      refine g_iald e1014 dL_law_1511 ?_
      obtain ⟨u1015, e1016, hF⟩ := q_bind hF
      obtain ⟨x1017, e1018, hF⟩ := q_bind hF
      refine g_callVr0 (ci := 11) (q := (RX11, TX11, 8)) qm_X11_count wd_1419 wd_1420 wd_1421 rfl e1016 (M_X11_count l b D z nx e1018) (As := [.int x1013]) rfl rfl (Nat.le_of_ble_eq_true rfl) ⟨(Nat.le_of_ble_eq_true rfl), (Nat.le_of_ble_eq_true rfl)⟩ ⟨rfl, rfl⟩ ⟨(by (try simp only [rmc_L_law, rms_L_law, rmc_X11_init, rms_X11_init, rmc_X12_init, rms_X12_init, rmc_X11_image, rms_X11_image]); omega), (by (try simp only [rmc_L_law, rms_L_law, rmc_X11_init, rms_X11_init, rmc_X12_init, rms_X12_init, rmc_X11_image, rms_X11_image]); omega)⟩ dL_law_1512 ?_
      refine g_aload_n 2 dL_law_1515 rfl ?_
      refine g_aload_n 0 dL_law_1516 rfl ?_
      refine g_iload_n 3 dL_law_1517 rfl ?_
      refine g_iconst dL_law_1518 lt_iconst_1 ?_
      refine g_iadd dL_law_1519 ?_
      obtain ⟨x1019, e1020, hF⟩ := q_bind hF
      refine g_iald e1020 dL_law_1520 ?_
      obtain ⟨u1021, e1022, hF⟩ := q_bind hF
      obtain ⟨x1023, e1024, hF⟩ := q_bind hF
      refine g_callVr0 (ci := 12) (q := (RX12, TX12, 49)) qm_X12_count wd_2133 wd_2134 wd_2135 rfl e1022 (M_X12_count l b D z nx e1024) (As := [.int x1019]) rfl rfl (Nat.le_of_ble_eq_true rfl) ⟨(Nat.le_of_ble_eq_true rfl), (Nat.le_of_ble_eq_true rfl)⟩ ⟨rfl, rfl⟩ ⟨(by (try simp only [rmc_L_law, rms_L_law, rmc_X11_init, rms_X11_init, rmc_X12_init, rms_X12_init, rmc_X11_image, rms_X11_image]); omega), (by (try simp only [rmc_L_law, rms_L_law, rmc_X11_init, rms_X11_init, rmc_X12_init, rms_X12_init, rmc_X11_image, rms_X11_image]); omega)⟩ dL_law_1521 ?_
      refine g_icmp_eq 1575 dL_law_1524 (by decide) (fun c1025 => ?_) (fun c1025 => ?_)
      · replace hF := q_t c1025 hF
        refine g_iinc [(3, .int (a3 + 6)), (0, .ref a0), (1, .ref a1), (2, .ref a2)] 3 dL_law_1575 rfl (congrArg (a3 + ·) lt_iconst_6) (Nat.le_of_ble_eq_true rfl) rfl ?_
        refine g_goto 18 dL_law_1578 (by decide) ?_
        cases hF
        refine g_widen (k1 := k + 73) (j1 := j + 2724) (by (try simp only [rmc_L_law, rms_L_law, rmc_X11_init, rms_X11_init, rmc_X12_init, rms_X12_init, rmc_X11_image, rms_X11_image]); omega) (by (try simp only [rmc_L_law, rms_L_law, rmc_X11_init, rms_X11_init, rmc_X12_init, rms_X12_init, rmc_X11_image, rms_X11_image]); omega) ?_
        refine g_sub [1, 2, 3, 0] rfl ?_
        exact hback _ _ _ rfl
      · replace hF := q_f c1025 hF
        cases hF
        refine g_widen (k1 := k + 73) (j1 := j + 2724) (by (try simp only [rmc_L_law, rms_L_law, rmc_X11_init, rms_X11_init, rmc_X12_init, rms_X12_init, rmc_X11_image, rms_X11_image]); omega) (by (try simp only [rmc_L_law, rms_L_law, rmc_X11_init, rms_X11_init, rmc_X12_init, rms_X12_init, rmc_X11_image, rms_X11_image]); omega) ?_
        refine g_sub [] rfl ?_
        exact hx29 _ _ rfl
    replace hF := q_f c1012 hF
    by_cases c1026 : (x4 &&& (31 : Int32)) = 30
    · replace hF := q_t c1026 hF
      refine g_tabIn (off := 1496) 1529 dL_law_33 (by rw [c1026]; decide) (by rw [c1026]; decide) (by rw [c1026]; decide) (by decide) ?_
      refine g_aload_n 1 dL_law_1529 rfl ?_
      refine g_aload_n 0 dL_law_1530 rfl ?_
      refine g_iload_n 3 dL_law_1531 rfl ?_
      refine g_iconst dL_law_1532 lt_iconst_1 ?_
      refine g_iadd dL_law_1533 ?_
      obtain ⟨x1027, e1028, hF⟩ := q_bind hF
      refine g_iald e1028 dL_law_1534 ?_
      obtain ⟨u1029, e1030, hF⟩ := q_bind hF
      obtain ⟨x1031, e1032, hF⟩ := q_bind hF
      refine g_callVrA (ci := 11) (q := (RX11, TX11, 8)) qm_X11_image wd_1423 wd_1424 wd_1425 rfl e1030 (M_X11_image l b D z nx e1032) (As := [.int x1027]) rfl rfl (Nat.le_of_ble_eq_true rfl) ⟨(Nat.le_of_ble_eq_true rfl), (Nat.le_of_ble_eq_true rfl)⟩ ⟨(by (try simp only [rmc_L_law, rms_L_law, rmc_X11_init, rms_X11_init, rmc_X12_init, rms_X12_init, rmc_X11_image, rms_X11_image]); omega), (by (try simp only [rmc_L_law, rms_L_law, rmc_X11_init, rms_X11_init, rmc_X12_init, rms_X12_init, rmc_X11_image, rms_X11_image]); omega)⟩ dL_law_1535 ?_
      refine g_aload_n 2 dL_law_1538 rfl ?_
      refine g_aload_n 0 dL_law_1539 rfl ?_
      refine g_iload_n 3 dL_law_1540 rfl ?_
      refine g_iconst dL_law_1541 lt_iconst_1 ?_
      refine g_iadd dL_law_1542 ?_
      obtain ⟨x1033, e1034, hF⟩ := q_bind hF
      refine g_iald e1034 dL_law_1543 ?_
      obtain ⟨u1035, e1036, hF⟩ := q_bind hF
      obtain ⟨x1037, e1038, hF⟩ := q_bind hF
      refine g_callVr0 (ci := 12) (q := (RX12, TX12, 49)) qm_X12_image wd_2137 wd_2138 wd_2139 rfl e1036 (M_X12_image l b D z x1031.2.2 e1038) (As := [.int x1033]) rfl rfl (Nat.le_of_ble_eq_true rfl) ⟨(Nat.le_of_ble_eq_true rfl), (Nat.le_of_ble_eq_true rfl)⟩ ⟨rfl, rfl⟩ ⟨(by (try simp only [rmc_L_law, rms_L_law, rmc_X11_init, rms_X11_init, rmc_X12_init, rms_X12_init, rmc_X11_image, rms_X11_image]); omega), (by (try simp only [rmc_L_law, rms_L_law, rmc_X11_init, rms_X11_init, rmc_X12_init, rms_X12_init, rmc_X11_image, rms_X11_image]); omega)⟩ dL_law_1544 ?_
      refine g_icmp_eq 1575 dL_law_1547 (by decide) (fun c1039 => ?_) (fun c1039 => ?_)
      · replace hF := q_t c1039 hF
        refine g_iinc [(3, .int (a3 + 6)), (0, .ref a0), (1, .ref a1), (2, .ref a2)] 3 dL_law_1575 rfl (congrArg (a3 + ·) lt_iconst_6) (Nat.le_of_ble_eq_true rfl) rfl ?_
        refine g_goto 18 dL_law_1578 (by decide) ?_
        cases hF
        refine g_widen (k1 := k + 73) (j1 := j + 2724) (by (try simp only [rmc_L_law, rms_L_law, rmc_X11_init, rms_X11_init, rmc_X12_init, rms_X12_init, rmc_X11_image, rms_X11_image]); omega) (by (try simp only [rmc_L_law, rms_L_law, rmc_X11_init, rms_X11_init, rmc_X12_init, rms_X12_init, rmc_X11_image, rms_X11_image]); omega) ?_
        refine g_sub [1, 2, 3, 0] rfl ?_
        exact hback _ _ _ rfl
      · replace hF := q_f c1039 hF
        cases hF
        refine g_widen (k1 := k + 73) (j1 := j + 2724) (by (try simp only [rmc_L_law, rms_L_law, rmc_X11_init, rms_X11_init, rmc_X12_init, rms_X12_init, rmc_X11_image, rms_X11_image]); omega) (by (try simp only [rmc_L_law, rms_L_law, rmc_X11_init, rms_X11_init, rmc_X12_init, rms_X12_init, rmc_X11_image, rms_X11_image]); omega) ?_
        refine g_sub [] rfl ?_
        exact hx30 _ _ rfl
    replace hF := q_f c1026 hF
    by_cases c1040 : (x4 &&& (31 : Int32)) = 31
    · replace hF := q_t c1040 hF
      refine g_tabIn (off := 1519) 1552 dL_law_33 (by rw [c1040]; decide) (by rw [c1040]; decide) (by rw [c1040]; decide) (by decide) ?_
      refine g_aload_n 1 dL_law_1552 rfl ?_
      refine g_aload_n 0 dL_law_1553 rfl ?_
      refine g_iload_n 3 dL_law_1554 rfl ?_
      refine g_iconst dL_law_1555 lt_iconst_1 ?_
      refine g_iadd dL_law_1556 ?_
      obtain ⟨x1041, e1042, hF⟩ := q_bind hF
      refine g_iald e1042 dL_law_1557 ?_
      obtain ⟨u1043, e1044, hF⟩ := q_bind hF
      obtain ⟨x1045, e1046, hF⟩ := q_bind hF
      refine g_callVr0 (ci := 11) (q := (RX11, TX11, 8)) qm_X11_again wd_1452 wd_1453 wd_1454 rfl e1044 (M_X11_again l b D z nx e1046) (As := [.int x1041]) rfl rfl (Nat.le_of_ble_eq_true rfl) ⟨(Nat.le_of_ble_eq_true rfl), (Nat.le_of_ble_eq_true rfl)⟩ ⟨rfl, rfl⟩ ⟨(by (try simp only [rmc_L_law, rms_L_law, rmc_X11_init, rms_X11_init, rmc_X12_init, rms_X12_init, rmc_X11_image, rms_X11_image]); omega), (by (try simp only [rmc_L_law, rms_L_law, rmc_X11_init, rms_X11_init, rmc_X12_init, rms_X12_init, rmc_X11_image, rms_X11_image]); omega)⟩ dL_law_1558 ?_
      refine g_aload_n 2 dL_law_1561 rfl ?_
      refine g_aload_n 0 dL_law_1562 rfl ?_
      refine g_iload_n 3 dL_law_1563 rfl ?_
      refine g_iconst dL_law_1564 lt_iconst_1 ?_
      refine g_iadd dL_law_1565 ?_
      obtain ⟨x1047, e1048, hF⟩ := q_bind hF
      refine g_iald e1048 dL_law_1566 ?_
      obtain ⟨u1049, e1050, hF⟩ := q_bind hF
      obtain ⟨x1051, e1052, hF⟩ := q_bind hF
      refine g_callVr0 (ci := 12) (q := (RX12, TX12, 49)) qm_X12_again wd_2148 wd_2149 wd_2150 rfl e1050 (M_X12_again l b D z nx e1052) (As := [.int x1047]) rfl rfl (Nat.le_of_ble_eq_true rfl) ⟨(Nat.le_of_ble_eq_true rfl), (Nat.le_of_ble_eq_true rfl)⟩ ⟨rfl, rfl⟩ ⟨(by (try simp only [rmc_L_law, rms_L_law, rmc_X11_init, rms_X11_init, rmc_X12_init, rms_X12_init, rmc_X11_image, rms_X11_image]); omega), (by (try simp only [rmc_L_law, rms_L_law, rmc_X11_init, rms_X11_init, rmc_X12_init, rms_X12_init, rmc_X11_image, rms_X11_image]); omega)⟩ dL_law_1567 ?_
      refine g_icmp_eq 1575 dL_law_1570 (by decide) (fun c1053 => ?_) (fun c1053 => ?_)
      · replace hF := q_t c1053 hF
        refine g_iinc [(3, .int (a3 + 6)), (0, .ref a0), (1, .ref a1), (2, .ref a2)] 3 dL_law_1575 rfl (congrArg (a3 + ·) lt_iconst_6) (Nat.le_of_ble_eq_true rfl) rfl ?_
        refine g_goto 18 dL_law_1578 (by decide) ?_
        cases hF
        refine g_widen (k1 := k + 73) (j1 := j + 2724) (by (try simp only [rmc_L_law, rms_L_law, rmc_X11_init, rms_X11_init, rmc_X12_init, rms_X12_init, rmc_X11_image, rms_X11_image]); omega) (by (try simp only [rmc_L_law, rms_L_law, rmc_X11_init, rms_X11_init, rmc_X12_init, rms_X12_init, rmc_X11_image, rms_X11_image]); omega) ?_
        refine g_sub [1, 2, 3, 0] rfl ?_
        exact hback _ _ _ rfl
      · replace hF := q_f c1053 hF
        cases hF
        refine g_widen (k1 := k + 73) (j1 := j + 2724) (by (try simp only [rmc_L_law, rms_L_law, rmc_X11_init, rms_X11_init, rmc_X12_init, rms_X12_init, rmc_X11_image, rms_X11_image]); omega) (by (try simp only [rmc_L_law, rms_L_law, rmc_X11_init, rms_X11_init, rmc_X12_init, rms_X12_init, rmc_X11_image, rms_X11_image]); omega) ?_
        refine g_sub [] rfl ?_
        exact hx31 _ _ rfl
    replace hF := q_f c1040 hF
    refine g_tabOut 1575 dL_law_33 ?_ (by decide) ?_
    · have t0 := lv_neT (a := 0) c6 (by decide); have t1 := lv_neT (a := 1) c36 (by decide); have t2 := lv_neT (a := 2) c50 (by decide); have t3 := lv_neT (a := 3) c68 (by decide); have t4 := lv_neT (a := 4) c82 (by decide); have t5 := lv_neT (a := 5) c100 (by decide); have t6 := lv_neT (a := 6) c122 (by decide); have t7 := lv_neT (a := 7) c144 (by decide); have t8 := lv_neT (a := 8) c162 (by decide); have t9 := lv_neT (a := 9) c188 (by decide); have t10 := lv_neT (a := 10) c214 (by decide); have t11 := lv_neT (a := 11) c236 (by decide); have t12 := lv_neT (a := 12) c258 (by decide); have t13 := lv_neT (a := 13) c430 (by decide); have t14 := lv_neT (a := 14) c592 (by decide); have t15 := lv_neT (a := 15) c636 (by decide); have t16 := lv_neT (a := 16) c662 (by decide); have t17 := lv_neT (a := 17) c680 (by decide); have t18 := lv_neT (a := 18) c702 (by decide); have t19 := lv_neT (a := 19) c720 (by decide); have t20 := lv_neT (a := 20) c746 (by decide); have t21 := lv_neT (a := 21) c764 (by decide); have t22 := lv_neT (a := 22) c782 (by decide); have t23 := lv_neT (a := 23) c800 (by decide); have t24 := lv_neT (a := 24) c856 (by decide); have t25 := lv_neT (a := 25) c900 (by decide); have t26 := lv_neT (a := 26) c922 (by decide); have t27 := lv_neT (a := 27) c972 (by decide); have t28 := lv_neT (a := 28) c990 (by decide); have t29 := lv_neT (a := 29) c1012 (by decide); have t30 := lv_neT (a := 30) c1026 (by decide); have t31 := lv_neT (a := 31) c1040 (by decide); omega
    refine g_iinc [(3, .int (a3 + 6)), (0, .ref a0), (1, .ref a1), (2, .ref a2)] 3 dL_law_1575 rfl (congrArg (a3 + ·) lt_iconst_6) (Nat.le_of_ble_eq_true rfl) rfl ?_
    refine g_goto 18 dL_law_1578 (by decide) ?_
    cases hF
    refine g_widen (k1 := k + 73) (j1 := j + 2724) (by (try simp only [rmc_L_law, rms_L_law, rmc_X11_init, rms_X11_init, rmc_X12_init, rms_X12_init, rmc_X11_image, rms_X11_image]); omega) (by (try simp only [rmc_L_law, rms_L_law, rmc_X11_init, rms_X11_init, rmc_X12_init, rms_X12_init, rmc_X11_image, rms_X11_image]); omega) ?_
    refine g_sub [1, 2, 3, 0] rfl ?_
    exact hback _ _ _ rfl
set_option maxRecDepth 100000 in
set_option maxHeartbeats 4000000 in
theorem L_L_law_18 (l : Launch) (b : Nat) (D : va_G) (z : Nat → Nat) {Φ : Option Value → qH → Nat → Prop} {a0 : Nat} {a1 : Nat} {a2 : Nat} : ∀ (n k j KE JE : Nat) (a3 : Int32) (h : qH) (nx : Nat) (e : ((qH × Nat) ⊕ ((qH × Nat) ⊕ ((qH × Nat) ⊕ ((qH × Nat) ⊕ ((qH × Nat) ⊕ ((qH × Nat) ⊕ ((qH × Nat) ⊕ ((qH × Nat) ⊕ ((qH × Nat) ⊕ ((qH × Nat) ⊕ ((qH × Nat) ⊕ ((qH × Nat) ⊕ ((qH × Nat) ⊕ ((qH × Nat) ⊕ ((qH × Nat) ⊕ ((qH × Nat) ⊕ ((qH × Nat) ⊕ ((qH × Nat) ⊕ ((qH × Nat) ⊕ ((qH × Nat) ⊕ ((qH × Nat) ⊕ ((qH × Nat) ⊕ ((qH × Nat) ⊕ ((qH × Nat) ⊕ ((qH × Nat) ⊕ ((qH × Nat) ⊕ ((qH × Nat) ⊕ ((qH × Nat) ⊕ ((qH × Nat) ⊕ ((qH × Nat) ⊕ ((qH × Nat) ⊕ ((qH × Nat) ⊕ (qH × Nat)))))))))))))))))))))))))))))))))), q_lp (s_L_law_18 z a0 a1 a2) n (a3, h, nx) = some e → k + n * 73 ≤ KE → j + n * 2724 ≤ JE → KE ≤ 600000 → JE ≤ 7302250 → (∀  (bh : qH) (bn : Nat), e = (.inl (bh, bn)) → Go l b D z yL_law cL_law 4 (some .boolean) rm_L_law Φ 237 [] [] bh bn KE JE) → (∀  (bh : qH) (bn : Nat), e = (.inr (.inl (bh, bn))) → Go l b D z yL_law cL_law 4 (some .boolean) rm_L_law Φ 260 [] [] bh bn KE JE) → (∀  (bh : qH) (bn : Nat), e = (.inr (.inr (.inl (bh, bn)))) → Go l b D z yL_law cL_law 4 (some .boolean) rm_L_law Φ 293 [] [] bh bn KE JE) → (∀  (bh : qH) (bn : Nat), e = (.inr (.inr (.inr (.inl (bh, bn))))) → Go l b D z yL_law cL_law 4 (some .boolean) rm_L_law Φ 316 [] [] bh bn KE JE) → (∀  (bh : qH) (bn : Nat), e = (.inr (.inr (.inr (.inr (.inl (bh, bn)))))) → Go l b D z yL_law cL_law 4 (some .boolean) rm_L_law Φ 349 [] [] bh bn KE JE) → (∀  (bh : qH) (bn : Nat), e = (.inr (.inr (.inr (.inr (.inr (.inl (bh, bn))))))) → Go l b D z yL_law cL_law 4 (some .boolean) rm_L_law Φ 392 [] [] bh bn KE JE) → (∀  (bh : qH) (bn : Nat), e = (.inr (.inr (.inr (.inr (.inr (.inr (.inl (bh, bn)))))))) → Go l b D z yL_law cL_law 4 (some .boolean) rm_L_law Φ 435 [] [] bh bn KE JE) → (∀  (bh : qH) (bn : Nat), e = (.inr (.inr (.inr (.inr (.inr (.inr (.inr (.inl (bh, bn))))))))) → Go l b D z yL_law cL_law 4 (some .boolean) rm_L_law Φ 468 [] [] bh bn KE JE) → (∀  (bh : qH) (bn : Nat), e = (.inr (.inr (.inr (.inr (.inr (.inr (.inr (.inr (.inl (bh, bn)))))))))) → Go l b D z yL_law cL_law 4 (some .boolean) rm_L_law Φ 521 [] [] bh bn KE JE) → (∀  (bh : qH) (bn : Nat), e = (.inr (.inr (.inr (.inr (.inr (.inr (.inr (.inr (.inr (.inl (bh, bn))))))))))) → Go l b D z yL_law cL_law 4 (some .boolean) rm_L_law Φ 574 [] [] bh bn KE JE) → (∀  (bh : qH) (bn : Nat), e = (.inr (.inr (.inr (.inr (.inr (.inr (.inr (.inr (.inr (.inr (.inl (bh, bn)))))))))))) → Go l b D z yL_law cL_law 4 (some .boolean) rm_L_law Φ 617 [] [] bh bn KE JE) → (∀  (bh : qH) (bn : Nat), e = (.inr (.inr (.inr (.inr (.inr (.inr (.inr (.inr (.inr (.inr (.inr (.inl (bh, bn))))))))))))) → Go l b D z yL_law cL_law 4 (some .boolean) rm_L_law Φ 660 [] [] bh bn KE JE) → (∀  (bh : qH) (bn : Nat), e = (.inr (.inr (.inr (.inr (.inr (.inr (.inr (.inr (.inr (.inr (.inr (.inr (.inl (bh, bn)))))))))))))) → Go l b D z yL_law cL_law 4 (some .boolean) rm_L_law Φ 756 [] [] bh bn KE JE) → (∀  (bh : qH) (bn : Nat), e = (.inr (.inr (.inr (.inr (.inr (.inr (.inr (.inr (.inr (.inr (.inr (.inr (.inr (.inl (bh, bn))))))))))))))) → Go l b D z yL_law cL_law 4 (some .boolean) rm_L_law Φ 842 [] [] bh bn KE JE) → (∀  (bh : qH) (bn : Nat), e = (.inr (.inr (.inr (.inr (.inr (.inr (.inr (.inr (.inr (.inr (.inr (.inr (.inr (.inr (.inl (bh, bn)))))))))))))))) → Go l b D z yL_law cL_law 4 (some .boolean) rm_L_law Φ 891 [] [] bh bn KE JE) → (∀  (bh : qH) (bn : Nat), e = (.inr (.inr (.inr (.inr (.inr (.inr (.inr (.inr (.inr (.inr (.inr (.inr (.inr (.inr (.inr (.inl (bh, bn))))))))))))))))) → Go l b D z yL_law cL_law 4 (some .boolean) rm_L_law Φ 944 [] [] bh bn KE JE) → (∀  (bh : qH) (bn : Nat), e = (.inr (.inr (.inr (.inr (.inr (.inr (.inr (.inr (.inr (.inr (.inr (.inr (.inr (.inr (.inr (.inr (.inl (bh, bn)))))))))))))))))) → Go l b D z yL_law cL_law 4 (some .boolean) rm_L_law Φ 977 [] [] bh bn KE JE) → (∀  (bh : qH) (bn : Nat), e = (.inr (.inr (.inr (.inr (.inr (.inr (.inr (.inr (.inr (.inr (.inr (.inr (.inr (.inr (.inr (.inr (.inr (.inl (bh, bn))))))))))))))))))) → Go l b D z yL_law cL_law 4 (some .boolean) rm_L_law Φ 1021 [] [] bh bn KE JE) → (∀  (bh : qH) (bn : Nat), e = (.inr (.inr (.inr (.inr (.inr (.inr (.inr (.inr (.inr (.inr (.inr (.inr (.inr (.inr (.inr (.inr (.inr (.inr (.inl (bh, bn)))))))))))))))))))) → Go l b D z yL_law cL_law 4 (some .boolean) rm_L_law Φ 1054 [] [] bh bn KE JE) → (∀  (bh : qH) (bn : Nat), e = (.inr (.inr (.inr (.inr (.inr (.inr (.inr (.inr (.inr (.inr (.inr (.inr (.inr (.inr (.inr (.inr (.inr (.inr (.inr (.inl (bh, bn))))))))))))))))))))) → Go l b D z yL_law cL_law 4 (some .boolean) rm_L_law Φ 1107 [] [] bh bn KE JE) → (∀  (bh : qH) (bn : Nat), e = (.inr (.inr (.inr (.inr (.inr (.inr (.inr (.inr (.inr (.inr (.inr (.inr (.inr (.inr (.inr (.inr (.inr (.inr (.inr (.inr (.inl (bh, bn)))))))))))))))))))))) → Go l b D z yL_law cL_law 4 (some .boolean) rm_L_law Φ 1140 [] [] bh bn KE JE) → (∀  (bh : qH) (bn : Nat), e = (.inr (.inr (.inr (.inr (.inr (.inr (.inr (.inr (.inr (.inr (.inr (.inr (.inr (.inr (.inr (.inr (.inr (.inr (.inr (.inr (.inr (.inl (bh, bn))))))))))))))))))))))) → Go l b D z yL_law cL_law 4 (some .boolean) rm_L_law Φ 1173 [] [] bh bn KE JE) → (∀  (bh : qH) (bn : Nat), e = (.inr (.inr (.inr (.inr (.inr (.inr (.inr (.inr (.inr (.inr (.inr (.inr (.inr (.inr (.inr (.inr (.inr (.inr (.inr (.inr (.inr (.inr (.inl (bh, bn)))))))))))))))))))))))) → Go l b D z yL_law cL_law 4 (some .boolean) rm_L_law Φ 1207 [] [] bh bn KE JE) → (∀  (bh : qH) (bn : Nat), e = (.inr (.inr (.inr (.inr (.inr (.inr (.inr (.inr (.inr (.inr (.inr (.inr (.inr (.inr (.inr (.inr (.inr (.inr (.inr (.inr (.inr (.inr (.inr (.inl (bh, bn))))))))))))))))))))))))) → Go l b D z yL_law cL_law 4 (some .boolean) rm_L_law Φ 1276 [] [] bh bn KE JE) → (∀  (bh : qH) (bn : Nat), e = (.inr (.inr (.inr (.inr (.inr (.inr (.inr (.inr (.inr (.inr (.inr (.inr (.inr (.inr (.inr (.inr (.inr (.inr (.inr (.inr (.inr (.inr (.inr (.inr (.inl (bh, bn)))))))))))))))))))))))))) → Go l b D z yL_law cL_law 4 (some .boolean) rm_L_law Φ 1325 [] [] bh bn KE JE) → (∀  (bh : qH) (bn : Nat), e = (.inr (.inr (.inr (.inr (.inr (.inr (.inr (.inr (.inr (.inr (.inr (.inr (.inr (.inr (.inr (.inr (.inr (.inr (.inr (.inr (.inr (.inr (.inr (.inr (.inr (.inl (bh, bn))))))))))))))))))))))))))) → Go l b D z yL_law cL_law 4 (some .boolean) rm_L_law Φ 1368 [] [] bh bn KE JE) → (∀  (bh : qH) (bn : Nat), e = (.inr (.inr (.inr (.inr (.inr (.inr (.inr (.inr (.inr (.inr (.inr (.inr (.inr (.inr (.inr (.inr (.inr (.inr (.inr (.inr (.inr (.inr (.inr (.inr (.inr (.inr (.inl (bh, bn)))))))))))))))))))))))))))) → Go l b D z yL_law cL_law 4 (some .boolean) rm_L_law Φ 1428 [] [] bh bn KE JE) → (∀  (bh : qH) (bn : Nat), e = (.inr (.inr (.inr (.inr (.inr (.inr (.inr (.inr (.inr (.inr (.inr (.inr (.inr (.inr (.inr (.inr (.inr (.inr (.inr (.inr (.inr (.inr (.inr (.inr (.inr (.inr (.inr (.inl (bh, bn))))))))))))))))))))))))))))) → Go l b D z yL_law cL_law 4 (some .boolean) rm_L_law Φ 1461 [] [] bh bn KE JE) → (∀  (bh : qH) (bn : Nat), e = (.inr (.inr (.inr (.inr (.inr (.inr (.inr (.inr (.inr (.inr (.inr (.inr (.inr (.inr (.inr (.inr (.inr (.inr (.inr (.inr (.inr (.inr (.inr (.inr (.inr (.inr (.inr (.inr (.inl (bh, bn)))))))))))))))))))))))))))))) → Go l b D z yL_law cL_law 4 (some .boolean) rm_L_law Φ 1504 [] [] bh bn KE JE) → (∀  (bh : qH) (bn : Nat), e = (.inr (.inr (.inr (.inr (.inr (.inr (.inr (.inr (.inr (.inr (.inr (.inr (.inr (.inr (.inr (.inr (.inr (.inr (.inr (.inr (.inr (.inr (.inr (.inr (.inr (.inr (.inr (.inr (.inr (.inl (bh, bn))))))))))))))))))))))))))))))) → Go l b D z yL_law cL_law 4 (some .boolean) rm_L_law Φ 1527 [] [] bh bn KE JE) → (∀  (bh : qH) (bn : Nat), e = (.inr (.inr (.inr (.inr (.inr (.inr (.inr (.inr (.inr (.inr (.inr (.inr (.inr (.inr (.inr (.inr (.inr (.inr (.inr (.inr (.inr (.inr (.inr (.inr (.inr (.inr (.inr (.inr (.inr (.inr (.inl (bh, bn)))))))))))))))))))))))))))))))) → Go l b D z yL_law cL_law 4 (some .boolean) rm_L_law Φ 1550 [] [] bh bn KE JE) → (∀  (bh : qH) (bn : Nat), e = (.inr (.inr (.inr (.inr (.inr (.inr (.inr (.inr (.inr (.inr (.inr (.inr (.inr (.inr (.inr (.inr (.inr (.inr (.inr (.inr (.inr (.inr (.inr (.inr (.inr (.inr (.inr (.inr (.inr (.inr (.inr (.inl (bh, bn))))))))))))))))))))))))))))))))) → Go l b D z yL_law cL_law 4 (some .boolean) rm_L_law Φ 1573 [] [] bh bn KE JE) → (∀  (bh : qH) (bn : Nat), e = (.inr (.inr (.inr (.inr (.inr (.inr (.inr (.inr (.inr (.inr (.inr (.inr (.inr (.inr (.inr (.inr (.inr (.inr (.inr (.inr (.inr (.inr (.inr (.inr (.inr (.inr (.inr (.inr (.inr (.inr (.inr (.inr (bh, bn))))))))))))))))))))))))))))))))) → Go l b D z yL_law cL_law 4 (some .boolean) rm_L_law Φ 1581 [] [] bh bn KE JE) → Go l b D z yL_law cL_law 4 (some .boolean) rm_L_law Φ 18 [(0, .ref a0), (1, .ref a1), (2, .ref a2), (3, .int a3)] [] h nx k j := by
  intro n
  induction n with
  | zero => intro k j KE JE a3 h nx e he; cases (show none = some e from he)
  | succ n ih =>
    intro k j KE JE a3 h nx e he q1 q2 q3 q4 hx0 hx1 hx2 hx3 hx4 hx5 hx6 hx7 hx8 hx9 hx10 hx11 hx12 hx13 hx14 hx15 hx16 hx17 hx18 hx19 hx20 hx21 hx22 hx23 hx24 hx25 hx26 hx27 hx28 hx29 hx30 hx31 hx32
    obtain ⟨o, ho, h1, h2⟩ := q_lp_succ he
    have hm1 : (n + 1) * 73 = n * 73 + 73 := Nat.succ_mul n 73
    have hm2 : (n + 1) * 2724 = n * 2724 + 2724 := Nat.succ_mul n 2724
    exact B_L_law_18 l b D z k j (show b_L_law_18 z a0 a1 a2 a3 h nx = some o from ho) (by omega) (by omega) (fun b3 bh bn hb => ih _ _ KE JE _ _ _ e (h1 _ hb) (by omega) (by omega) q3 q4 hx0 hx1 hx2 hx3 hx4 hx5 hx6 hx7 hx8 hx9 hx10 hx11 hx12 hx13 hx14 hx15 hx16 hx17 hx18 hx19 hx20 hx21 hx22 hx23 hx24 hx25 hx26 hx27 hx28 hx29 hx30 hx31 hx32) (fun p0 p1 hr => g_widen (by omega) (by omega) (hx0 p0 p1 (h2 _ hr).symm)) (fun p0 p1 hr => g_widen (by omega) (by omega) (hx1 p0 p1 (h2 _ hr).symm)) (fun p0 p1 hr => g_widen (by omega) (by omega) (hx2 p0 p1 (h2 _ hr).symm)) (fun p0 p1 hr => g_widen (by omega) (by omega) (hx3 p0 p1 (h2 _ hr).symm)) (fun p0 p1 hr => g_widen (by omega) (by omega) (hx4 p0 p1 (h2 _ hr).symm)) (fun p0 p1 hr => g_widen (by omega) (by omega) (hx5 p0 p1 (h2 _ hr).symm)) (fun p0 p1 hr => g_widen (by omega) (by omega) (hx6 p0 p1 (h2 _ hr).symm)) (fun p0 p1 hr => g_widen (by omega) (by omega) (hx7 p0 p1 (h2 _ hr).symm)) (fun p0 p1 hr => g_widen (by omega) (by omega) (hx8 p0 p1 (h2 _ hr).symm)) (fun p0 p1 hr => g_widen (by omega) (by omega) (hx9 p0 p1 (h2 _ hr).symm)) (fun p0 p1 hr => g_widen (by omega) (by omega) (hx10 p0 p1 (h2 _ hr).symm)) (fun p0 p1 hr => g_widen (by omega) (by omega) (hx11 p0 p1 (h2 _ hr).symm)) (fun p0 p1 hr => g_widen (by omega) (by omega) (hx12 p0 p1 (h2 _ hr).symm)) (fun p0 p1 hr => g_widen (by omega) (by omega) (hx13 p0 p1 (h2 _ hr).symm)) (fun p0 p1 hr => g_widen (by omega) (by omega) (hx14 p0 p1 (h2 _ hr).symm)) (fun p0 p1 hr => g_widen (by omega) (by omega) (hx15 p0 p1 (h2 _ hr).symm)) (fun p0 p1 hr => g_widen (by omega) (by omega) (hx16 p0 p1 (h2 _ hr).symm)) (fun p0 p1 hr => g_widen (by omega) (by omega) (hx17 p0 p1 (h2 _ hr).symm)) (fun p0 p1 hr => g_widen (by omega) (by omega) (hx18 p0 p1 (h2 _ hr).symm)) (fun p0 p1 hr => g_widen (by omega) (by omega) (hx19 p0 p1 (h2 _ hr).symm)) (fun p0 p1 hr => g_widen (by omega) (by omega) (hx20 p0 p1 (h2 _ hr).symm)) (fun p0 p1 hr => g_widen (by omega) (by omega) (hx21 p0 p1 (h2 _ hr).symm)) (fun p0 p1 hr => g_widen (by omega) (by omega) (hx22 p0 p1 (h2 _ hr).symm)) (fun p0 p1 hr => g_widen (by omega) (by omega) (hx23 p0 p1 (h2 _ hr).symm)) (fun p0 p1 hr => g_widen (by omega) (by omega) (hx24 p0 p1 (h2 _ hr).symm)) (fun p0 p1 hr => g_widen (by omega) (by omega) (hx25 p0 p1 (h2 _ hr).symm)) (fun p0 p1 hr => g_widen (by omega) (by omega) (hx26 p0 p1 (h2 _ hr).symm)) (fun p0 p1 hr => g_widen (by omega) (by omega) (hx27 p0 p1 (h2 _ hr).symm)) (fun p0 p1 hr => g_widen (by omega) (by omega) (hx28 p0 p1 (h2 _ hr).symm)) (fun p0 p1 hr => g_widen (by omega) (by omega) (hx29 p0 p1 (h2 _ hr).symm)) (fun p0 p1 hr => g_widen (by omega) (by omega) (hx30 p0 p1 (h2 _ hr).symm)) (fun p0 p1 hr => g_widen (by omega) (by omega) (hx31 p0 p1 (h2 _ hr).symm)) (fun p0 p1 hr => g_widen (by omega) (by omega) (hx32 p0 p1 (h2 _ hr).symm))
set_option maxRecDepth 100000 in
set_option maxHeartbeats 4000000 in
theorem M_L_law (l : Launch) (b : Nat) (D : va_G) (z : Nat → Nat) (nx : Nat) {h : qH} {a0 : Nat} {r : Int32 × qH × Nat} (hF : F_L_law z h nx a0 = some r) : Go l b D z yL_law cL_law 4 (some .boolean) rm_L_law (qE (some (.int r.1)) r.2.1 r.2.2) 0 [(0, .ref a0)] [] h nx 0 0 := by
  unfold F_L_law at hF
  refine g_new (ci := 11) (q := (RX11, TX11, 8)) rfl tyX11 tyX11_ok (fs := df_X11) df_X11_ok wd_184 wd_185 wd_164 (Nat.le_of_ble_eq_true rfl) (Nat.le_of_ble_eq_true rfl) dL_law_0 ?_
  refine g_dup dL_law_3 rfl ?_
  obtain ⟨x1, e2, hF⟩ := q_bind hF
  refine g_callIvA qm_X11_init wd_186 wd_187 rfl (M_X11_init l b D z (nx + 1) e2) (As := []) rfl rfl (Nat.le_of_ble_eq_true rfl) ⟨(Nat.le_of_ble_eq_true rfl), (Nat.le_of_ble_eq_true rfl)⟩ ⟨(Nat.le_of_ble_eq_true rfl), (Nat.le_of_ble_eq_true rfl)⟩ dL_law_4 ?_
  refine g_astore_n [(1, .ref nx), (0, .ref a0)] dL_law_7 (Nat.le_of_ble_eq_true rfl) rfl ?_
  refine g_new (ci := 12) (q := (RX12, TX12, 49)) rfl tyX12 tyX12_ok (fs := df_X12) df_X12_ok wd_1456 wd_1457 wd_176 (Nat.le_of_ble_eq_true rfl) (Nat.le_of_ble_eq_true rfl) dL_law_8 ?_
  refine g_dup dL_law_11 rfl ?_
  obtain ⟨x3, e4, hF⟩ := q_bind hF
  refine g_callIvA qm_X12_init wd_1458 wd_1459 rfl (M_X12_init l b D z (x1.2 + 1) e4) (As := []) rfl rfl (Nat.le_of_ble_eq_true rfl) ⟨(Nat.le_of_ble_eq_true rfl), (Nat.le_of_ble_eq_true rfl)⟩ ⟨(Nat.le_of_ble_eq_true rfl), (Nat.le_of_ble_eq_true rfl)⟩ dL_law_12 ?_
  refine g_astore_n [(2, .ref x1.2), (1, .ref nx), (0, .ref a0)] dL_law_15 (Nat.le_of_ble_eq_true rfl) rfl ?_
  refine g_iconst dL_law_16 lt_iconst_0 ?_
  refine g_istore_n [(3, .int (0 : Int32)), (2, .ref x1.2), (1, .ref nx), (0, .ref a0)] dL_law_17 (Nat.le_of_ble_eq_true rfl) rfl ?_
  obtain ⟨e5, w6, hF⟩ := q_bind hF
  refine g_sub [3, 2, 1, 0] rfl ?_
  refine L_L_law_18 l b D z 600 (129) (16932) 43929 1651332 (0 : Int32) x3.1 x3.2 e5 w6 (by decide) (by decide) (by decide) (by decide) ?_ ?_ ?_ ?_ ?_ ?_ ?_ ?_ ?_ ?_ ?_ ?_ ?_ ?_ ?_ ?_ ?_ ?_ ?_ ?_ ?_ ?_ ?_ ?_ ?_ ?_ ?_ ?_ ?_ ?_ ?_ ?_ ?_
  · intro h7 n8 w9
    replace w9 := w9.symm
    subst w9
    replace hF := q_sl hF
    dsimp only at hF
    refine g_iconst dL_law_237 lt_iconst_0 ?_
    cases hF
    exact g_zret dL_law_238 rfl zn_0 ⟨rfl, rfl, rfl⟩ (Nat.le_of_ble_eq_true rfl) (Nat.le_of_ble_eq_true rfl)
  · intro h11 n12 w13
    replace w13 := w13.symm
    subst w13
    replace hF := q_sr hF
    replace hF := q_sl hF
    dsimp only at hF
    refine g_iconst dL_law_260 lt_iconst_0 ?_
    cases hF
    exact g_zret dL_law_261 rfl zn_0 ⟨rfl, rfl, rfl⟩ (Nat.le_of_ble_eq_true rfl) (Nat.le_of_ble_eq_true rfl)
  · intro h15 n16 w17
    replace w17 := w17.symm
    subst w17
    replace hF := q_sr hF
    replace hF := q_sr hF
    replace hF := q_sl hF
    dsimp only at hF
    refine g_iconst dL_law_293 lt_iconst_0 ?_
    cases hF
    exact g_zret dL_law_294 rfl zn_0 ⟨rfl, rfl, rfl⟩ (Nat.le_of_ble_eq_true rfl) (Nat.le_of_ble_eq_true rfl)
  · intro h19 n20 w21
    replace w21 := w21.symm
    subst w21
    replace hF := q_sr hF
    replace hF := q_sr hF
    replace hF := q_sr hF
    replace hF := q_sl hF
    dsimp only at hF
    refine g_iconst dL_law_316 lt_iconst_0 ?_
    cases hF
    exact g_zret dL_law_317 rfl zn_0 ⟨rfl, rfl, rfl⟩ (Nat.le_of_ble_eq_true rfl) (Nat.le_of_ble_eq_true rfl)
  · intro h23 n24 w25
    replace w25 := w25.symm
    subst w25
    replace hF := q_sr hF
    replace hF := q_sr hF
    replace hF := q_sr hF
    replace hF := q_sr hF
    replace hF := q_sl hF
    dsimp only at hF
    refine g_iconst dL_law_349 lt_iconst_0 ?_
    cases hF
    exact g_zret dL_law_350 rfl zn_0 ⟨rfl, rfl, rfl⟩ (Nat.le_of_ble_eq_true rfl) (Nat.le_of_ble_eq_true rfl)
  · intro h27 n28 w29
    replace w29 := w29.symm
    subst w29
    replace hF := q_sr hF
    replace hF := q_sr hF
    replace hF := q_sr hF
    replace hF := q_sr hF
    replace hF := q_sr hF
    replace hF := q_sl hF
    dsimp only at hF
    refine g_iconst dL_law_392 lt_iconst_0 ?_
    cases hF
    exact g_zret dL_law_393 rfl zn_0 ⟨rfl, rfl, rfl⟩ (Nat.le_of_ble_eq_true rfl) (Nat.le_of_ble_eq_true rfl)
  · intro h31 n32 w33
    replace w33 := w33.symm
    subst w33
    replace hF := q_sr hF
    replace hF := q_sr hF
    replace hF := q_sr hF
    replace hF := q_sr hF
    replace hF := q_sr hF
    replace hF := q_sr hF
    replace hF := q_sl hF
    dsimp only at hF
    refine g_iconst dL_law_435 lt_iconst_0 ?_
    cases hF
    exact g_zret dL_law_436 rfl zn_0 ⟨rfl, rfl, rfl⟩ (Nat.le_of_ble_eq_true rfl) (Nat.le_of_ble_eq_true rfl)
  · intro h35 n36 w37
    replace w37 := w37.symm
    subst w37
    replace hF := q_sr hF
    replace hF := q_sr hF
    replace hF := q_sr hF
    replace hF := q_sr hF
    replace hF := q_sr hF
    replace hF := q_sr hF
    replace hF := q_sr hF
    replace hF := q_sl hF
    dsimp only at hF
    refine g_iconst dL_law_468 lt_iconst_0 ?_
    cases hF
    exact g_zret dL_law_469 rfl zn_0 ⟨rfl, rfl, rfl⟩ (Nat.le_of_ble_eq_true rfl) (Nat.le_of_ble_eq_true rfl)
  · intro h39 n40 w41
    replace w41 := w41.symm
    subst w41
    replace hF := q_sr hF
    replace hF := q_sr hF
    replace hF := q_sr hF
    replace hF := q_sr hF
    replace hF := q_sr hF
    replace hF := q_sr hF
    replace hF := q_sr hF
    replace hF := q_sr hF
    replace hF := q_sl hF
    dsimp only at hF
    refine g_iconst dL_law_521 lt_iconst_0 ?_
    cases hF
    exact g_zret dL_law_522 rfl zn_0 ⟨rfl, rfl, rfl⟩ (Nat.le_of_ble_eq_true rfl) (Nat.le_of_ble_eq_true rfl)
  · intro h43 n44 w45
    replace w45 := w45.symm
    subst w45
    replace hF := q_sr hF
    replace hF := q_sr hF
    replace hF := q_sr hF
    replace hF := q_sr hF
    replace hF := q_sr hF
    replace hF := q_sr hF
    replace hF := q_sr hF
    replace hF := q_sr hF
    replace hF := q_sr hF
    replace hF := q_sl hF
    dsimp only at hF
    refine g_iconst dL_law_574 lt_iconst_0 ?_
    cases hF
    exact g_zret dL_law_575 rfl zn_0 ⟨rfl, rfl, rfl⟩ (Nat.le_of_ble_eq_true rfl) (Nat.le_of_ble_eq_true rfl)
  · intro h47 n48 w49
    replace w49 := w49.symm
    subst w49
    replace hF := q_sr hF
    replace hF := q_sr hF
    replace hF := q_sr hF
    replace hF := q_sr hF
    replace hF := q_sr hF
    replace hF := q_sr hF
    replace hF := q_sr hF
    replace hF := q_sr hF
    replace hF := q_sr hF
    replace hF := q_sr hF
    replace hF := q_sl hF
    dsimp only at hF
    refine g_iconst dL_law_617 lt_iconst_0 ?_
    cases hF
    exact g_zret dL_law_618 rfl zn_0 ⟨rfl, rfl, rfl⟩ (Nat.le_of_ble_eq_true rfl) (Nat.le_of_ble_eq_true rfl)
  · intro h51 n52 w53
    replace w53 := w53.symm
    subst w53
    replace hF := q_sr hF
    replace hF := q_sr hF
    replace hF := q_sr hF
    replace hF := q_sr hF
    replace hF := q_sr hF
    replace hF := q_sr hF
    replace hF := q_sr hF
    replace hF := q_sr hF
    replace hF := q_sr hF
    replace hF := q_sr hF
    replace hF := q_sr hF
    replace hF := q_sl hF
    dsimp only at hF
    refine g_iconst dL_law_660 lt_iconst_0 ?_
    cases hF
    exact g_zret dL_law_661 rfl zn_0 ⟨rfl, rfl, rfl⟩ (Nat.le_of_ble_eq_true rfl) (Nat.le_of_ble_eq_true rfl)
  · intro h55 n56 w57
    replace w57 := w57.symm
    subst w57
    replace hF := q_sr hF
    replace hF := q_sr hF
    replace hF := q_sr hF
    replace hF := q_sr hF
    replace hF := q_sr hF
    replace hF := q_sr hF
    replace hF := q_sr hF
    replace hF := q_sr hF
    replace hF := q_sr hF
    replace hF := q_sr hF
    replace hF := q_sr hF
    replace hF := q_sr hF
    replace hF := q_sl hF
    dsimp only at hF
    refine g_iconst dL_law_756 lt_iconst_0 ?_
    cases hF
    exact g_zret dL_law_757 rfl zn_0 ⟨rfl, rfl, rfl⟩ (Nat.le_of_ble_eq_true rfl) (Nat.le_of_ble_eq_true rfl)
  · intro h59 n60 w61
    replace w61 := w61.symm
    subst w61
    replace hF := q_sr hF
    replace hF := q_sr hF
    replace hF := q_sr hF
    replace hF := q_sr hF
    replace hF := q_sr hF
    replace hF := q_sr hF
    replace hF := q_sr hF
    replace hF := q_sr hF
    replace hF := q_sr hF
    replace hF := q_sr hF
    replace hF := q_sr hF
    replace hF := q_sr hF
    replace hF := q_sr hF
    replace hF := q_sl hF
    dsimp only at hF
    refine g_iconst dL_law_842 lt_iconst_0 ?_
    cases hF
    exact g_zret dL_law_843 rfl zn_0 ⟨rfl, rfl, rfl⟩ (Nat.le_of_ble_eq_true rfl) (Nat.le_of_ble_eq_true rfl)
  · intro h63 n64 w65
    replace w65 := w65.symm
    subst w65
    replace hF := q_sr hF
    replace hF := q_sr hF
    replace hF := q_sr hF
    replace hF := q_sr hF
    replace hF := q_sr hF
    replace hF := q_sr hF
    replace hF := q_sr hF
    replace hF := q_sr hF
    replace hF := q_sr hF
    replace hF := q_sr hF
    replace hF := q_sr hF
    replace hF := q_sr hF
    replace hF := q_sr hF
    replace hF := q_sr hF
    replace hF := q_sl hF
    dsimp only at hF
    refine g_iconst dL_law_891 lt_iconst_0 ?_
    cases hF
    exact g_zret dL_law_892 rfl zn_0 ⟨rfl, rfl, rfl⟩ (Nat.le_of_ble_eq_true rfl) (Nat.le_of_ble_eq_true rfl)
  · intro h67 n68 w69
    replace w69 := w69.symm
    subst w69
    replace hF := q_sr hF
    replace hF := q_sr hF
    replace hF := q_sr hF
    replace hF := q_sr hF
    replace hF := q_sr hF
    replace hF := q_sr hF
    replace hF := q_sr hF
    replace hF := q_sr hF
    replace hF := q_sr hF
    replace hF := q_sr hF
    replace hF := q_sr hF
    replace hF := q_sr hF
    replace hF := q_sr hF
    replace hF := q_sr hF
    replace hF := q_sr hF
    replace hF := q_sl hF
    dsimp only at hF
    refine g_iconst dL_law_944 lt_iconst_0 ?_
    cases hF
    exact g_zret dL_law_945 rfl zn_0 ⟨rfl, rfl, rfl⟩ (Nat.le_of_ble_eq_true rfl) (Nat.le_of_ble_eq_true rfl)
  · intro h71 n72 w73
    replace w73 := w73.symm
    subst w73
    replace hF := q_sr hF
    replace hF := q_sr hF
    replace hF := q_sr hF
    replace hF := q_sr hF
    replace hF := q_sr hF
    replace hF := q_sr hF
    replace hF := q_sr hF
    replace hF := q_sr hF
    replace hF := q_sr hF
    replace hF := q_sr hF
    replace hF := q_sr hF
    replace hF := q_sr hF
    replace hF := q_sr hF
    replace hF := q_sr hF
    replace hF := q_sr hF
    replace hF := q_sr hF
    replace hF := q_sl hF
    dsimp only at hF
    refine g_iconst dL_law_977 lt_iconst_0 ?_
    cases hF
    exact g_zret dL_law_978 rfl zn_0 ⟨rfl, rfl, rfl⟩ (Nat.le_of_ble_eq_true rfl) (Nat.le_of_ble_eq_true rfl)
  · intro h75 n76 w77
    replace w77 := w77.symm
    subst w77
    replace hF := q_sr hF
    replace hF := q_sr hF
    replace hF := q_sr hF
    replace hF := q_sr hF
    replace hF := q_sr hF
    replace hF := q_sr hF
    replace hF := q_sr hF
    replace hF := q_sr hF
    replace hF := q_sr hF
    replace hF := q_sr hF
    replace hF := q_sr hF
    replace hF := q_sr hF
    replace hF := q_sr hF
    replace hF := q_sr hF
    replace hF := q_sr hF
    replace hF := q_sr hF
    replace hF := q_sr hF
    replace hF := q_sl hF
    dsimp only at hF
    refine g_iconst dL_law_1021 lt_iconst_0 ?_
    cases hF
    exact g_zret dL_law_1022 rfl zn_0 ⟨rfl, rfl, rfl⟩ (Nat.le_of_ble_eq_true rfl) (Nat.le_of_ble_eq_true rfl)
  · intro h79 n80 w81
    replace w81 := w81.symm
    subst w81
    replace hF := q_sr hF
    replace hF := q_sr hF
    replace hF := q_sr hF
    replace hF := q_sr hF
    replace hF := q_sr hF
    replace hF := q_sr hF
    replace hF := q_sr hF
    replace hF := q_sr hF
    replace hF := q_sr hF
    replace hF := q_sr hF
    replace hF := q_sr hF
    replace hF := q_sr hF
    replace hF := q_sr hF
    replace hF := q_sr hF
    replace hF := q_sr hF
    replace hF := q_sr hF
    replace hF := q_sr hF
    replace hF := q_sr hF
    replace hF := q_sl hF
    dsimp only at hF
    refine g_iconst dL_law_1054 lt_iconst_0 ?_
    cases hF
    exact g_zret dL_law_1055 rfl zn_0 ⟨rfl, rfl, rfl⟩ (Nat.le_of_ble_eq_true rfl) (Nat.le_of_ble_eq_true rfl)
  · intro h83 n84 w85
    replace w85 := w85.symm
    subst w85
    replace hF := q_sr hF
    replace hF := q_sr hF
    replace hF := q_sr hF
    replace hF := q_sr hF
    replace hF := q_sr hF
    replace hF := q_sr hF
    replace hF := q_sr hF
    replace hF := q_sr hF
    replace hF := q_sr hF
    replace hF := q_sr hF
    replace hF := q_sr hF
    replace hF := q_sr hF
    replace hF := q_sr hF
    replace hF := q_sr hF
    replace hF := q_sr hF
    replace hF := q_sr hF
    replace hF := q_sr hF
    replace hF := q_sr hF
    replace hF := q_sr hF
    replace hF := q_sl hF
    dsimp only at hF
    refine g_iconst dL_law_1107 lt_iconst_0 ?_
    cases hF
    exact g_zret dL_law_1108 rfl zn_0 ⟨rfl, rfl, rfl⟩ (Nat.le_of_ble_eq_true rfl) (Nat.le_of_ble_eq_true rfl)
  · intro h87 n88 w89
    replace w89 := w89.symm
    subst w89
    replace hF := q_sr hF
    replace hF := q_sr hF
    replace hF := q_sr hF
    replace hF := q_sr hF
    replace hF := q_sr hF
    replace hF := q_sr hF
    replace hF := q_sr hF
    replace hF := q_sr hF
    replace hF := q_sr hF
    replace hF := q_sr hF
    replace hF := q_sr hF
    replace hF := q_sr hF
    replace hF := q_sr hF
    replace hF := q_sr hF
    replace hF := q_sr hF
    replace hF := q_sr hF
    replace hF := q_sr hF
    replace hF := q_sr hF
    replace hF := q_sr hF
    replace hF := q_sr hF
    replace hF := q_sl hF
    dsimp only at hF
    refine g_iconst dL_law_1140 lt_iconst_0 ?_
    cases hF
    exact g_zret dL_law_1141 rfl zn_0 ⟨rfl, rfl, rfl⟩ (Nat.le_of_ble_eq_true rfl) (Nat.le_of_ble_eq_true rfl)
  · intro h91 n92 w93
    replace w93 := w93.symm
    subst w93
    replace hF := q_sr hF
    replace hF := q_sr hF
    replace hF := q_sr hF
    replace hF := q_sr hF
    replace hF := q_sr hF
    replace hF := q_sr hF
    replace hF := q_sr hF
    replace hF := q_sr hF
    replace hF := q_sr hF
    replace hF := q_sr hF
    replace hF := q_sr hF
    replace hF := q_sr hF
    replace hF := q_sr hF
    replace hF := q_sr hF
    replace hF := q_sr hF
    replace hF := q_sr hF
    replace hF := q_sr hF
    replace hF := q_sr hF
    replace hF := q_sr hF
    replace hF := q_sr hF
    replace hF := q_sr hF
    replace hF := q_sl hF
    dsimp only at hF
    refine g_iconst dL_law_1173 lt_iconst_0 ?_
    cases hF
    exact g_zret dL_law_1174 rfl zn_0 ⟨rfl, rfl, rfl⟩ (Nat.le_of_ble_eq_true rfl) (Nat.le_of_ble_eq_true rfl)
  · intro h95 n96 w97
    replace w97 := w97.symm
    subst w97
    replace hF := q_sr hF
    replace hF := q_sr hF
    replace hF := q_sr hF
    replace hF := q_sr hF
    replace hF := q_sr hF
    replace hF := q_sr hF
    replace hF := q_sr hF
    replace hF := q_sr hF
    replace hF := q_sr hF
    replace hF := q_sr hF
    replace hF := q_sr hF
    replace hF := q_sr hF
    replace hF := q_sr hF
    replace hF := q_sr hF
    replace hF := q_sr hF
    replace hF := q_sr hF
    replace hF := q_sr hF
    replace hF := q_sr hF
    replace hF := q_sr hF
    replace hF := q_sr hF
    replace hF := q_sr hF
    replace hF := q_sr hF
    replace hF := q_sl hF
    dsimp only at hF
    refine g_iconst dL_law_1207 lt_iconst_0 ?_
    cases hF
    exact g_zret dL_law_1208 rfl zn_0 ⟨rfl, rfl, rfl⟩ (Nat.le_of_ble_eq_true rfl) (Nat.le_of_ble_eq_true rfl)
  · intro h99 n100 w101
    replace w101 := w101.symm
    subst w101
    replace hF := q_sr hF
    replace hF := q_sr hF
    replace hF := q_sr hF
    replace hF := q_sr hF
    replace hF := q_sr hF
    replace hF := q_sr hF
    replace hF := q_sr hF
    replace hF := q_sr hF
    replace hF := q_sr hF
    replace hF := q_sr hF
    replace hF := q_sr hF
    replace hF := q_sr hF
    replace hF := q_sr hF
    replace hF := q_sr hF
    replace hF := q_sr hF
    replace hF := q_sr hF
    replace hF := q_sr hF
    replace hF := q_sr hF
    replace hF := q_sr hF
    replace hF := q_sr hF
    replace hF := q_sr hF
    replace hF := q_sr hF
    replace hF := q_sr hF
    replace hF := q_sl hF
    dsimp only at hF
    refine g_iconst dL_law_1276 lt_iconst_0 ?_
    cases hF
    exact g_zret dL_law_1277 rfl zn_0 ⟨rfl, rfl, rfl⟩ (Nat.le_of_ble_eq_true rfl) (Nat.le_of_ble_eq_true rfl)
  · intro h103 n104 w105
    replace w105 := w105.symm
    subst w105
    replace hF := q_sr hF
    replace hF := q_sr hF
    replace hF := q_sr hF
    replace hF := q_sr hF
    replace hF := q_sr hF
    replace hF := q_sr hF
    replace hF := q_sr hF
    replace hF := q_sr hF
    replace hF := q_sr hF
    replace hF := q_sr hF
    replace hF := q_sr hF
    replace hF := q_sr hF
    replace hF := q_sr hF
    replace hF := q_sr hF
    replace hF := q_sr hF
    replace hF := q_sr hF
    replace hF := q_sr hF
    replace hF := q_sr hF
    replace hF := q_sr hF
    replace hF := q_sr hF
    replace hF := q_sr hF
    replace hF := q_sr hF
    replace hF := q_sr hF
    replace hF := q_sr hF
    replace hF := q_sl hF
    dsimp only at hF
    refine g_iconst dL_law_1325 lt_iconst_0 ?_
    cases hF
    exact g_zret dL_law_1326 rfl zn_0 ⟨rfl, rfl, rfl⟩ (Nat.le_of_ble_eq_true rfl) (Nat.le_of_ble_eq_true rfl)
  · intro h107 n108 w109
    replace w109 := w109.symm
    subst w109
    replace hF := q_sr hF
    replace hF := q_sr hF
    replace hF := q_sr hF
    replace hF := q_sr hF
    replace hF := q_sr hF
    replace hF := q_sr hF
    replace hF := q_sr hF
    replace hF := q_sr hF
    replace hF := q_sr hF
    replace hF := q_sr hF
    replace hF := q_sr hF
    replace hF := q_sr hF
    replace hF := q_sr hF
    replace hF := q_sr hF
    replace hF := q_sr hF
    replace hF := q_sr hF
    replace hF := q_sr hF
    replace hF := q_sr hF
    replace hF := q_sr hF
    replace hF := q_sr hF
    replace hF := q_sr hF
    replace hF := q_sr hF
    replace hF := q_sr hF
    replace hF := q_sr hF
    replace hF := q_sr hF
    replace hF := q_sl hF
    dsimp only at hF
    refine g_iconst dL_law_1368 lt_iconst_0 ?_
    cases hF
    exact g_zret dL_law_1369 rfl zn_0 ⟨rfl, rfl, rfl⟩ (Nat.le_of_ble_eq_true rfl) (Nat.le_of_ble_eq_true rfl)
  · intro h111 n112 w113
    replace w113 := w113.symm
    subst w113
    replace hF := q_sr hF
    replace hF := q_sr hF
    replace hF := q_sr hF
    replace hF := q_sr hF
    replace hF := q_sr hF
    replace hF := q_sr hF
    replace hF := q_sr hF
    replace hF := q_sr hF
    replace hF := q_sr hF
    replace hF := q_sr hF
    replace hF := q_sr hF
    replace hF := q_sr hF
    replace hF := q_sr hF
    replace hF := q_sr hF
    replace hF := q_sr hF
    replace hF := q_sr hF
    replace hF := q_sr hF
    replace hF := q_sr hF
    replace hF := q_sr hF
    replace hF := q_sr hF
    replace hF := q_sr hF
    replace hF := q_sr hF
    replace hF := q_sr hF
    replace hF := q_sr hF
    replace hF := q_sr hF
    replace hF := q_sr hF
    replace hF := q_sl hF
    dsimp only at hF
    refine g_iconst dL_law_1428 lt_iconst_0 ?_
    cases hF
    exact g_zret dL_law_1429 rfl zn_0 ⟨rfl, rfl, rfl⟩ (Nat.le_of_ble_eq_true rfl) (Nat.le_of_ble_eq_true rfl)
  · intro h115 n116 w117
    replace w117 := w117.symm
    subst w117
    replace hF := q_sr hF
    replace hF := q_sr hF
    replace hF := q_sr hF
    replace hF := q_sr hF
    replace hF := q_sr hF
    replace hF := q_sr hF
    replace hF := q_sr hF
    replace hF := q_sr hF
    replace hF := q_sr hF
    replace hF := q_sr hF
    replace hF := q_sr hF
    replace hF := q_sr hF
    replace hF := q_sr hF
    replace hF := q_sr hF
    replace hF := q_sr hF
    replace hF := q_sr hF
    replace hF := q_sr hF
    replace hF := q_sr hF
    replace hF := q_sr hF
    replace hF := q_sr hF
    replace hF := q_sr hF
    replace hF := q_sr hF
    replace hF := q_sr hF
    replace hF := q_sr hF
    replace hF := q_sr hF
    replace hF := q_sr hF
    replace hF := q_sr hF
    replace hF := q_sl hF
    dsimp only at hF
    refine g_iconst dL_law_1461 lt_iconst_0 ?_
    cases hF
    exact g_zret dL_law_1462 rfl zn_0 ⟨rfl, rfl, rfl⟩ (Nat.le_of_ble_eq_true rfl) (Nat.le_of_ble_eq_true rfl)
  · intro h119 n120 w121
    replace w121 := w121.symm
    subst w121
    replace hF := q_sr hF
    replace hF := q_sr hF
    replace hF := q_sr hF
    replace hF := q_sr hF
    replace hF := q_sr hF
    replace hF := q_sr hF
    replace hF := q_sr hF
    replace hF := q_sr hF
    replace hF := q_sr hF
    replace hF := q_sr hF
    replace hF := q_sr hF
    replace hF := q_sr hF
    replace hF := q_sr hF
    replace hF := q_sr hF
    replace hF := q_sr hF
    replace hF := q_sr hF
    replace hF := q_sr hF
    replace hF := q_sr hF
    replace hF := q_sr hF
    replace hF := q_sr hF
    replace hF := q_sr hF
    replace hF := q_sr hF
    replace hF := q_sr hF
    replace hF := q_sr hF
    replace hF := q_sr hF
    replace hF := q_sr hF
    replace hF := q_sr hF
    replace hF := q_sr hF
    replace hF := q_sl hF
    dsimp only at hF
    refine g_iconst dL_law_1504 lt_iconst_0 ?_
    cases hF
    exact g_zret dL_law_1505 rfl zn_0 ⟨rfl, rfl, rfl⟩ (Nat.le_of_ble_eq_true rfl) (Nat.le_of_ble_eq_true rfl)
  · intro h123 n124 w125
    replace w125 := w125.symm
    subst w125
    replace hF := q_sr hF
    replace hF := q_sr hF
    replace hF := q_sr hF
    replace hF := q_sr hF
    replace hF := q_sr hF
    replace hF := q_sr hF
    replace hF := q_sr hF
    replace hF := q_sr hF
    replace hF := q_sr hF
    replace hF := q_sr hF
    replace hF := q_sr hF
    replace hF := q_sr hF
    replace hF := q_sr hF
    replace hF := q_sr hF
    replace hF := q_sr hF
    replace hF := q_sr hF
    replace hF := q_sr hF
    replace hF := q_sr hF
    replace hF := q_sr hF
    replace hF := q_sr hF
    replace hF := q_sr hF
    replace hF := q_sr hF
    replace hF := q_sr hF
    replace hF := q_sr hF
    replace hF := q_sr hF
    replace hF := q_sr hF
    replace hF := q_sr hF
    replace hF := q_sr hF
    replace hF := q_sr hF
    replace hF := q_sl hF
    dsimp only at hF
    refine g_iconst dL_law_1527 lt_iconst_0 ?_
    cases hF
    exact g_zret dL_law_1528 rfl zn_0 ⟨rfl, rfl, rfl⟩ (Nat.le_of_ble_eq_true rfl) (Nat.le_of_ble_eq_true rfl)
  · intro h127 n128 w129
    replace w129 := w129.symm
    subst w129
    replace hF := q_sr hF
    replace hF := q_sr hF
    replace hF := q_sr hF
    replace hF := q_sr hF
    replace hF := q_sr hF
    replace hF := q_sr hF
    replace hF := q_sr hF
    replace hF := q_sr hF
    replace hF := q_sr hF
    replace hF := q_sr hF
    replace hF := q_sr hF
    replace hF := q_sr hF
    replace hF := q_sr hF
    replace hF := q_sr hF
    replace hF := q_sr hF
    replace hF := q_sr hF
    replace hF := q_sr hF
    replace hF := q_sr hF
    replace hF := q_sr hF
    replace hF := q_sr hF
    replace hF := q_sr hF
    replace hF := q_sr hF
    replace hF := q_sr hF
    replace hF := q_sr hF
    replace hF := q_sr hF
    replace hF := q_sr hF
    replace hF := q_sr hF
    replace hF := q_sr hF
    replace hF := q_sr hF
    replace hF := q_sr hF
    replace hF := q_sl hF
    dsimp only at hF
    refine g_iconst dL_law_1550 lt_iconst_0 ?_
    cases hF
    exact g_zret dL_law_1551 rfl zn_0 ⟨rfl, rfl, rfl⟩ (Nat.le_of_ble_eq_true rfl) (Nat.le_of_ble_eq_true rfl)
  · intro h131 n132 w133
    replace w133 := w133.symm
    subst w133
    replace hF := q_sr hF
    replace hF := q_sr hF
    replace hF := q_sr hF
    replace hF := q_sr hF
    replace hF := q_sr hF
    replace hF := q_sr hF
    replace hF := q_sr hF
    replace hF := q_sr hF
    replace hF := q_sr hF
    replace hF := q_sr hF
    replace hF := q_sr hF
    replace hF := q_sr hF
    replace hF := q_sr hF
    replace hF := q_sr hF
    replace hF := q_sr hF
    replace hF := q_sr hF
    replace hF := q_sr hF
    replace hF := q_sr hF
    replace hF := q_sr hF
    replace hF := q_sr hF
    replace hF := q_sr hF
    replace hF := q_sr hF
    replace hF := q_sr hF
    replace hF := q_sr hF
    replace hF := q_sr hF
    replace hF := q_sr hF
    replace hF := q_sr hF
    replace hF := q_sr hF
    replace hF := q_sr hF
    replace hF := q_sr hF
    replace hF := q_sr hF
    replace hF := q_sl hF
    dsimp only at hF
    refine g_iconst dL_law_1573 lt_iconst_0 ?_
    cases hF
    exact g_zret dL_law_1574 rfl zn_0 ⟨rfl, rfl, rfl⟩ (Nat.le_of_ble_eq_true rfl) (Nat.le_of_ble_eq_true rfl)
  · intro h135 n136 w137
    replace w137 := w137.symm
    subst w137
    replace hF := q_sr hF
    replace hF := q_sr hF
    replace hF := q_sr hF
    replace hF := q_sr hF
    replace hF := q_sr hF
    replace hF := q_sr hF
    replace hF := q_sr hF
    replace hF := q_sr hF
    replace hF := q_sr hF
    replace hF := q_sr hF
    replace hF := q_sr hF
    replace hF := q_sr hF
    replace hF := q_sr hF
    replace hF := q_sr hF
    replace hF := q_sr hF
    replace hF := q_sr hF
    replace hF := q_sr hF
    replace hF := q_sr hF
    replace hF := q_sr hF
    replace hF := q_sr hF
    replace hF := q_sr hF
    replace hF := q_sr hF
    replace hF := q_sr hF
    replace hF := q_sr hF
    replace hF := q_sr hF
    replace hF := q_sr hF
    replace hF := q_sr hF
    replace hF := q_sr hF
    replace hF := q_sr hF
    replace hF := q_sr hF
    replace hF := q_sr hF
    replace hF := q_sr hF
    dsimp only at hF
    refine g_iconst dL_law_1581 lt_iconst_1 ?_
    cases hF
    exact g_zret dL_law_1582 rfl zn_1 ⟨rfl, rfl, rfl⟩ (Nat.le_of_ble_eq_true rfl) (Nat.le_of_ble_eq_true rfl)
