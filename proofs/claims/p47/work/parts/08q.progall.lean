theorem am_lc {i : Nat} {a : AMe} {L : List (Nat × AMe)} (h : am_okA a) (t : ∀ j Y, am_look L j = some Y → am_okA Y) : ∀ j Y, am_look ((i, a) :: L) j = some Y → am_okA Y := by
  intro j Y hj
  unfold am_look at hj
  split at hj
  · cases hj; exact h
  · exact t j Y hj
theorem am_ln : ∀ j Y, am_look [] j = some Y → am_okA Y := fun j Y h => by cases h
theorem am_z0 : ∀ j Y, am_look am_pl0 j = some Y → am_okA Y := (am_lc am_y0 (am_lc am_y1 (am_lc am_y2 (am_lc am_y3 (am_lc am_y4 (am_lc am_y5 (am_lc am_y6 (am_lc am_y7 (am_lc am_y8 (am_lc am_y9 (am_lc am_y10 (am_lc am_y11 (am_lc am_y12 (am_lc am_y13 (am_lc am_y14 (am_lc am_y15 (am_lc am_y18 (am_lc am_y22 (am_lc am_y23 (am_lc am_y24 am_ln))))))))))))))))))))
theorem am_z1 : ∀ j Y, am_look am_pl1 j = some Y → am_okA Y := (am_lc am_y25 (am_lc am_y26 (am_lc am_y27 (am_lc am_y28 (am_lc am_y29 (am_lc am_y36 (am_lc am_y37 (am_lc am_y38 (am_lc am_y39 (am_lc am_y40 (am_lc am_y41 (am_lc am_y42 (am_lc am_y43 (am_lc am_y44 (am_lc am_y45 (am_lc am_y46 (am_lc am_y47 (am_lc am_y48 (am_lc am_y49 (am_lc am_y50 am_ln))))))))))))))))))))
theorem am_z2 : ∀ j Y, am_look am_pl2 j = some Y → am_okA Y := (am_lc am_y51 (am_lc am_y52 (am_lc am_y62 (am_lc am_y63 (am_lc am_y64 (am_lc am_y65 (am_lc am_y66 (am_lc am_y67 (am_lc am_y68 (am_lc am_y69 (am_lc am_y70 (am_lc am_y71 (am_lc am_y72 (am_lc am_y73 (am_lc am_y74 (am_lc am_y75 (am_lc am_y76 (am_lc am_y77 (am_lc am_y78 (am_lc am_y79 am_ln))))))))))))))))))))
theorem am_z3 : ∀ j Y, am_look am_pl3 j = some Y → am_okA Y := (am_lc am_y80 (am_lc am_y81 (am_lc am_y82 (am_lc am_y83 (am_lc am_y84 (am_lc am_y85 (am_lc am_y86 (am_lc am_y87 (am_lc am_y88 (am_lc am_y89 (am_lc am_y90 (am_lc am_y91 (am_lc am_y92 (am_lc am_y93 (am_lc am_y94 (am_lc am_y95 (am_lc am_y96 (am_lc am_y97 (am_lc am_y98 (am_lc am_y99 am_ln))))))))))))))))))))
theorem am_z4 : ∀ j Y, am_look am_pl4 j = some Y → am_okA Y := (am_lc am_y100 (am_lc am_y102 (am_lc am_y115 (am_lc am_y124 (am_lc am_y125 (am_lc am_y126 (am_lc am_y128 (am_lc am_y129 (am_lc am_y130 (am_lc am_y131 (am_lc am_y253 (am_lc am_y254 (am_lc am_y255 (am_lc am_y256 (am_lc am_y257 (am_lc am_y258 (am_lc am_y259 (am_lc am_y260 (am_lc am_y261 (am_lc am_y262 am_ln))))))))))))))))))))
theorem am_z5 : ∀ j Y, am_look am_pl5 j = some Y → am_okA Y := (am_lc am_y300 (am_lc am_y301 (am_lc am_y302 (am_lc am_y303 (am_lc am_y304 (am_lc am_y305 (am_lc am_y306 (am_lc am_y307 (am_lc am_y308 (am_lc am_y309 (am_lc am_y310 (am_lc am_y311 (am_lc am_y312 (am_lc am_y313 (am_lc am_y314 (am_lc am_y315 (am_lc am_y316 (am_lc am_y317 (am_lc am_y318 (am_lc am_y319 am_ln))))))))))))))))))))
theorem am_z6 : ∀ j Y, am_look am_pl6 j = some Y → am_okA Y := (am_lc am_y320 (am_lc am_y321 (am_lc am_y322 (am_lc am_y323 (am_lc am_y324 (am_lc am_y325 (am_lc am_y326 (am_lc am_y327 (am_lc am_y328 (am_lc am_y329 (am_lc am_y330 (am_lc am_y331 (am_lc am_y332 (am_lc am_y333 (am_lc am_y334 (am_lc am_y335 (am_lc am_y336 (am_lc am_y337 (am_lc am_y338 (am_lc am_y339 am_ln))))))))))))))))))))
theorem am_z7 : ∀ j Y, am_look am_pl7 j = some Y → am_okA Y := (am_lc am_y340 (am_lc am_y341 (am_lc am_y342 (am_lc am_y343 (am_lc am_y344 (am_lc am_y345 (am_lc am_y346 (am_lc am_y347 (am_lc am_y348 (am_lc am_y349 (am_lc am_y350 (am_lc am_y351 (am_lc am_y352 (am_lc am_y353 (am_lc am_y354 (am_lc am_y355 (am_lc am_y356 (am_lc am_y357 (am_lc am_y358 (am_lc am_y359 am_ln))))))))))))))))))))
theorem am_z8 : ∀ j Y, am_look am_pl8 j = some Y → am_okA Y := (am_lc am_y360 (am_lc am_y361 (am_lc am_y362 (am_lc am_y363 (am_lc am_y364 (am_lc am_y365 (am_lc am_y366 (am_lc am_y367 (am_lc am_y368 (am_lc am_y369 (am_lc am_y370 (am_lc am_y371 (am_lc am_y372 (am_lc am_y373 (am_lc am_y374 (am_lc am_y375 (am_lc am_y376 (am_lc am_y377 (am_lc am_y378 (am_lc am_y379 am_ln))))))))))))))))))))
theorem am_z9 : ∀ j Y, am_look am_pl9 j = some Y → am_okA Y := (am_lc am_y380 (am_lc am_y381 (am_lc am_y382 (am_lc am_y383 (am_lc am_y384 (am_lc am_y385 (am_lc am_y386 (am_lc am_y387 (am_lc am_y388 (am_lc am_y400 (am_lc am_y401 (am_lc am_y402 (am_lc am_y403 am_ln)))))))))))))
theorem am_prog_ok : ∀ (mi : Nat) (Y : AMe), am_prog mi = some Y → am_okY Y ∧ am_okB Y ∧ am_okH Y := by
  intro mi Y h
  unfold am_prog at h
  split at h
  · exact am_z0 _ _ h
  · have h0 := h
    split at h
    · exact am_z1 _ _ h
    · have h0 := h
      split at h
      · exact am_z2 _ _ h
      · have h0 := h
        split at h
        · exact am_z3 _ _ h
        · have h0 := h
          split at h
          · exact am_z4 _ _ h
          · have h0 := h
            split at h
            · exact am_z5 _ _ h
            · have h0 := h
              split at h
              · exact am_z6 _ _ h
              · have h0 := h
                split at h
                · exact am_z7 _ _ h
                · have h0 := h
                  split at h
                  · exact am_z8 _ _ h
                  · have h0 := h
                    exact am_z9 _ _ h
