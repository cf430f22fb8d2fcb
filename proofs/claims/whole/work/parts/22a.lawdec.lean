/-! The law's own method, decoded (printed rows). -/
theorem dL_law__0 : decode cL_law_ 0 = .ok (.new 8, 3) := by decide +kernel
theorem dL_law__3 : decode cL_law_ 3 = .ok (.dup, 1) := by decide +kernel
theorem dL_law__4 : decode cL_law_ 4 = .ok (.invokespecial 117, 3) := by decide +kernel
theorem dL_law__7 : decode cL_law_ 7 = .ok (.astore_n 1, 1) := by decide +kernel
theorem dL_law__8 : decode cL_law_ 8 = .ok (.new 118, 3) := by decide +kernel
theorem dL_law__11 : decode cL_law_ 11 = .ok (.dup, 1) := by decide +kernel
theorem dL_law__12 : decode cL_law_ 12 = .ok (.invokespecial 120, 3) := by decide +kernel
theorem dL_law__15 : decode cL_law_ 15 = .ok (.astore_n 2, 1) := by decide +kernel
theorem dL_law__16 : decode cL_law_ 16 = .ok (.iconst 1, 1) := by decide +kernel
theorem dL_law__17 : decode cL_law_ 17 = .ok (.newarray .long, 2) := by decide +kernel
theorem dL_law__19 : decode cL_law_ 19 = .ok (.astore_n 3, 1) := by decide +kernel
theorem dL_law__20 : decode cL_law_ 20 = .ok (.iconst 0, 1) := by decide +kernel
theorem dL_law__21 : decode cL_law_ 21 = .ok (.istore 4, 2) := by decide +kernel
theorem dL_law__23 : decode cL_law_ 23 = .ok (.iload 4, 2) := by decide +kernel
theorem dL_law__25 : decode cL_law_ 25 = .ok (.aload_n 0, 1) := by decide +kernel
theorem dL_law__26 : decode cL_law_ 26 = .ok (.arraylength, 1) := by decide +kernel
theorem dL_law__27 : decode cL_law_ 27 = .ok (.bipush 9, 2) := by decide +kernel
theorem dL_law__29 : decode cL_law_ 29 = .ok (.isub, 1) := by decide +kernel
theorem dL_law__30 : decode cL_law_ 30 = .ok (.if_icmp .gt 2582, 3) := by decide +kernel
theorem dL_law__33 : decode cL_law_ 33 = .ok (.aload_n 0, 1) := by decide +kernel
theorem dL_law__34 : decode cL_law_ 34 = .ok (.iload 4, 2) := by decide +kernel
theorem dL_law__36 : decode cL_law_ 36 = .ok (.iaload, 1) := by decide +kernel
theorem dL_law__37 : decode cL_law_ 37 = .ok (.bipush 63, 2) := by decide +kernel
theorem dL_law__39 : decode cL_law_ 39 = .ok (.iand, 1) := by decide +kernel
theorem dL_law__40 : decode cL_law_ 40 = .ok (.tableswitch 2566 0 43 #[192, 265, 321, 377, 433, 489, 502, 515, 571, 639, 707, 775, 843, 989, 1057, 1070, 1138, 1151, 1207, 1220, 1275, 1331, 1387, 1443, 1499, 1579, 1670, 1750, 1806, 1862, 1918, 1974, 2030, 2043, 2056, 2112, 2168, 2224, 2280, 2372, 2490, 2503, 2516, 2541], 192) := by decide +kernel
theorem dL_law__232 : decode cL_law_ 232 = .ok (.aload_n 1, 1) := by decide +kernel
theorem dL_law__233 : decode cL_law_ 233 = .ok (.aload_n 0, 1) := by decide +kernel
theorem dL_law__234 : decode cL_law_ 234 = .ok (.iload 4, 2) := by decide +kernel
theorem dL_law__236 : decode cL_law_ 236 = .ok (.iconst 1, 1) := by decide +kernel
theorem dL_law__237 : decode cL_law_ 237 = .ok (.iadd, 1) := by decide +kernel
theorem dL_law__238 : decode cL_law_ 238 = .ok (.iaload, 1) := by decide +kernel
theorem dL_law__239 : decode cL_law_ 239 = .ok (.aload_n 0, 1) := by decide +kernel
theorem dL_law__240 : decode cL_law_ 240 = .ok (.iload 4, 2) := by decide +kernel
theorem dL_law__242 : decode cL_law_ 242 = .ok (.iconst 2, 1) := by decide +kernel
theorem dL_law__243 : decode cL_law_ 243 = .ok (.iadd, 1) := by decide +kernel
theorem dL_law__244 : decode cL_law_ 244 = .ok (.iaload, 1) := by decide +kernel
theorem dL_law__245 : decode cL_law_ 245 = .ok (.aload_n 0, 1) := by decide +kernel
theorem dL_law__246 : decode cL_law_ 246 = .ok (.iload 4, 2) := by decide +kernel
theorem dL_law__248 : decode cL_law_ 248 = .ok (.iconst 3, 1) := by decide +kernel
theorem dL_law__249 : decode cL_law_ 249 = .ok (.iadd, 1) := by decide +kernel
theorem dL_law__250 : decode cL_law_ 250 = .ok (.iaload, 1) := by decide +kernel
theorem dL_law__251 : decode cL_law_ 251 = .ok (.aload_n 0, 1) := by decide +kernel
theorem dL_law__252 : decode cL_law_ 252 = .ok (.iload 4, 2) := by decide +kernel
theorem dL_law__254 : decode cL_law_ 254 = .ok (.iconst 4, 1) := by decide +kernel
theorem dL_law__255 : decode cL_law_ 255 = .ok (.iadd, 1) := by decide +kernel
theorem dL_law__256 : decode cL_law_ 256 = .ok (.iaload, 1) := by decide +kernel
theorem dL_law__257 : decode cL_law_ 257 = .ok (.aload_n 0, 1) := by decide +kernel
theorem dL_law__258 : decode cL_law_ 258 = .ok (.iload 4, 2) := by decide +kernel
theorem dL_law__260 : decode cL_law_ 260 = .ok (.iconst 5, 1) := by decide +kernel
theorem dL_law__261 : decode cL_law_ 261 = .ok (.iadd, 1) := by decide +kernel
theorem dL_law__262 : decode cL_law_ 262 = .ok (.iaload, 1) := by decide +kernel
theorem dL_law__263 : decode cL_law_ 263 = .ok (.invokevirtual 121, 3) := by decide +kernel
theorem dL_law__266 : decode cL_law_ 266 = .ok (.aload_n 2, 1) := by decide +kernel
theorem dL_law__267 : decode cL_law_ 267 = .ok (.aload_n 0, 1) := by decide +kernel
theorem dL_law__268 : decode cL_law_ 268 = .ok (.iload 4, 2) := by decide +kernel
theorem dL_law__270 : decode cL_law_ 270 = .ok (.iconst 1, 1) := by decide +kernel
theorem dL_law__271 : decode cL_law_ 271 = .ok (.iadd, 1) := by decide +kernel
theorem dL_law__272 : decode cL_law_ 272 = .ok (.iaload, 1) := by decide +kernel
theorem dL_law__273 : decode cL_law_ 273 = .ok (.aload_n 0, 1) := by decide +kernel
theorem dL_law__274 : decode cL_law_ 274 = .ok (.iload 4, 2) := by decide +kernel
theorem dL_law__276 : decode cL_law_ 276 = .ok (.iconst 2, 1) := by decide +kernel
theorem dL_law__277 : decode cL_law_ 277 = .ok (.iadd, 1) := by decide +kernel
theorem dL_law__278 : decode cL_law_ 278 = .ok (.iaload, 1) := by decide +kernel
theorem dL_law__279 : decode cL_law_ 279 = .ok (.aload_n 0, 1) := by decide +kernel
theorem dL_law__280 : decode cL_law_ 280 = .ok (.iload 4, 2) := by decide +kernel
theorem dL_law__282 : decode cL_law_ 282 = .ok (.iconst 3, 1) := by decide +kernel
theorem dL_law__283 : decode cL_law_ 283 = .ok (.iadd, 1) := by decide +kernel
theorem dL_law__284 : decode cL_law_ 284 = .ok (.iaload, 1) := by decide +kernel
theorem dL_law__285 : decode cL_law_ 285 = .ok (.aload_n 0, 1) := by decide +kernel
theorem dL_law__286 : decode cL_law_ 286 = .ok (.iload 4, 2) := by decide +kernel
theorem dL_law__288 : decode cL_law_ 288 = .ok (.iconst 4, 1) := by decide +kernel
theorem dL_law__289 : decode cL_law_ 289 = .ok (.iadd, 1) := by decide +kernel
theorem dL_law__290 : decode cL_law_ 290 = .ok (.iaload, 1) := by decide +kernel
theorem dL_law__291 : decode cL_law_ 291 = .ok (.aload_n 0, 1) := by decide +kernel
theorem dL_law__292 : decode cL_law_ 292 = .ok (.iload 4, 2) := by decide +kernel
theorem dL_law__294 : decode cL_law_ 294 = .ok (.iconst 5, 1) := by decide +kernel
theorem dL_law__295 : decode cL_law_ 295 = .ok (.iadd, 1) := by decide +kernel
theorem dL_law__296 : decode cL_law_ 296 = .ok (.iaload, 1) := by decide +kernel
theorem dL_law__297 : decode cL_law_ 297 = .ok (.invokevirtual 125, 3) := by decide +kernel
theorem dL_law__300 : decode cL_law_ 300 = .ok (.if_icmp .eq 2306, 3) := by decide +kernel
theorem dL_law__303 : decode cL_law_ 303 = .ok (.iconst 0, 1) := by decide +kernel
theorem dL_law__304 : decode cL_law_ 304 = .ok (.ireturn, 1) := by decide +kernel
theorem dL_law__305 : decode cL_law_ 305 = .ok (.aload_n 1, 1) := by decide +kernel
theorem dL_law__306 : decode cL_law_ 306 = .ok (.aload_n 0, 1) := by decide +kernel
theorem dL_law__307 : decode cL_law_ 307 = .ok (.iload 4, 2) := by decide +kernel
theorem dL_law__309 : decode cL_law_ 309 = .ok (.iconst 1, 1) := by decide +kernel
theorem dL_law__310 : decode cL_law_ 310 = .ok (.iadd, 1) := by decide +kernel
theorem dL_law__311 : decode cL_law_ 311 = .ok (.iaload, 1) := by decide +kernel
theorem dL_law__312 : decode cL_law_ 312 = .ok (.aload_n 3, 1) := by decide +kernel
theorem dL_law__313 : decode cL_law_ 313 = .ok (.invokestatic 126, 3) := by decide +kernel
theorem dL_law__316 : decode cL_law_ 316 = .ok (.istore 5, 2) := by decide +kernel
theorem dL_law__318 : decode cL_law_ 318 = .ok (.aload_n 2, 1) := by decide +kernel
theorem dL_law__319 : decode cL_law_ 319 = .ok (.aload_n 0, 1) := by decide +kernel
theorem dL_law__320 : decode cL_law_ 320 = .ok (.iload 4, 2) := by decide +kernel
theorem dL_law__322 : decode cL_law_ 322 = .ok (.iconst 1, 1) := by decide +kernel
theorem dL_law__323 : decode cL_law_ 323 = .ok (.iadd, 1) := by decide +kernel
theorem dL_law__324 : decode cL_law_ 324 = .ok (.iaload, 1) := by decide +kernel
theorem dL_law__325 : decode cL_law_ 325 = .ok (.invokevirtual 131, 3) := by decide +kernel
theorem dL_law__328 : decode cL_law_ 328 = .ok (.istore 6, 2) := by decide +kernel
theorem dL_law__330 : decode cL_law_ 330 = .ok (.aload_n 2, 1) := by decide +kernel
theorem dL_law__331 : decode cL_law_ 331 = .ok (.invokevirtual 132, 3) := by decide +kernel
theorem dL_law__334 : decode cL_law_ 334 = .ok (.iload 5, 2) := by decide +kernel
theorem dL_law__336 : decode cL_law_ 336 = .ok (.if_icmp .eq 5, 3) := by decide +kernel
theorem dL_law__339 : decode cL_law_ 339 = .ok (.iconst 0, 1) := by decide +kernel
theorem dL_law__340 : decode cL_law_ 340 = .ok (.ireturn, 1) := by decide +kernel
theorem dL_law__341 : decode cL_law_ 341 = .ok (.iload 5, 2) := by decide +kernel
theorem dL_law__343 : decode cL_law_ 343 = .ok (.ifCond .ne 15, 3) := by decide +kernel
theorem dL_law__346 : decode cL_law_ 346 = .ok (.aload_n 3, 1) := by decide +kernel
theorem dL_law__347 : decode cL_law_ 347 = .ok (.iconst 0, 1) := by decide +kernel
theorem dL_law__348 : decode cL_law_ 348 = .ok (.laload, 1) := by decide +kernel
theorem dL_law__349 : decode cL_law_ 349 = .ok (.iload 6, 2) := by decide +kernel
theorem dL_law__351 : decode cL_law_ 351 = .ok (.i2l, 1) := by decide +kernel
theorem dL_law__352 : decode cL_law_ 352 = .ok (.lcmp, 1) := by decide +kernel
theorem dL_law__353 : decode cL_law_ 353 = .ok (.ifCond .eq 5, 3) := by decide +kernel
theorem dL_law__356 : decode cL_law_ 356 = .ok (.iconst 0, 1) := by decide +kernel
theorem dL_law__357 : decode cL_law_ 357 = .ok (.ireturn, 1) := by decide +kernel
theorem dL_law__358 : decode cL_law_ 358 = .ok (.goto 2248, 3) := by decide +kernel
theorem dL_law__361 : decode cL_law_ 361 = .ok (.aload_n 1, 1) := by decide +kernel
theorem dL_law__362 : decode cL_law_ 362 = .ok (.aload_n 0, 1) := by decide +kernel
theorem dL_law__363 : decode cL_law_ 363 = .ok (.iload 4, 2) := by decide +kernel
theorem dL_law__365 : decode cL_law_ 365 = .ok (.iconst 1, 1) := by decide +kernel
theorem dL_law__366 : decode cL_law_ 366 = .ok (.iadd, 1) := by decide +kernel
theorem dL_law__367 : decode cL_law_ 367 = .ok (.iaload, 1) := by decide +kernel
theorem dL_law__368 : decode cL_law_ 368 = .ok (.aload_n 3, 1) := by decide +kernel
theorem dL_law__369 : decode cL_law_ 369 = .ok (.invokestatic 136, 3) := by decide +kernel
theorem dL_law__372 : decode cL_law_ 372 = .ok (.istore 5, 2) := by decide +kernel
theorem dL_law__374 : decode cL_law_ 374 = .ok (.aload_n 2, 1) := by decide +kernel
theorem dL_law__375 : decode cL_law_ 375 = .ok (.aload_n 0, 1) := by decide +kernel
theorem dL_law__376 : decode cL_law_ 376 = .ok (.iload 4, 2) := by decide +kernel
theorem dL_law__378 : decode cL_law_ 378 = .ok (.iconst 1, 1) := by decide +kernel
theorem dL_law__379 : decode cL_law_ 379 = .ok (.iadd, 1) := by decide +kernel
theorem dL_law__380 : decode cL_law_ 380 = .ok (.iaload, 1) := by decide +kernel
theorem dL_law__381 : decode cL_law_ 381 = .ok (.invokevirtual 138, 3) := by decide +kernel
theorem dL_law__384 : decode cL_law_ 384 = .ok (.istore 6, 2) := by decide +kernel
theorem dL_law__386 : decode cL_law_ 386 = .ok (.aload_n 2, 1) := by decide +kernel
theorem dL_law__387 : decode cL_law_ 387 = .ok (.invokevirtual 132, 3) := by decide +kernel
theorem dL_law__390 : decode cL_law_ 390 = .ok (.iload 5, 2) := by decide +kernel
theorem dL_law__392 : decode cL_law_ 392 = .ok (.if_icmp .eq 5, 3) := by decide +kernel
theorem dL_law__395 : decode cL_law_ 395 = .ok (.iconst 0, 1) := by decide +kernel
theorem dL_law__396 : decode cL_law_ 396 = .ok (.ireturn, 1) := by decide +kernel
theorem dL_law__397 : decode cL_law_ 397 = .ok (.iload 5, 2) := by decide +kernel
theorem dL_law__399 : decode cL_law_ 399 = .ok (.ifCond .ne 15, 3) := by decide +kernel
theorem dL_law__402 : decode cL_law_ 402 = .ok (.aload_n 3, 1) := by decide +kernel
theorem dL_law__403 : decode cL_law_ 403 = .ok (.iconst 0, 1) := by decide +kernel
theorem dL_law__404 : decode cL_law_ 404 = .ok (.laload, 1) := by decide +kernel
theorem dL_law__405 : decode cL_law_ 405 = .ok (.iload 6, 2) := by decide +kernel
theorem dL_law__407 : decode cL_law_ 407 = .ok (.i2l, 1) := by decide +kernel
theorem dL_law__408 : decode cL_law_ 408 = .ok (.lcmp, 1) := by decide +kernel
theorem dL_law__409 : decode cL_law_ 409 = .ok (.ifCond .eq 5, 3) := by decide +kernel
theorem dL_law__412 : decode cL_law_ 412 = .ok (.iconst 0, 1) := by decide +kernel
theorem dL_law__413 : decode cL_law_ 413 = .ok (.ireturn, 1) := by decide +kernel
theorem dL_law__414 : decode cL_law_ 414 = .ok (.goto 2192, 3) := by decide +kernel
theorem dL_law__417 : decode cL_law_ 417 = .ok (.aload_n 1, 1) := by decide +kernel
theorem dL_law__418 : decode cL_law_ 418 = .ok (.aload_n 0, 1) := by decide +kernel
theorem dL_law__419 : decode cL_law_ 419 = .ok (.iload 4, 2) := by decide +kernel
theorem dL_law__421 : decode cL_law_ 421 = .ok (.iconst 1, 1) := by decide +kernel
theorem dL_law__422 : decode cL_law_ 422 = .ok (.iadd, 1) := by decide +kernel
theorem dL_law__423 : decode cL_law_ 423 = .ok (.iaload, 1) := by decide +kernel
theorem dL_law__424 : decode cL_law_ 424 = .ok (.aload_n 3, 1) := by decide +kernel
theorem dL_law__425 : decode cL_law_ 425 = .ok (.invokestatic 139, 3) := by decide +kernel
theorem dL_law__428 : decode cL_law_ 428 = .ok (.istore 5, 2) := by decide +kernel
theorem dL_law__430 : decode cL_law_ 430 = .ok (.aload_n 2, 1) := by decide +kernel
theorem dL_law__431 : decode cL_law_ 431 = .ok (.aload_n 0, 1) := by decide +kernel
theorem dL_law__432 : decode cL_law_ 432 = .ok (.iload 4, 2) := by decide +kernel
theorem dL_law__434 : decode cL_law_ 434 = .ok (.iconst 1, 1) := by decide +kernel
theorem dL_law__435 : decode cL_law_ 435 = .ok (.iadd, 1) := by decide +kernel
theorem dL_law__436 : decode cL_law_ 436 = .ok (.iaload, 1) := by decide +kernel
theorem dL_law__437 : decode cL_law_ 437 = .ok (.invokevirtual 141, 3) := by decide +kernel
theorem dL_law__440 : decode cL_law_ 440 = .ok (.istore 6, 2) := by decide +kernel
theorem dL_law__442 : decode cL_law_ 442 = .ok (.aload_n 2, 1) := by decide +kernel
theorem dL_law__443 : decode cL_law_ 443 = .ok (.invokevirtual 132, 3) := by decide +kernel
theorem dL_law__446 : decode cL_law_ 446 = .ok (.iload 5, 2) := by decide +kernel
theorem dL_law__448 : decode cL_law_ 448 = .ok (.if_icmp .eq 5, 3) := by decide +kernel
theorem dL_law__451 : decode cL_law_ 451 = .ok (.iconst 0, 1) := by decide +kernel
theorem dL_law__452 : decode cL_law_ 452 = .ok (.ireturn, 1) := by decide +kernel
theorem dL_law__453 : decode cL_law_ 453 = .ok (.iload 5, 2) := by decide +kernel
theorem dL_law__455 : decode cL_law_ 455 = .ok (.ifCond .ne 15, 3) := by decide +kernel
theorem dL_law__458 : decode cL_law_ 458 = .ok (.aload_n 3, 1) := by decide +kernel
theorem dL_law__459 : decode cL_law_ 459 = .ok (.iconst 0, 1) := by decide +kernel
theorem dL_law__460 : decode cL_law_ 460 = .ok (.laload, 1) := by decide +kernel
theorem dL_law__461 : decode cL_law_ 461 = .ok (.iload 6, 2) := by decide +kernel
theorem dL_law__463 : decode cL_law_ 463 = .ok (.i2l, 1) := by decide +kernel
theorem dL_law__464 : decode cL_law_ 464 = .ok (.lcmp, 1) := by decide +kernel
theorem dL_law__465 : decode cL_law_ 465 = .ok (.ifCond .eq 5, 3) := by decide +kernel
theorem dL_law__468 : decode cL_law_ 468 = .ok (.iconst 0, 1) := by decide +kernel
theorem dL_law__469 : decode cL_law_ 469 = .ok (.ireturn, 1) := by decide +kernel
theorem dL_law__470 : decode cL_law_ 470 = .ok (.goto 2136, 3) := by decide +kernel
theorem dL_law__473 : decode cL_law_ 473 = .ok (.aload_n 1, 1) := by decide +kernel
theorem dL_law__474 : decode cL_law_ 474 = .ok (.aload_n 0, 1) := by decide +kernel
theorem dL_law__475 : decode cL_law_ 475 = .ok (.iload 4, 2) := by decide +kernel
theorem dL_law__477 : decode cL_law_ 477 = .ok (.iconst 1, 1) := by decide +kernel
theorem dL_law__478 : decode cL_law_ 478 = .ok (.iadd, 1) := by decide +kernel
theorem dL_law__479 : decode cL_law_ 479 = .ok (.iaload, 1) := by decide +kernel
theorem dL_law__480 : decode cL_law_ 480 = .ok (.aload_n 3, 1) := by decide +kernel
theorem dL_law__481 : decode cL_law_ 481 = .ok (.invokestatic 142, 3) := by decide +kernel
theorem dL_law__484 : decode cL_law_ 484 = .ok (.istore 5, 2) := by decide +kernel
theorem dL_law__486 : decode cL_law_ 486 = .ok (.aload_n 2, 1) := by decide +kernel
theorem dL_law__487 : decode cL_law_ 487 = .ok (.aload_n 0, 1) := by decide +kernel
theorem dL_law__488 : decode cL_law_ 488 = .ok (.iload 4, 2) := by decide +kernel
theorem dL_law__490 : decode cL_law_ 490 = .ok (.iconst 1, 1) := by decide +kernel
theorem dL_law__491 : decode cL_law_ 491 = .ok (.iadd, 1) := by decide +kernel
theorem dL_law__492 : decode cL_law_ 492 = .ok (.iaload, 1) := by decide +kernel
theorem dL_law__493 : decode cL_law_ 493 = .ok (.invokevirtual 144, 3) := by decide +kernel
theorem dL_law__496 : decode cL_law_ 496 = .ok (.istore 6, 2) := by decide +kernel
theorem dL_law__498 : decode cL_law_ 498 = .ok (.aload_n 2, 1) := by decide +kernel
theorem dL_law__499 : decode cL_law_ 499 = .ok (.invokevirtual 132, 3) := by decide +kernel
theorem dL_law__502 : decode cL_law_ 502 = .ok (.iload 5, 2) := by decide +kernel
theorem dL_law__504 : decode cL_law_ 504 = .ok (.if_icmp .eq 5, 3) := by decide +kernel
theorem dL_law__507 : decode cL_law_ 507 = .ok (.iconst 0, 1) := by decide +kernel
theorem dL_law__508 : decode cL_law_ 508 = .ok (.ireturn, 1) := by decide +kernel
theorem dL_law__509 : decode cL_law_ 509 = .ok (.iload 5, 2) := by decide +kernel
theorem dL_law__511 : decode cL_law_ 511 = .ok (.ifCond .ne 15, 3) := by decide +kernel
theorem dL_law__514 : decode cL_law_ 514 = .ok (.aload_n 3, 1) := by decide +kernel
theorem dL_law__515 : decode cL_law_ 515 = .ok (.iconst 0, 1) := by decide +kernel
theorem dL_law__516 : decode cL_law_ 516 = .ok (.laload, 1) := by decide +kernel
theorem dL_law__517 : decode cL_law_ 517 = .ok (.iload 6, 2) := by decide +kernel
theorem dL_law__519 : decode cL_law_ 519 = .ok (.i2l, 1) := by decide +kernel
theorem dL_law__520 : decode cL_law_ 520 = .ok (.lcmp, 1) := by decide +kernel
theorem dL_law__521 : decode cL_law_ 521 = .ok (.ifCond .eq 5, 3) := by decide +kernel
theorem dL_law__524 : decode cL_law_ 524 = .ok (.iconst 0, 1) := by decide +kernel
theorem dL_law__525 : decode cL_law_ 525 = .ok (.ireturn, 1) := by decide +kernel
theorem dL_law__526 : decode cL_law_ 526 = .ok (.goto 2080, 3) := by decide +kernel
theorem dL_law__529 : decode cL_law_ 529 = .ok (.aload_n 1, 1) := by decide +kernel
theorem dL_law__530 : decode cL_law_ 530 = .ok (.invokevirtual 145, 3) := by decide +kernel
theorem dL_law__533 : decode cL_law_ 533 = .ok (.aload_n 2, 1) := by decide +kernel
theorem dL_law__534 : decode cL_law_ 534 = .ok (.invokevirtual 148, 3) := by decide +kernel
theorem dL_law__537 : decode cL_law_ 537 = .ok (.if_icmp .eq 2069, 3) := by decide +kernel
theorem dL_law__540 : decode cL_law_ 540 = .ok (.iconst 0, 1) := by decide +kernel
theorem dL_law__541 : decode cL_law_ 541 = .ok (.ireturn, 1) := by decide +kernel
theorem dL_law__542 : decode cL_law_ 542 = .ok (.aload_n 1, 1) := by decide +kernel
theorem dL_law__543 : decode cL_law_ 543 = .ok (.invokevirtual 149, 3) := by decide +kernel
theorem dL_law__546 : decode cL_law_ 546 = .ok (.aload_n 2, 1) := by decide +kernel
theorem dL_law__547 : decode cL_law_ 547 = .ok (.invokevirtual 152, 3) := by decide +kernel
theorem dL_law__550 : decode cL_law_ 550 = .ok (.if_icmp .eq 2056, 3) := by decide +kernel
theorem dL_law__553 : decode cL_law_ 553 = .ok (.iconst 0, 1) := by decide +kernel
theorem dL_law__554 : decode cL_law_ 554 = .ok (.ireturn, 1) := by decide +kernel
theorem dL_law__555 : decode cL_law_ 555 = .ok (.aload_n 1, 1) := by decide +kernel
theorem dL_law__556 : decode cL_law_ 556 = .ok (.aload_n 0, 1) := by decide +kernel
theorem dL_law__557 : decode cL_law_ 557 = .ok (.iload 4, 2) := by decide +kernel
theorem dL_law__559 : decode cL_law_ 559 = .ok (.iconst 1, 1) := by decide +kernel
theorem dL_law__560 : decode cL_law_ 560 = .ok (.iadd, 1) := by decide +kernel
theorem dL_law__561 : decode cL_law_ 561 = .ok (.iaload, 1) := by decide +kernel
theorem dL_law__562 : decode cL_law_ 562 = .ok (.aload_n 3, 1) := by decide +kernel
theorem dL_law__563 : decode cL_law_ 563 = .ok (.invokestatic 153, 3) := by decide +kernel
theorem dL_law__566 : decode cL_law_ 566 = .ok (.istore 5, 2) := by decide +kernel
theorem dL_law__568 : decode cL_law_ 568 = .ok (.aload_n 2, 1) := by decide +kernel
theorem dL_law__569 : decode cL_law_ 569 = .ok (.aload_n 0, 1) := by decide +kernel
theorem dL_law__570 : decode cL_law_ 570 = .ok (.iload 4, 2) := by decide +kernel
theorem dL_law__572 : decode cL_law_ 572 = .ok (.iconst 1, 1) := by decide +kernel
theorem dL_law__573 : decode cL_law_ 573 = .ok (.iadd, 1) := by decide +kernel
theorem dL_law__574 : decode cL_law_ 574 = .ok (.iaload, 1) := by decide +kernel
theorem dL_law__575 : decode cL_law_ 575 = .ok (.invokevirtual 155, 3) := by decide +kernel
theorem dL_law__578 : decode cL_law_ 578 = .ok (.istore 6, 2) := by decide +kernel
theorem dL_law__580 : decode cL_law_ 580 = .ok (.aload_n 2, 1) := by decide +kernel
theorem dL_law__581 : decode cL_law_ 581 = .ok (.invokevirtual 132, 3) := by decide +kernel
theorem dL_law__584 : decode cL_law_ 584 = .ok (.iload 5, 2) := by decide +kernel
theorem dL_law__586 : decode cL_law_ 586 = .ok (.if_icmp .eq 5, 3) := by decide +kernel
theorem dL_law__589 : decode cL_law_ 589 = .ok (.iconst 0, 1) := by decide +kernel
theorem dL_law__590 : decode cL_law_ 590 = .ok (.ireturn, 1) := by decide +kernel
theorem dL_law__591 : decode cL_law_ 591 = .ok (.iload 5, 2) := by decide +kernel
theorem dL_law__593 : decode cL_law_ 593 = .ok (.ifCond .ne 15, 3) := by decide +kernel
theorem dL_law__596 : decode cL_law_ 596 = .ok (.aload_n 3, 1) := by decide +kernel
theorem dL_law__597 : decode cL_law_ 597 = .ok (.iconst 0, 1) := by decide +kernel
theorem dL_law__598 : decode cL_law_ 598 = .ok (.laload, 1) := by decide +kernel
theorem dL_law__599 : decode cL_law_ 599 = .ok (.iload 6, 2) := by decide +kernel
theorem dL_law__601 : decode cL_law_ 601 = .ok (.i2l, 1) := by decide +kernel
theorem dL_law__602 : decode cL_law_ 602 = .ok (.lcmp, 1) := by decide +kernel
theorem dL_law__603 : decode cL_law_ 603 = .ok (.ifCond .eq 5, 3) := by decide +kernel
theorem dL_law__606 : decode cL_law_ 606 = .ok (.iconst 0, 1) := by decide +kernel
theorem dL_law__607 : decode cL_law_ 607 = .ok (.ireturn, 1) := by decide +kernel
theorem dL_law__608 : decode cL_law_ 608 = .ok (.goto 1998, 3) := by decide +kernel
theorem dL_law__611 : decode cL_law_ 611 = .ok (.aload_n 1, 1) := by decide +kernel
theorem dL_law__612 : decode cL_law_ 612 = .ok (.aload_n 0, 1) := by decide +kernel
theorem dL_law__613 : decode cL_law_ 613 = .ok (.iload 4, 2) := by decide +kernel
theorem dL_law__615 : decode cL_law_ 615 = .ok (.iconst 1, 1) := by decide +kernel
theorem dL_law__616 : decode cL_law_ 616 = .ok (.iadd, 1) := by decide +kernel
theorem dL_law__617 : decode cL_law_ 617 = .ok (.iaload, 1) := by decide +kernel
theorem dL_law__618 : decode cL_law_ 618 = .ok (.aload_n 0, 1) := by decide +kernel
theorem dL_law__619 : decode cL_law_ 619 = .ok (.iload 4, 2) := by decide +kernel
theorem dL_law__621 : decode cL_law_ 621 = .ok (.iconst 2, 1) := by decide +kernel
theorem dL_law__622 : decode cL_law_ 622 = .ok (.iadd, 1) := by decide +kernel
theorem dL_law__623 : decode cL_law_ 623 = .ok (.iaload, 1) := by decide +kernel
theorem dL_law__624 : decode cL_law_ 624 = .ok (.aload_n 3, 1) := by decide +kernel
theorem dL_law__625 : decode cL_law_ 625 = .ok (.invokestatic 156, 3) := by decide +kernel
theorem dL_law__628 : decode cL_law_ 628 = .ok (.istore 5, 2) := by decide +kernel
theorem dL_law__630 : decode cL_law_ 630 = .ok (.aload_n 2, 1) := by decide +kernel
theorem dL_law__631 : decode cL_law_ 631 = .ok (.aload_n 0, 1) := by decide +kernel
theorem dL_law__632 : decode cL_law_ 632 = .ok (.iload 4, 2) := by decide +kernel
theorem dL_law__634 : decode cL_law_ 634 = .ok (.iconst 1, 1) := by decide +kernel
theorem dL_law__635 : decode cL_law_ 635 = .ok (.iadd, 1) := by decide +kernel
theorem dL_law__636 : decode cL_law_ 636 = .ok (.iaload, 1) := by decide +kernel
theorem dL_law__637 : decode cL_law_ 637 = .ok (.aload_n 0, 1) := by decide +kernel
theorem dL_law__638 : decode cL_law_ 638 = .ok (.iload 4, 2) := by decide +kernel
theorem dL_law__640 : decode cL_law_ 640 = .ok (.iconst 2, 1) := by decide +kernel
theorem dL_law__641 : decode cL_law_ 641 = .ok (.iadd, 1) := by decide +kernel
theorem dL_law__642 : decode cL_law_ 642 = .ok (.iaload, 1) := by decide +kernel
theorem dL_law__643 : decode cL_law_ 643 = .ok (.invokevirtual 159, 3) := by decide +kernel
theorem dL_law__646 : decode cL_law_ 646 = .ok (.istore 6, 2) := by decide +kernel
theorem dL_law__648 : decode cL_law_ 648 = .ok (.aload_n 2, 1) := by decide +kernel
theorem dL_law__649 : decode cL_law_ 649 = .ok (.invokevirtual 132, 3) := by decide +kernel
theorem dL_law__652 : decode cL_law_ 652 = .ok (.iload 5, 2) := by decide +kernel
theorem dL_law__654 : decode cL_law_ 654 = .ok (.if_icmp .eq 5, 3) := by decide +kernel
theorem dL_law__657 : decode cL_law_ 657 = .ok (.iconst 0, 1) := by decide +kernel
theorem dL_law__658 : decode cL_law_ 658 = .ok (.ireturn, 1) := by decide +kernel
theorem dL_law__659 : decode cL_law_ 659 = .ok (.iload 5, 2) := by decide +kernel
theorem dL_law__661 : decode cL_law_ 661 = .ok (.ifCond .ne 15, 3) := by decide +kernel
theorem dL_law__664 : decode cL_law_ 664 = .ok (.aload_n 3, 1) := by decide +kernel
theorem dL_law__665 : decode cL_law_ 665 = .ok (.iconst 0, 1) := by decide +kernel
theorem dL_law__666 : decode cL_law_ 666 = .ok (.laload, 1) := by decide +kernel
theorem dL_law__667 : decode cL_law_ 667 = .ok (.iload 6, 2) := by decide +kernel
theorem dL_law__669 : decode cL_law_ 669 = .ok (.i2l, 1) := by decide +kernel
theorem dL_law__670 : decode cL_law_ 670 = .ok (.lcmp, 1) := by decide +kernel
theorem dL_law__671 : decode cL_law_ 671 = .ok (.ifCond .eq 5, 3) := by decide +kernel
theorem dL_law__674 : decode cL_law_ 674 = .ok (.iconst 0, 1) := by decide +kernel
theorem dL_law__675 : decode cL_law_ 675 = .ok (.ireturn, 1) := by decide +kernel
theorem dL_law__676 : decode cL_law_ 676 = .ok (.goto 1930, 3) := by decide +kernel
theorem dL_law__679 : decode cL_law_ 679 = .ok (.aload_n 1, 1) := by decide +kernel
theorem dL_law__680 : decode cL_law_ 680 = .ok (.aload_n 0, 1) := by decide +kernel
theorem dL_law__681 : decode cL_law_ 681 = .ok (.iload 4, 2) := by decide +kernel
theorem dL_law__683 : decode cL_law_ 683 = .ok (.iconst 1, 1) := by decide +kernel
theorem dL_law__684 : decode cL_law_ 684 = .ok (.iadd, 1) := by decide +kernel
theorem dL_law__685 : decode cL_law_ 685 = .ok (.iaload, 1) := by decide +kernel
theorem dL_law__686 : decode cL_law_ 686 = .ok (.aload_n 0, 1) := by decide +kernel
theorem dL_law__687 : decode cL_law_ 687 = .ok (.iload 4, 2) := by decide +kernel
theorem dL_law__689 : decode cL_law_ 689 = .ok (.iconst 2, 1) := by decide +kernel
theorem dL_law__690 : decode cL_law_ 690 = .ok (.iadd, 1) := by decide +kernel
theorem dL_law__691 : decode cL_law_ 691 = .ok (.iaload, 1) := by decide +kernel
theorem dL_law__692 : decode cL_law_ 692 = .ok (.aload_n 3, 1) := by decide +kernel
theorem dL_law__693 : decode cL_law_ 693 = .ok (.invokestatic 160, 3) := by decide +kernel
theorem dL_law__696 : decode cL_law_ 696 = .ok (.istore 5, 2) := by decide +kernel
theorem dL_law__698 : decode cL_law_ 698 = .ok (.aload_n 2, 1) := by decide +kernel
theorem dL_law__699 : decode cL_law_ 699 = .ok (.aload_n 0, 1) := by decide +kernel
theorem dL_law__700 : decode cL_law_ 700 = .ok (.iload 4, 2) := by decide +kernel
theorem dL_law__702 : decode cL_law_ 702 = .ok (.iconst 1, 1) := by decide +kernel
theorem dL_law__703 : decode cL_law_ 703 = .ok (.iadd, 1) := by decide +kernel
theorem dL_law__704 : decode cL_law_ 704 = .ok (.iaload, 1) := by decide +kernel
theorem dL_law__705 : decode cL_law_ 705 = .ok (.aload_n 0, 1) := by decide +kernel
theorem dL_law__706 : decode cL_law_ 706 = .ok (.iload 4, 2) := by decide +kernel
theorem dL_law__708 : decode cL_law_ 708 = .ok (.iconst 2, 1) := by decide +kernel
theorem dL_law__709 : decode cL_law_ 709 = .ok (.iadd, 1) := by decide +kernel
theorem dL_law__710 : decode cL_law_ 710 = .ok (.iaload, 1) := by decide +kernel
theorem dL_law__711 : decode cL_law_ 711 = .ok (.invokevirtual 162, 3) := by decide +kernel
theorem dL_law__714 : decode cL_law_ 714 = .ok (.istore 6, 2) := by decide +kernel
theorem dL_law__716 : decode cL_law_ 716 = .ok (.aload_n 2, 1) := by decide +kernel
theorem dL_law__717 : decode cL_law_ 717 = .ok (.invokevirtual 132, 3) := by decide +kernel
theorem dL_law__720 : decode cL_law_ 720 = .ok (.iload 5, 2) := by decide +kernel
theorem dL_law__722 : decode cL_law_ 722 = .ok (.if_icmp .eq 5, 3) := by decide +kernel
theorem dL_law__725 : decode cL_law_ 725 = .ok (.iconst 0, 1) := by decide +kernel
theorem dL_law__726 : decode cL_law_ 726 = .ok (.ireturn, 1) := by decide +kernel
theorem dL_law__727 : decode cL_law_ 727 = .ok (.iload 5, 2) := by decide +kernel
theorem dL_law__729 : decode cL_law_ 729 = .ok (.ifCond .ne 15, 3) := by decide +kernel
theorem dL_law__732 : decode cL_law_ 732 = .ok (.aload_n 3, 1) := by decide +kernel
theorem dL_law__733 : decode cL_law_ 733 = .ok (.iconst 0, 1) := by decide +kernel
theorem dL_law__734 : decode cL_law_ 734 = .ok (.laload, 1) := by decide +kernel
theorem dL_law__735 : decode cL_law_ 735 = .ok (.iload 6, 2) := by decide +kernel
theorem dL_law__737 : decode cL_law_ 737 = .ok (.i2l, 1) := by decide +kernel
theorem dL_law__738 : decode cL_law_ 738 = .ok (.lcmp, 1) := by decide +kernel
theorem dL_law__739 : decode cL_law_ 739 = .ok (.ifCond .eq 5, 3) := by decide +kernel
theorem dL_law__742 : decode cL_law_ 742 = .ok (.iconst 0, 1) := by decide +kernel
theorem dL_law__743 : decode cL_law_ 743 = .ok (.ireturn, 1) := by decide +kernel
theorem dL_law__744 : decode cL_law_ 744 = .ok (.goto 1862, 3) := by decide +kernel
theorem dL_law__747 : decode cL_law_ 747 = .ok (.aload_n 1, 1) := by decide +kernel
theorem dL_law__748 : decode cL_law_ 748 = .ok (.aload_n 0, 1) := by decide +kernel
theorem dL_law__749 : decode cL_law_ 749 = .ok (.iload 4, 2) := by decide +kernel
theorem dL_law__751 : decode cL_law_ 751 = .ok (.iconst 1, 1) := by decide +kernel
theorem dL_law__752 : decode cL_law_ 752 = .ok (.iadd, 1) := by decide +kernel
theorem dL_law__753 : decode cL_law_ 753 = .ok (.iaload, 1) := by decide +kernel
theorem dL_law__754 : decode cL_law_ 754 = .ok (.aload_n 0, 1) := by decide +kernel
theorem dL_law__755 : decode cL_law_ 755 = .ok (.iload 4, 2) := by decide +kernel
theorem dL_law__757 : decode cL_law_ 757 = .ok (.iconst 2, 1) := by decide +kernel
theorem dL_law__758 : decode cL_law_ 758 = .ok (.iadd, 1) := by decide +kernel
theorem dL_law__759 : decode cL_law_ 759 = .ok (.iaload, 1) := by decide +kernel
theorem dL_law__760 : decode cL_law_ 760 = .ok (.aload_n 3, 1) := by decide +kernel
theorem dL_law__761 : decode cL_law_ 761 = .ok (.invokestatic 163, 3) := by decide +kernel
theorem dL_law__764 : decode cL_law_ 764 = .ok (.istore 5, 2) := by decide +kernel
theorem dL_law__766 : decode cL_law_ 766 = .ok (.aload_n 2, 1) := by decide +kernel
theorem dL_law__767 : decode cL_law_ 767 = .ok (.aload_n 0, 1) := by decide +kernel
theorem dL_law__768 : decode cL_law_ 768 = .ok (.iload 4, 2) := by decide +kernel
theorem dL_law__770 : decode cL_law_ 770 = .ok (.iconst 1, 1) := by decide +kernel
theorem dL_law__771 : decode cL_law_ 771 = .ok (.iadd, 1) := by decide +kernel
theorem dL_law__772 : decode cL_law_ 772 = .ok (.iaload, 1) := by decide +kernel
theorem dL_law__773 : decode cL_law_ 773 = .ok (.aload_n 0, 1) := by decide +kernel
theorem dL_law__774 : decode cL_law_ 774 = .ok (.iload 4, 2) := by decide +kernel
theorem dL_law__776 : decode cL_law_ 776 = .ok (.iconst 2, 1) := by decide +kernel
theorem dL_law__777 : decode cL_law_ 777 = .ok (.iadd, 1) := by decide +kernel
theorem dL_law__778 : decode cL_law_ 778 = .ok (.iaload, 1) := by decide +kernel
theorem dL_law__779 : decode cL_law_ 779 = .ok (.invokevirtual 165, 3) := by decide +kernel
theorem dL_law__782 : decode cL_law_ 782 = .ok (.istore 6, 2) := by decide +kernel
theorem dL_law__784 : decode cL_law_ 784 = .ok (.aload_n 2, 1) := by decide +kernel
theorem dL_law__785 : decode cL_law_ 785 = .ok (.invokevirtual 132, 3) := by decide +kernel
theorem dL_law__788 : decode cL_law_ 788 = .ok (.iload 5, 2) := by decide +kernel
theorem dL_law__790 : decode cL_law_ 790 = .ok (.if_icmp .eq 5, 3) := by decide +kernel
theorem dL_law__793 : decode cL_law_ 793 = .ok (.iconst 0, 1) := by decide +kernel
theorem dL_law__794 : decode cL_law_ 794 = .ok (.ireturn, 1) := by decide +kernel
theorem dL_law__795 : decode cL_law_ 795 = .ok (.iload 5, 2) := by decide +kernel
theorem dL_law__797 : decode cL_law_ 797 = .ok (.ifCond .ne 15, 3) := by decide +kernel
theorem dL_law__800 : decode cL_law_ 800 = .ok (.aload_n 3, 1) := by decide +kernel
theorem dL_law__801 : decode cL_law_ 801 = .ok (.iconst 0, 1) := by decide +kernel
theorem dL_law__802 : decode cL_law_ 802 = .ok (.laload, 1) := by decide +kernel
theorem dL_law__803 : decode cL_law_ 803 = .ok (.iload 6, 2) := by decide +kernel
theorem dL_law__805 : decode cL_law_ 805 = .ok (.i2l, 1) := by decide +kernel
theorem dL_law__806 : decode cL_law_ 806 = .ok (.lcmp, 1) := by decide +kernel
theorem dL_law__807 : decode cL_law_ 807 = .ok (.ifCond .eq 5, 3) := by decide +kernel
theorem dL_law__810 : decode cL_law_ 810 = .ok (.iconst 0, 1) := by decide +kernel
theorem dL_law__811 : decode cL_law_ 811 = .ok (.ireturn, 1) := by decide +kernel
theorem dL_law__812 : decode cL_law_ 812 = .ok (.goto 1794, 3) := by decide +kernel
theorem dL_law__815 : decode cL_law_ 815 = .ok (.aload_n 1, 1) := by decide +kernel
theorem dL_law__816 : decode cL_law_ 816 = .ok (.aload_n 0, 1) := by decide +kernel
theorem dL_law__817 : decode cL_law_ 817 = .ok (.iload 4, 2) := by decide +kernel
theorem dL_law__819 : decode cL_law_ 819 = .ok (.iconst 1, 1) := by decide +kernel
theorem dL_law__820 : decode cL_law_ 820 = .ok (.iadd, 1) := by decide +kernel
theorem dL_law__821 : decode cL_law_ 821 = .ok (.iaload, 1) := by decide +kernel
theorem dL_law__822 : decode cL_law_ 822 = .ok (.aload_n 0, 1) := by decide +kernel
theorem dL_law__823 : decode cL_law_ 823 = .ok (.iload 4, 2) := by decide +kernel
theorem dL_law__825 : decode cL_law_ 825 = .ok (.iconst 2, 1) := by decide +kernel
theorem dL_law__826 : decode cL_law_ 826 = .ok (.iadd, 1) := by decide +kernel
theorem dL_law__827 : decode cL_law_ 827 = .ok (.iaload, 1) := by decide +kernel
theorem dL_law__828 : decode cL_law_ 828 = .ok (.aload_n 3, 1) := by decide +kernel
theorem dL_law__829 : decode cL_law_ 829 = .ok (.invokestatic 166, 3) := by decide +kernel
theorem dL_law__832 : decode cL_law_ 832 = .ok (.istore 5, 2) := by decide +kernel
theorem dL_law__834 : decode cL_law_ 834 = .ok (.aload_n 2, 1) := by decide +kernel
theorem dL_law__835 : decode cL_law_ 835 = .ok (.aload_n 0, 1) := by decide +kernel
theorem dL_law__836 : decode cL_law_ 836 = .ok (.iload 4, 2) := by decide +kernel
theorem dL_law__838 : decode cL_law_ 838 = .ok (.iconst 1, 1) := by decide +kernel
theorem dL_law__839 : decode cL_law_ 839 = .ok (.iadd, 1) := by decide +kernel
theorem dL_law__840 : decode cL_law_ 840 = .ok (.iaload, 1) := by decide +kernel
theorem dL_law__841 : decode cL_law_ 841 = .ok (.aload_n 0, 1) := by decide +kernel
theorem dL_law__842 : decode cL_law_ 842 = .ok (.iload 4, 2) := by decide +kernel
theorem dL_law__844 : decode cL_law_ 844 = .ok (.iconst 2, 1) := by decide +kernel
theorem dL_law__845 : decode cL_law_ 845 = .ok (.iadd, 1) := by decide +kernel
theorem dL_law__846 : decode cL_law_ 846 = .ok (.iaload, 1) := by decide +kernel
theorem dL_law__847 : decode cL_law_ 847 = .ok (.invokevirtual 168, 3) := by decide +kernel
theorem dL_law__850 : decode cL_law_ 850 = .ok (.istore 6, 2) := by decide +kernel
theorem dL_law__852 : decode cL_law_ 852 = .ok (.aload_n 2, 1) := by decide +kernel
theorem dL_law__853 : decode cL_law_ 853 = .ok (.invokevirtual 132, 3) := by decide +kernel
theorem dL_law__856 : decode cL_law_ 856 = .ok (.iload 5, 2) := by decide +kernel
theorem dL_law__858 : decode cL_law_ 858 = .ok (.if_icmp .eq 5, 3) := by decide +kernel
theorem dL_law__861 : decode cL_law_ 861 = .ok (.iconst 0, 1) := by decide +kernel
theorem dL_law__862 : decode cL_law_ 862 = .ok (.ireturn, 1) := by decide +kernel
theorem dL_law__863 : decode cL_law_ 863 = .ok (.iload 5, 2) := by decide +kernel
theorem dL_law__865 : decode cL_law_ 865 = .ok (.ifCond .ne 15, 3) := by decide +kernel
theorem dL_law__868 : decode cL_law_ 868 = .ok (.aload_n 3, 1) := by decide +kernel
theorem dL_law__869 : decode cL_law_ 869 = .ok (.iconst 0, 1) := by decide +kernel
theorem dL_law__870 : decode cL_law_ 870 = .ok (.laload, 1) := by decide +kernel
theorem dL_law__871 : decode cL_law_ 871 = .ok (.iload 6, 2) := by decide +kernel
theorem dL_law__873 : decode cL_law_ 873 = .ok (.i2l, 1) := by decide +kernel
theorem dL_law__874 : decode cL_law_ 874 = .ok (.lcmp, 1) := by decide +kernel
theorem dL_law__875 : decode cL_law_ 875 = .ok (.ifCond .eq 5, 3) := by decide +kernel
theorem dL_law__878 : decode cL_law_ 878 = .ok (.iconst 0, 1) := by decide +kernel
theorem dL_law__879 : decode cL_law_ 879 = .ok (.ireturn, 1) := by decide +kernel
theorem dL_law__880 : decode cL_law_ 880 = .ok (.goto 1726, 3) := by decide +kernel
theorem dL_law__883 : decode cL_law_ 883 = .ok (.aload_n 1, 1) := by decide +kernel
theorem dL_law__884 : decode cL_law_ 884 = .ok (.aload_n 0, 1) := by decide +kernel
theorem dL_law__885 : decode cL_law_ 885 = .ok (.iload 4, 2) := by decide +kernel
theorem dL_law__887 : decode cL_law_ 887 = .ok (.iconst 1, 1) := by decide +kernel
theorem dL_law__888 : decode cL_law_ 888 = .ok (.iadd, 1) := by decide +kernel
theorem dL_law__889 : decode cL_law_ 889 = .ok (.iaload, 1) := by decide +kernel
theorem dL_law__890 : decode cL_law_ 890 = .ok (.aload_n 0, 1) := by decide +kernel
theorem dL_law__891 : decode cL_law_ 891 = .ok (.iload 4, 2) := by decide +kernel
theorem dL_law__893 : decode cL_law_ 893 = .ok (.iconst 2, 1) := by decide +kernel
theorem dL_law__894 : decode cL_law_ 894 = .ok (.iadd, 1) := by decide +kernel
theorem dL_law__895 : decode cL_law_ 895 = .ok (.iaload, 1) := by decide +kernel
theorem dL_law__896 : decode cL_law_ 896 = .ok (.aload_n 0, 1) := by decide +kernel
theorem dL_law__897 : decode cL_law_ 897 = .ok (.iload 4, 2) := by decide +kernel
theorem dL_law__899 : decode cL_law_ 899 = .ok (.iconst 3, 1) := by decide +kernel
theorem dL_law__900 : decode cL_law_ 900 = .ok (.iadd, 1) := by decide +kernel
theorem dL_law__901 : decode cL_law_ 901 = .ok (.iaload, 1) := by decide +kernel
theorem dL_law__902 : decode cL_law_ 902 = .ok (.aload_n 0, 1) := by decide +kernel
theorem dL_law__903 : decode cL_law_ 903 = .ok (.iload 4, 2) := by decide +kernel
theorem dL_law__905 : decode cL_law_ 905 = .ok (.iconst 4, 1) := by decide +kernel
theorem dL_law__906 : decode cL_law_ 906 = .ok (.iadd, 1) := by decide +kernel
theorem dL_law__907 : decode cL_law_ 907 = .ok (.iaload, 1) := by decide +kernel
theorem dL_law__908 : decode cL_law_ 908 = .ok (.aload_n 0, 1) := by decide +kernel
theorem dL_law__909 : decode cL_law_ 909 = .ok (.iload 4, 2) := by decide +kernel
theorem dL_law__911 : decode cL_law_ 911 = .ok (.iconst 5, 1) := by decide +kernel
theorem dL_law__912 : decode cL_law_ 912 = .ok (.iadd, 1) := by decide +kernel
theorem dL_law__913 : decode cL_law_ 913 = .ok (.iaload, 1) := by decide +kernel
theorem dL_law__914 : decode cL_law_ 914 = .ok (.aload_n 0, 1) := by decide +kernel
theorem dL_law__915 : decode cL_law_ 915 = .ok (.iload 4, 2) := by decide +kernel
theorem dL_law__917 : decode cL_law_ 917 = .ok (.bipush 6, 2) := by decide +kernel
theorem dL_law__919 : decode cL_law_ 919 = .ok (.iadd, 1) := by decide +kernel
theorem dL_law__920 : decode cL_law_ 920 = .ok (.iaload, 1) := by decide +kernel
theorem dL_law__921 : decode cL_law_ 921 = .ok (.aload_n 0, 1) := by decide +kernel
theorem dL_law__922 : decode cL_law_ 922 = .ok (.iload 4, 2) := by decide +kernel
theorem dL_law__924 : decode cL_law_ 924 = .ok (.bipush 7, 2) := by decide +kernel
theorem dL_law__926 : decode cL_law_ 926 = .ok (.iadd, 1) := by decide +kernel
theorem dL_law__927 : decode cL_law_ 927 = .ok (.iaload, 1) := by decide +kernel
theorem dL_law__928 : decode cL_law_ 928 = .ok (.aload_n 0, 1) := by decide +kernel
theorem dL_law__929 : decode cL_law_ 929 = .ok (.iload 4, 2) := by decide +kernel
theorem dL_law__931 : decode cL_law_ 931 = .ok (.bipush 8, 2) := by decide +kernel
theorem dL_law__933 : decode cL_law_ 933 = .ok (.iadd, 1) := by decide +kernel
theorem dL_law__934 : decode cL_law_ 934 = .ok (.iaload, 1) := by decide +kernel
theorem dL_law__935 : decode cL_law_ 935 = .ok (.aload_n 3, 1) := by decide +kernel
theorem dL_law__936 : decode cL_law_ 936 = .ok (.invokestatic 169, 3) := by decide +kernel
theorem dL_law__939 : decode cL_law_ 939 = .ok (.istore 5, 2) := by decide +kernel
theorem dL_law__941 : decode cL_law_ 941 = .ok (.aload_n 2, 1) := by decide +kernel
theorem dL_law__942 : decode cL_law_ 942 = .ok (.aload_n 0, 1) := by decide +kernel
theorem dL_law__943 : decode cL_law_ 943 = .ok (.iload 4, 2) := by decide +kernel
theorem dL_law__945 : decode cL_law_ 945 = .ok (.iconst 1, 1) := by decide +kernel
theorem dL_law__946 : decode cL_law_ 946 = .ok (.iadd, 1) := by decide +kernel
theorem dL_law__947 : decode cL_law_ 947 = .ok (.iaload, 1) := by decide +kernel
theorem dL_law__948 : decode cL_law_ 948 = .ok (.aload_n 0, 1) := by decide +kernel
theorem dL_law__949 : decode cL_law_ 949 = .ok (.iload 4, 2) := by decide +kernel
theorem dL_law__951 : decode cL_law_ 951 = .ok (.iconst 2, 1) := by decide +kernel
theorem dL_law__952 : decode cL_law_ 952 = .ok (.iadd, 1) := by decide +kernel
theorem dL_law__953 : decode cL_law_ 953 = .ok (.iaload, 1) := by decide +kernel
theorem dL_law__954 : decode cL_law_ 954 = .ok (.aload_n 0, 1) := by decide +kernel
theorem dL_law__955 : decode cL_law_ 955 = .ok (.iload 4, 2) := by decide +kernel
theorem dL_law__957 : decode cL_law_ 957 = .ok (.iconst 3, 1) := by decide +kernel
theorem dL_law__958 : decode cL_law_ 958 = .ok (.iadd, 1) := by decide +kernel
theorem dL_law__959 : decode cL_law_ 959 = .ok (.iaload, 1) := by decide +kernel
theorem dL_law__960 : decode cL_law_ 960 = .ok (.aload_n 0, 1) := by decide +kernel
theorem dL_law__961 : decode cL_law_ 961 = .ok (.iload 4, 2) := by decide +kernel
theorem dL_law__963 : decode cL_law_ 963 = .ok (.iconst 4, 1) := by decide +kernel
theorem dL_law__964 : decode cL_law_ 964 = .ok (.iadd, 1) := by decide +kernel
theorem dL_law__965 : decode cL_law_ 965 = .ok (.iaload, 1) := by decide +kernel
theorem dL_law__966 : decode cL_law_ 966 = .ok (.aload_n 0, 1) := by decide +kernel
theorem dL_law__967 : decode cL_law_ 967 = .ok (.iload 4, 2) := by decide +kernel
theorem dL_law__969 : decode cL_law_ 969 = .ok (.iconst 5, 1) := by decide +kernel
theorem dL_law__970 : decode cL_law_ 970 = .ok (.iadd, 1) := by decide +kernel
theorem dL_law__971 : decode cL_law_ 971 = .ok (.iaload, 1) := by decide +kernel
theorem dL_law__972 : decode cL_law_ 972 = .ok (.aload_n 0, 1) := by decide +kernel
theorem dL_law__973 : decode cL_law_ 973 = .ok (.iload 4, 2) := by decide +kernel
theorem dL_law__975 : decode cL_law_ 975 = .ok (.bipush 6, 2) := by decide +kernel
theorem dL_law__977 : decode cL_law_ 977 = .ok (.iadd, 1) := by decide +kernel
theorem dL_law__978 : decode cL_law_ 978 = .ok (.iaload, 1) := by decide +kernel
theorem dL_law__979 : decode cL_law_ 979 = .ok (.aload_n 0, 1) := by decide +kernel
theorem dL_law__980 : decode cL_law_ 980 = .ok (.iload 4, 2) := by decide +kernel
theorem dL_law__982 : decode cL_law_ 982 = .ok (.bipush 7, 2) := by decide +kernel
theorem dL_law__984 : decode cL_law_ 984 = .ok (.iadd, 1) := by decide +kernel
theorem dL_law__985 : decode cL_law_ 985 = .ok (.iaload, 1) := by decide +kernel
theorem dL_law__986 : decode cL_law_ 986 = .ok (.aload_n 0, 1) := by decide +kernel
theorem dL_law__987 : decode cL_law_ 987 = .ok (.iload 4, 2) := by decide +kernel
theorem dL_law__989 : decode cL_law_ 989 = .ok (.bipush 8, 2) := by decide +kernel
theorem dL_law__991 : decode cL_law_ 991 = .ok (.iadd, 1) := by decide +kernel
theorem dL_law__992 : decode cL_law_ 992 = .ok (.iaload, 1) := by decide +kernel
theorem dL_law__993 : decode cL_law_ 993 = .ok (.invokevirtual 172, 3) := by decide +kernel
theorem dL_law__996 : decode cL_law_ 996 = .ok (.istore 6, 2) := by decide +kernel
theorem dL_law__998 : decode cL_law_ 998 = .ok (.aload_n 2, 1) := by decide +kernel
theorem dL_law__999 : decode cL_law_ 999 = .ok (.invokevirtual 132, 3) := by decide +kernel
theorem dL_law__1002 : decode cL_law_ 1002 = .ok (.iload 5, 2) := by decide +kernel
theorem dL_law__1004 : decode cL_law_ 1004 = .ok (.if_icmp .eq 5, 3) := by decide +kernel
theorem dL_law__1007 : decode cL_law_ 1007 = .ok (.iconst 0, 1) := by decide +kernel
theorem dL_law__1008 : decode cL_law_ 1008 = .ok (.ireturn, 1) := by decide +kernel
theorem dL_law__1009 : decode cL_law_ 1009 = .ok (.iload 5, 2) := by decide +kernel
theorem dL_law__1011 : decode cL_law_ 1011 = .ok (.ifCond .ne 15, 3) := by decide +kernel
theorem dL_law__1014 : decode cL_law_ 1014 = .ok (.aload_n 3, 1) := by decide +kernel
theorem dL_law__1015 : decode cL_law_ 1015 = .ok (.iconst 0, 1) := by decide +kernel
theorem dL_law__1016 : decode cL_law_ 1016 = .ok (.laload, 1) := by decide +kernel
theorem dL_law__1017 : decode cL_law_ 1017 = .ok (.iload 6, 2) := by decide +kernel
theorem dL_law__1019 : decode cL_law_ 1019 = .ok (.i2l, 1) := by decide +kernel
theorem dL_law__1020 : decode cL_law_ 1020 = .ok (.lcmp, 1) := by decide +kernel
theorem dL_law__1021 : decode cL_law_ 1021 = .ok (.ifCond .eq 5, 3) := by decide +kernel
theorem dL_law__1024 : decode cL_law_ 1024 = .ok (.iconst 0, 1) := by decide +kernel
theorem dL_law__1025 : decode cL_law_ 1025 = .ok (.ireturn, 1) := by decide +kernel
theorem dL_law__1026 : decode cL_law_ 1026 = .ok (.goto 1580, 3) := by decide +kernel
theorem dL_law__1029 : decode cL_law_ 1029 = .ok (.aload_n 1, 1) := by decide +kernel
theorem dL_law__1030 : decode cL_law_ 1030 = .ok (.aload_n 0, 1) := by decide +kernel
theorem dL_law__1031 : decode cL_law_ 1031 = .ok (.iload 4, 2) := by decide +kernel
theorem dL_law__1033 : decode cL_law_ 1033 = .ok (.iconst 1, 1) := by decide +kernel
theorem dL_law__1034 : decode cL_law_ 1034 = .ok (.iadd, 1) := by decide +kernel
theorem dL_law__1035 : decode cL_law_ 1035 = .ok (.iaload, 1) := by decide +kernel
theorem dL_law__1036 : decode cL_law_ 1036 = .ok (.aload_n 0, 1) := by decide +kernel
theorem dL_law__1037 : decode cL_law_ 1037 = .ok (.iload 4, 2) := by decide +kernel
theorem dL_law__1039 : decode cL_law_ 1039 = .ok (.iconst 2, 1) := by decide +kernel
theorem dL_law__1040 : decode cL_law_ 1040 = .ok (.iadd, 1) := by decide +kernel
theorem dL_law__1041 : decode cL_law_ 1041 = .ok (.iaload, 1) := by decide +kernel
theorem dL_law__1042 : decode cL_law_ 1042 = .ok (.aload_n 3, 1) := by decide +kernel
theorem dL_law__1043 : decode cL_law_ 1043 = .ok (.invokestatic 173, 3) := by decide +kernel
theorem dL_law__1046 : decode cL_law_ 1046 = .ok (.istore 5, 2) := by decide +kernel
theorem dL_law__1048 : decode cL_law_ 1048 = .ok (.aload_n 2, 1) := by decide +kernel
theorem dL_law__1049 : decode cL_law_ 1049 = .ok (.aload_n 0, 1) := by decide +kernel
theorem dL_law__1050 : decode cL_law_ 1050 = .ok (.iload 4, 2) := by decide +kernel
theorem dL_law__1052 : decode cL_law_ 1052 = .ok (.iconst 1, 1) := by decide +kernel
theorem dL_law__1053 : decode cL_law_ 1053 = .ok (.iadd, 1) := by decide +kernel
theorem dL_law__1054 : decode cL_law_ 1054 = .ok (.iaload, 1) := by decide +kernel
theorem dL_law__1055 : decode cL_law_ 1055 = .ok (.aload_n 0, 1) := by decide +kernel
theorem dL_law__1056 : decode cL_law_ 1056 = .ok (.iload 4, 2) := by decide +kernel
theorem dL_law__1058 : decode cL_law_ 1058 = .ok (.iconst 2, 1) := by decide +kernel
theorem dL_law__1059 : decode cL_law_ 1059 = .ok (.iadd, 1) := by decide +kernel
theorem dL_law__1060 : decode cL_law_ 1060 = .ok (.iaload, 1) := by decide +kernel
theorem dL_law__1061 : decode cL_law_ 1061 = .ok (.invokevirtual 175, 3) := by decide +kernel
theorem dL_law__1064 : decode cL_law_ 1064 = .ok (.istore 6, 2) := by decide +kernel
theorem dL_law__1066 : decode cL_law_ 1066 = .ok (.aload_n 2, 1) := by decide +kernel
theorem dL_law__1067 : decode cL_law_ 1067 = .ok (.invokevirtual 132, 3) := by decide +kernel
theorem dL_law__1070 : decode cL_law_ 1070 = .ok (.iload 5, 2) := by decide +kernel
theorem dL_law__1072 : decode cL_law_ 1072 = .ok (.if_icmp .eq 5, 3) := by decide +kernel
theorem dL_law__1075 : decode cL_law_ 1075 = .ok (.iconst 0, 1) := by decide +kernel
theorem dL_law__1076 : decode cL_law_ 1076 = .ok (.ireturn, 1) := by decide +kernel
theorem dL_law__1077 : decode cL_law_ 1077 = .ok (.iload 5, 2) := by decide +kernel
theorem dL_law__1079 : decode cL_law_ 1079 = .ok (.ifCond .ne 15, 3) := by decide +kernel
theorem dL_law__1082 : decode cL_law_ 1082 = .ok (.aload_n 3, 1) := by decide +kernel
theorem dL_law__1083 : decode cL_law_ 1083 = .ok (.iconst 0, 1) := by decide +kernel
theorem dL_law__1084 : decode cL_law_ 1084 = .ok (.laload, 1) := by decide +kernel
theorem dL_law__1085 : decode cL_law_ 1085 = .ok (.iload 6, 2) := by decide +kernel
theorem dL_law__1087 : decode cL_law_ 1087 = .ok (.i2l, 1) := by decide +kernel
theorem dL_law__1088 : decode cL_law_ 1088 = .ok (.lcmp, 1) := by decide +kernel
theorem dL_law__1089 : decode cL_law_ 1089 = .ok (.ifCond .eq 5, 3) := by decide +kernel
theorem dL_law__1092 : decode cL_law_ 1092 = .ok (.iconst 0, 1) := by decide +kernel
theorem dL_law__1093 : decode cL_law_ 1093 = .ok (.ireturn, 1) := by decide +kernel
theorem dL_law__1094 : decode cL_law_ 1094 = .ok (.goto 1512, 3) := by decide +kernel
theorem dL_law__1097 : decode cL_law_ 1097 = .ok (.aload_n 1, 1) := by decide +kernel
theorem dL_law__1098 : decode cL_law_ 1098 = .ok (.invokevirtual 176, 3) := by decide +kernel
theorem dL_law__1101 : decode cL_law_ 1101 = .ok (.aload_n 2, 1) := by decide +kernel
theorem dL_law__1102 : decode cL_law_ 1102 = .ok (.invokevirtual 179, 3) := by decide +kernel
theorem dL_law__1105 : decode cL_law_ 1105 = .ok (.if_icmp .eq 1501, 3) := by decide +kernel
theorem dL_law__1108 : decode cL_law_ 1108 = .ok (.iconst 0, 1) := by decide +kernel
theorem dL_law__1109 : decode cL_law_ 1109 = .ok (.ireturn, 1) := by decide +kernel
theorem dL_law__1110 : decode cL_law_ 1110 = .ok (.aload_n 1, 1) := by decide +kernel
theorem dL_law__1111 : decode cL_law_ 1111 = .ok (.aload_n 0, 1) := by decide +kernel
theorem dL_law__1112 : decode cL_law_ 1112 = .ok (.iload 4, 2) := by decide +kernel
theorem dL_law__1114 : decode cL_law_ 1114 = .ok (.iconst 1, 1) := by decide +kernel
theorem dL_law__1115 : decode cL_law_ 1115 = .ok (.iadd, 1) := by decide +kernel
theorem dL_law__1116 : decode cL_law_ 1116 = .ok (.iaload, 1) := by decide +kernel
theorem dL_law__1117 : decode cL_law_ 1117 = .ok (.aload_n 0, 1) := by decide +kernel
theorem dL_law__1118 : decode cL_law_ 1118 = .ok (.iload 4, 2) := by decide +kernel
theorem dL_law__1120 : decode cL_law_ 1120 = .ok (.iconst 2, 1) := by decide +kernel
theorem dL_law__1121 : decode cL_law_ 1121 = .ok (.iadd, 1) := by decide +kernel
theorem dL_law__1122 : decode cL_law_ 1122 = .ok (.iaload, 1) := by decide +kernel
theorem dL_law__1123 : decode cL_law_ 1123 = .ok (.aload_n 3, 1) := by decide +kernel
theorem dL_law__1124 : decode cL_law_ 1124 = .ok (.invokestatic 180, 3) := by decide +kernel
theorem dL_law__1127 : decode cL_law_ 1127 = .ok (.istore 5, 2) := by decide +kernel
theorem dL_law__1129 : decode cL_law_ 1129 = .ok (.aload_n 2, 1) := by decide +kernel
theorem dL_law__1130 : decode cL_law_ 1130 = .ok (.aload_n 0, 1) := by decide +kernel
theorem dL_law__1131 : decode cL_law_ 1131 = .ok (.iload 4, 2) := by decide +kernel
theorem dL_law__1133 : decode cL_law_ 1133 = .ok (.iconst 1, 1) := by decide +kernel
theorem dL_law__1134 : decode cL_law_ 1134 = .ok (.iadd, 1) := by decide +kernel
theorem dL_law__1135 : decode cL_law_ 1135 = .ok (.iaload, 1) := by decide +kernel
theorem dL_law__1136 : decode cL_law_ 1136 = .ok (.aload_n 0, 1) := by decide +kernel
theorem dL_law__1137 : decode cL_law_ 1137 = .ok (.iload 4, 2) := by decide +kernel
theorem dL_law__1139 : decode cL_law_ 1139 = .ok (.iconst 2, 1) := by decide +kernel
theorem dL_law__1140 : decode cL_law_ 1140 = .ok (.iadd, 1) := by decide +kernel
theorem dL_law__1141 : decode cL_law_ 1141 = .ok (.iaload, 1) := by decide +kernel
theorem dL_law__1142 : decode cL_law_ 1142 = .ok (.invokevirtual 182, 3) := by decide +kernel
theorem dL_law__1145 : decode cL_law_ 1145 = .ok (.istore 6, 2) := by decide +kernel
theorem dL_law__1147 : decode cL_law_ 1147 = .ok (.aload_n 2, 1) := by decide +kernel
theorem dL_law__1148 : decode cL_law_ 1148 = .ok (.invokevirtual 132, 3) := by decide +kernel
theorem dL_law__1151 : decode cL_law_ 1151 = .ok (.iload 5, 2) := by decide +kernel
theorem dL_law__1153 : decode cL_law_ 1153 = .ok (.if_icmp .eq 5, 3) := by decide +kernel
theorem dL_law__1156 : decode cL_law_ 1156 = .ok (.iconst 0, 1) := by decide +kernel
theorem dL_law__1157 : decode cL_law_ 1157 = .ok (.ireturn, 1) := by decide +kernel
theorem dL_law__1158 : decode cL_law_ 1158 = .ok (.iload 5, 2) := by decide +kernel
theorem dL_law__1160 : decode cL_law_ 1160 = .ok (.ifCond .ne 15, 3) := by decide +kernel
theorem dL_law__1163 : decode cL_law_ 1163 = .ok (.aload_n 3, 1) := by decide +kernel
theorem dL_law__1164 : decode cL_law_ 1164 = .ok (.iconst 0, 1) := by decide +kernel
theorem dL_law__1165 : decode cL_law_ 1165 = .ok (.laload, 1) := by decide +kernel
theorem dL_law__1166 : decode cL_law_ 1166 = .ok (.iload 6, 2) := by decide +kernel
theorem dL_law__1168 : decode cL_law_ 1168 = .ok (.i2l, 1) := by decide +kernel
theorem dL_law__1169 : decode cL_law_ 1169 = .ok (.lcmp, 1) := by decide +kernel
theorem dL_law__1170 : decode cL_law_ 1170 = .ok (.ifCond .eq 5, 3) := by decide +kernel
theorem dL_law__1173 : decode cL_law_ 1173 = .ok (.iconst 0, 1) := by decide +kernel
theorem dL_law__1174 : decode cL_law_ 1174 = .ok (.ireturn, 1) := by decide +kernel
theorem dL_law__1175 : decode cL_law_ 1175 = .ok (.goto 1431, 3) := by decide +kernel
theorem dL_law__1178 : decode cL_law_ 1178 = .ok (.aload_n 1, 1) := by decide +kernel
theorem dL_law__1179 : decode cL_law_ 1179 = .ok (.invokevirtual 183, 3) := by decide +kernel
theorem dL_law__1182 : decode cL_law_ 1182 = .ok (.aload_n 2, 1) := by decide +kernel
theorem dL_law__1183 : decode cL_law_ 1183 = .ok (.invokevirtual 186, 3) := by decide +kernel
theorem dL_law__1186 : decode cL_law_ 1186 = .ok (.if_icmp .eq 1420, 3) := by decide +kernel
theorem dL_law__1189 : decode cL_law_ 1189 = .ok (.iconst 0, 1) := by decide +kernel
theorem dL_law__1190 : decode cL_law_ 1190 = .ok (.ireturn, 1) := by decide +kernel
theorem dL_law__1191 : decode cL_law_ 1191 = .ok (.aload_n 1, 1) := by decide +kernel
theorem dL_law__1192 : decode cL_law_ 1192 = .ok (.aload_n 0, 1) := by decide +kernel
theorem dL_law__1193 : decode cL_law_ 1193 = .ok (.iload 4, 2) := by decide +kernel
theorem dL_law__1195 : decode cL_law_ 1195 = .ok (.iconst 1, 1) := by decide +kernel
theorem dL_law__1196 : decode cL_law_ 1196 = .ok (.iadd, 1) := by decide +kernel
theorem dL_law__1197 : decode cL_law_ 1197 = .ok (.iaload, 1) := by decide +kernel
theorem dL_law__1198 : decode cL_law_ 1198 = .ok (.aload_n 3, 1) := by decide +kernel
theorem dL_law__1199 : decode cL_law_ 1199 = .ok (.invokestatic 187, 3) := by decide +kernel
theorem dL_law__1202 : decode cL_law_ 1202 = .ok (.istore 5, 2) := by decide +kernel
theorem dL_law__1204 : decode cL_law_ 1204 = .ok (.aload_n 2, 1) := by decide +kernel
theorem dL_law__1205 : decode cL_law_ 1205 = .ok (.aload_n 0, 1) := by decide +kernel
theorem dL_law__1206 : decode cL_law_ 1206 = .ok (.iload 4, 2) := by decide +kernel
theorem dL_law__1208 : decode cL_law_ 1208 = .ok (.iconst 1, 1) := by decide +kernel
theorem dL_law__1209 : decode cL_law_ 1209 = .ok (.iadd, 1) := by decide +kernel
theorem dL_law__1210 : decode cL_law_ 1210 = .ok (.iaload, 1) := by decide +kernel
theorem dL_law__1211 : decode cL_law_ 1211 = .ok (.invokevirtual 189, 3) := by decide +kernel
theorem dL_law__1214 : decode cL_law_ 1214 = .ok (.istore 6, 2) := by decide +kernel
theorem dL_law__1216 : decode cL_law_ 1216 = .ok (.aload_n 2, 1) := by decide +kernel
theorem dL_law__1217 : decode cL_law_ 1217 = .ok (.invokevirtual 132, 3) := by decide +kernel
theorem dL_law__1220 : decode cL_law_ 1220 = .ok (.iload 5, 2) := by decide +kernel
theorem dL_law__1222 : decode cL_law_ 1222 = .ok (.if_icmp .eq 5, 3) := by decide +kernel
theorem dL_law__1225 : decode cL_law_ 1225 = .ok (.iconst 0, 1) := by decide +kernel
theorem dL_law__1226 : decode cL_law_ 1226 = .ok (.ireturn, 1) := by decide +kernel
theorem dL_law__1227 : decode cL_law_ 1227 = .ok (.iload 5, 2) := by decide +kernel
theorem dL_law__1229 : decode cL_law_ 1229 = .ok (.ifCond .ne 15, 3) := by decide +kernel
theorem dL_law__1232 : decode cL_law_ 1232 = .ok (.aload_n 3, 1) := by decide +kernel
theorem dL_law__1233 : decode cL_law_ 1233 = .ok (.iconst 0, 1) := by decide +kernel
theorem dL_law__1234 : decode cL_law_ 1234 = .ok (.laload, 1) := by decide +kernel
theorem dL_law__1235 : decode cL_law_ 1235 = .ok (.iload 6, 2) := by decide +kernel
theorem dL_law__1237 : decode cL_law_ 1237 = .ok (.i2l, 1) := by decide +kernel
theorem dL_law__1238 : decode cL_law_ 1238 = .ok (.lcmp, 1) := by decide +kernel
theorem dL_law__1239 : decode cL_law_ 1239 = .ok (.ifCond .eq 5, 3) := by decide +kernel
theorem dL_law__1242 : decode cL_law_ 1242 = .ok (.iconst 0, 1) := by decide +kernel
theorem dL_law__1243 : decode cL_law_ 1243 = .ok (.ireturn, 1) := by decide +kernel
theorem dL_law__1244 : decode cL_law_ 1244 = .ok (.goto 1362, 3) := by decide +kernel
theorem dL_law__1247 : decode cL_law_ 1247 = .ok (.aload_n 1, 1) := by decide +kernel
theorem dL_law__1248 : decode cL_law_ 1248 = .ok (.invokevirtual 190, 3) := by decide +kernel
theorem dL_law__1251 : decode cL_law_ 1251 = .ok (.aload_n 2, 1) := by decide +kernel
theorem dL_law__1252 : decode cL_law_ 1252 = .ok (.invokevirtual 193, 3) := by decide +kernel
theorem dL_law__1255 : decode cL_law_ 1255 = .ok (.if_icmp .eq 1351, 3) := by decide +kernel
theorem dL_law__1258 : decode cL_law_ 1258 = .ok (.iconst 0, 1) := by decide +kernel
theorem dL_law__1259 : decode cL_law_ 1259 = .ok (.ireturn, 1) := by decide +kernel
theorem dL_law__1260 : decode cL_law_ 1260 = .ok (.aload_n 1, 1) := by decide +kernel
theorem dL_law__1261 : decode cL_law_ 1261 = .ok (.aload_n 0, 1) := by decide +kernel
theorem dL_law__1262 : decode cL_law_ 1262 = .ok (.iload 4, 2) := by decide +kernel
theorem dL_law__1264 : decode cL_law_ 1264 = .ok (.iconst 1, 1) := by decide +kernel
theorem dL_law__1265 : decode cL_law_ 1265 = .ok (.iadd, 1) := by decide +kernel
theorem dL_law__1266 : decode cL_law_ 1266 = .ok (.iaload, 1) := by decide +kernel
theorem dL_law__1267 : decode cL_law_ 1267 = .ok (.aload_n 3, 1) := by decide +kernel
theorem dL_law__1268 : decode cL_law_ 1268 = .ok (.invokestatic 194, 3) := by decide +kernel
theorem dL_law__1271 : decode cL_law_ 1271 = .ok (.istore 5, 2) := by decide +kernel
theorem dL_law__1273 : decode cL_law_ 1273 = .ok (.aload_n 2, 1) := by decide +kernel
theorem dL_law__1274 : decode cL_law_ 1274 = .ok (.aload_n 0, 1) := by decide +kernel
theorem dL_law__1275 : decode cL_law_ 1275 = .ok (.iload 4, 2) := by decide +kernel
theorem dL_law__1277 : decode cL_law_ 1277 = .ok (.iconst 1, 1) := by decide +kernel
theorem dL_law__1278 : decode cL_law_ 1278 = .ok (.iadd, 1) := by decide +kernel
theorem dL_law__1279 : decode cL_law_ 1279 = .ok (.iaload, 1) := by decide +kernel
theorem dL_law__1280 : decode cL_law_ 1280 = .ok (.invokevirtual 196, 3) := by decide +kernel
theorem dL_law__1283 : decode cL_law_ 1283 = .ok (.lstore 6, 2) := by decide +kernel
theorem dL_law__1285 : decode cL_law_ 1285 = .ok (.aload_n 2, 1) := by decide +kernel
theorem dL_law__1286 : decode cL_law_ 1286 = .ok (.invokevirtual 132, 3) := by decide +kernel
theorem dL_law__1289 : decode cL_law_ 1289 = .ok (.iload 5, 2) := by decide +kernel
theorem dL_law__1291 : decode cL_law_ 1291 = .ok (.if_icmp .eq 5, 3) := by decide +kernel
theorem dL_law__1294 : decode cL_law_ 1294 = .ok (.iconst 0, 1) := by decide +kernel
theorem dL_law__1295 : decode cL_law_ 1295 = .ok (.ireturn, 1) := by decide +kernel
theorem dL_law__1296 : decode cL_law_ 1296 = .ok (.iload 5, 2) := by decide +kernel
theorem dL_law__1298 : decode cL_law_ 1298 = .ok (.ifCond .ne 14, 3) := by decide +kernel
theorem dL_law__1301 : decode cL_law_ 1301 = .ok (.aload_n 3, 1) := by decide +kernel
theorem dL_law__1302 : decode cL_law_ 1302 = .ok (.iconst 0, 1) := by decide +kernel
theorem dL_law__1303 : decode cL_law_ 1303 = .ok (.laload, 1) := by decide +kernel
theorem dL_law__1304 : decode cL_law_ 1304 = .ok (.lload 6, 2) := by decide +kernel
theorem dL_law__1306 : decode cL_law_ 1306 = .ok (.lcmp, 1) := by decide +kernel
theorem dL_law__1307 : decode cL_law_ 1307 = .ok (.ifCond .eq 5, 3) := by decide +kernel
theorem dL_law__1310 : decode cL_law_ 1310 = .ok (.iconst 0, 1) := by decide +kernel
theorem dL_law__1311 : decode cL_law_ 1311 = .ok (.ireturn, 1) := by decide +kernel
theorem dL_law__1312 : decode cL_law_ 1312 = .ok (.goto 1294, 3) := by decide +kernel
theorem dL_law__1315 : decode cL_law_ 1315 = .ok (.aload_n 1, 1) := by decide +kernel
theorem dL_law__1316 : decode cL_law_ 1316 = .ok (.aload_n 0, 1) := by decide +kernel
theorem dL_law__1317 : decode cL_law_ 1317 = .ok (.iload 4, 2) := by decide +kernel
theorem dL_law__1319 : decode cL_law_ 1319 = .ok (.iconst 1, 1) := by decide +kernel
theorem dL_law__1320 : decode cL_law_ 1320 = .ok (.iadd, 1) := by decide +kernel
theorem dL_law__1321 : decode cL_law_ 1321 = .ok (.iaload, 1) := by decide +kernel
theorem dL_law__1322 : decode cL_law_ 1322 = .ok (.aload_n 3, 1) := by decide +kernel
theorem dL_law__1323 : decode cL_law_ 1323 = .ok (.invokestatic 197, 3) := by decide +kernel
theorem dL_law__1326 : decode cL_law_ 1326 = .ok (.istore 5, 2) := by decide +kernel
theorem dL_law__1328 : decode cL_law_ 1328 = .ok (.aload_n 2, 1) := by decide +kernel
theorem dL_law__1329 : decode cL_law_ 1329 = .ok (.aload_n 0, 1) := by decide +kernel
theorem dL_law__1330 : decode cL_law_ 1330 = .ok (.iload 4, 2) := by decide +kernel
theorem dL_law__1332 : decode cL_law_ 1332 = .ok (.iconst 1, 1) := by decide +kernel
theorem dL_law__1333 : decode cL_law_ 1333 = .ok (.iadd, 1) := by decide +kernel
theorem dL_law__1334 : decode cL_law_ 1334 = .ok (.iaload, 1) := by decide +kernel
theorem dL_law__1335 : decode cL_law_ 1335 = .ok (.invokevirtual 199, 3) := by decide +kernel
theorem dL_law__1338 : decode cL_law_ 1338 = .ok (.istore 6, 2) := by decide +kernel
theorem dL_law__1340 : decode cL_law_ 1340 = .ok (.aload_n 2, 1) := by decide +kernel
theorem dL_law__1341 : decode cL_law_ 1341 = .ok (.invokevirtual 132, 3) := by decide +kernel
theorem dL_law__1344 : decode cL_law_ 1344 = .ok (.iload 5, 2) := by decide +kernel
theorem dL_law__1346 : decode cL_law_ 1346 = .ok (.if_icmp .eq 5, 3) := by decide +kernel
theorem dL_law__1349 : decode cL_law_ 1349 = .ok (.iconst 0, 1) := by decide +kernel
theorem dL_law__1350 : decode cL_law_ 1350 = .ok (.ireturn, 1) := by decide +kernel
theorem dL_law__1351 : decode cL_law_ 1351 = .ok (.iload 5, 2) := by decide +kernel
theorem dL_law__1353 : decode cL_law_ 1353 = .ok (.ifCond .ne 15, 3) := by decide +kernel
theorem dL_law__1356 : decode cL_law_ 1356 = .ok (.aload_n 3, 1) := by decide +kernel
theorem dL_law__1357 : decode cL_law_ 1357 = .ok (.iconst 0, 1) := by decide +kernel
theorem dL_law__1358 : decode cL_law_ 1358 = .ok (.laload, 1) := by decide +kernel
theorem dL_law__1359 : decode cL_law_ 1359 = .ok (.iload 6, 2) := by decide +kernel
theorem dL_law__1361 : decode cL_law_ 1361 = .ok (.i2l, 1) := by decide +kernel
theorem dL_law__1362 : decode cL_law_ 1362 = .ok (.lcmp, 1) := by decide +kernel
theorem dL_law__1363 : decode cL_law_ 1363 = .ok (.ifCond .eq 5, 3) := by decide +kernel
theorem dL_law__1366 : decode cL_law_ 1366 = .ok (.iconst 0, 1) := by decide +kernel
theorem dL_law__1367 : decode cL_law_ 1367 = .ok (.ireturn, 1) := by decide +kernel
theorem dL_law__1368 : decode cL_law_ 1368 = .ok (.goto 1238, 3) := by decide +kernel
theorem dL_law__1371 : decode cL_law_ 1371 = .ok (.aload_n 1, 1) := by decide +kernel
theorem dL_law__1372 : decode cL_law_ 1372 = .ok (.aload_n 0, 1) := by decide +kernel
theorem dL_law__1373 : decode cL_law_ 1373 = .ok (.iload 4, 2) := by decide +kernel
theorem dL_law__1375 : decode cL_law_ 1375 = .ok (.iconst 1, 1) := by decide +kernel
theorem dL_law__1376 : decode cL_law_ 1376 = .ok (.iadd, 1) := by decide +kernel
theorem dL_law__1377 : decode cL_law_ 1377 = .ok (.iaload, 1) := by decide +kernel
theorem dL_law__1378 : decode cL_law_ 1378 = .ok (.aload_n 3, 1) := by decide +kernel
theorem dL_law__1379 : decode cL_law_ 1379 = .ok (.invokestatic 200, 3) := by decide +kernel
theorem dL_law__1382 : decode cL_law_ 1382 = .ok (.istore 5, 2) := by decide +kernel
theorem dL_law__1384 : decode cL_law_ 1384 = .ok (.aload_n 2, 1) := by decide +kernel
theorem dL_law__1385 : decode cL_law_ 1385 = .ok (.aload_n 0, 1) := by decide +kernel
theorem dL_law__1386 : decode cL_law_ 1386 = .ok (.iload 4, 2) := by decide +kernel
theorem dL_law__1388 : decode cL_law_ 1388 = .ok (.iconst 1, 1) := by decide +kernel
theorem dL_law__1389 : decode cL_law_ 1389 = .ok (.iadd, 1) := by decide +kernel
theorem dL_law__1390 : decode cL_law_ 1390 = .ok (.iaload, 1) := by decide +kernel
theorem dL_law__1391 : decode cL_law_ 1391 = .ok (.invokevirtual 202, 3) := by decide +kernel
theorem dL_law__1394 : decode cL_law_ 1394 = .ok (.istore 6, 2) := by decide +kernel
theorem dL_law__1396 : decode cL_law_ 1396 = .ok (.aload_n 2, 1) := by decide +kernel
theorem dL_law__1397 : decode cL_law_ 1397 = .ok (.invokevirtual 132, 3) := by decide +kernel
